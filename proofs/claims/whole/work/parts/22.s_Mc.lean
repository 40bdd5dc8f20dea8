theorem c_M_isChange {d : Nat} (d0 : Nat) (hd : d0 < d) {p1 : Int} {p2 : Int} {p3 : Int} {p4 : Int} {h : AH} {Q : Int → AH → Prop} (hy : inb p2 40 ∧ (inb p1 40 ∧ (inI ((h.1 58 p2) - (h.1 58 p1)) ∧ ((p3 = 0 → ((((h.1 58 p2) - (h.1 58 p1)) ≠ 0 → Q 0 h) ∧ (((h.1 58 p2) - (h.1 58 p1)) = 0 → (((h.1 58 p1) ≤ p4 → Q 0 h) ∧ (p4 < (h.1 58 p1) → (Call d0 M_M_letter [vR 12 (-1), vI p1, vI p4] h (fun r5 h4 => Call d0 M_M_letter [vR 12 (-1), vI p2, vI p4] h4 (fun r7 h6 => ((r5 = r7 → Q 0 h6) ∧ (r5 ≠ r7 → (Call d0 M_M_areAlikeBut [vR 12 (-1), vI p1, vI p2, vI p4, vI 1] h6 (fun r9 h8 => ((r9 = 0 → Q 0 h8) ∧ (r9 ≠ 0 → Q 1 h8)))))))))))))) ∧ (p3 = 1 → ((((h.1 58 p2) - (h.1 58 p1)) ≠ 1 → Q 0 h) ∧ (((h.1 58 p2) - (h.1 58 p1)) = 1 → (((h.1 58 p1) < p4 → Q 0 h) ∧ (p4 ≤ (h.1 58 p1) → (Call d0 M_M_isWithout [vR 12 (-1), vI p2, vI p4, vI p1] h (fun r11 h10 => ((r11 = 0 → Q 0 h10) ∧ (r11 ≠ 0 → Q 1 h10))))))))) ∧ (p3 = 2 → ((((h.1 58 p2) - (h.1 58 p1)) ≠ (-1) → Q 0 h) ∧ (((h.1 58 p2) - (h.1 58 p1)) = (-1) → (((h.1 58 p1) ≤ p4 → Q 0 h) ∧ (p4 < (h.1 58 p1) → (Call d0 M_M_isWithout [vR 12 (-1), vI p1, vI p4, vI p2] h (fun r13 h12 => ((r13 = 0 → Q 0 h12) ∧ (r13 ≠ 0 → Q 1 h12))))))))) ∧ ((p3 < 0 ∨ 2 < p3) → ((((h.1 58 p2) - (h.1 58 p1)) ≠ 0 → Q 0 h) ∧ (((h.1 58 p2) - (h.1 58 p1)) = 0 → (inI (p4 + 1) ∧ (((h.1 58 p1) ≤ (p4 + 1) → Q 0 h) ∧ ((p4 + 1) < (h.1 58 p1) → (Call d0 M_M_letter [vR 12 (-1), vI p1, vI p4] h (fun r16 h15 => Call d0 M_M_letter [vR 12 (-1), vI p1, vI (p4 + 1)] h15 (fun r18 h17 => ((r16 = r18 → Q 0 h17) ∧ (r16 ≠ r18 → (Call d0 M_M_letter [vR 12 (-1), vI p1, vI p4] h17 (fun r20 h19 => Call d0 M_M_letter [vR 12 (-1), vI p2, vI (p4 + 1)] h19 (fun r22 h21 => ((r20 ≠ r22 → Q 0 h21) ∧ (r20 = r22 → (Call d0 M_M_letter [vR 12 (-1), vI p1, vI (p4 + 1)] h21 (fun r24 h23 => Call d0 M_M_letter [vR 12 (-1), vI p2, vI p4] h23 (fun r26 h25 => ((r24 ≠ r26 → Q 0 h25) ∧ (r24 = r26 → (Call d0 M_M_areAlikeBut [vR 12 (-1), vI p1, vI p2, vI p4, vI 2] h25 (fun r28 h27 => ((r28 = 0 → Q 0 h27) ∧ (r28 ≠ 0 → Q 1 h27))))))))))))))))))))))))))))) : Call d M_M_isChange [vR 12 (-1), vI p1, vI p2, vI p3, vI p4] h Q := by
  refine ⟨d0, hd, Big.of rfl (Nat.le_of_ble_eq_true rfl) ?_⟩
  show AW d0 M_M_isChange Q 0 [some (vR 12 (-1)), some (vI p1), some (vI p2), some (vI p3), some (vI p4), none] [] h
  refine a_aload_n dX11_isChange_0 rfl ?_
  refine a_getR dX11_isChange_1 fl_M_7 sk_12 rfl ?_
  refine a_iload_n dX11_isChange_4 rfl ?_
  obtain ⟨c1, hy⟩ := hy
  refine a_iald' dX11_isChange_5 sk_58 c1 (rfl) ?_
  refine a_aload_n dX11_isChange_6 rfl ?_
  refine a_getR dX11_isChange_7 fl_M_7 sk_12 rfl ?_
  refine a_iload_n dX11_isChange_10 rfl ?_
  obtain ⟨c2, hy⟩ := hy
  refine a_iald' dX11_isChange_11 sk_58 c2 (rfl) ?_
  obtain ⟨c3, hy⟩ := hy
  refine a_isub dX11_isChange_12 c3 ?_
  refine a_istore (ls2 := [some (vR 12 (-1)), some (vI p1), some (vI p2), some (vI p3), some (vI p4), some (vI ((h.1 58 p2) - (h.1 58 p1)))]) dX11_isChange_13 (Nat.le_of_ble_eq_true rfl) rfl ?_
  refine a_iload_n dX11_isChange_15 rfl ?_
  obtain ⟨hy0, hy1, hy2, hyd⟩ := hy
  by_cases e0 : p3 = 0
  · have hy := hy0 e0
    refine a_tsw (i := 0) (tgt := 44) dX11_isChange_16 (e0.trans (by decide)) (by decide) rfl (by decide) ?_
    refine a_iload dX11_isChange_44 rfl ?_
    refine a_if_ne (tgt := 93) dX11_isChange_46 (by decide) (fun c => ?_) (fun c => ?_)
    · have hy := hy.1 c
      refine a_iconst (x := 0) dX11_isChange_93 rfl ⟨by decide, by decide⟩ ?_
      exact a_zret dX11_isChange_94 rfl (Or.inl rfl) hy
    · have hy := hy.2 (Decidable.not_not.mp c)
      refine a_iload dX11_isChange_49 rfl ?_
      refine a_aload_n dX11_isChange_51 rfl ?_
      refine a_getR dX11_isChange_52 fl_M_7 sk_12 rfl ?_
      refine a_iload_n dX11_isChange_55 rfl ?_
      refine a_iald' dX11_isChange_56 sk_58 c2 (rfl) ?_
      refine a_icmp_ge (tgt := 93) dX11_isChange_57 (by decide) (fun c => ?_) (fun c => ?_)
      · have hy := hy.1 c
        refine a_iconst (x := 0) dX11_isChange_93 rfl ⟨by decide, by decide⟩ ?_
        exact a_zret dX11_isChange_94 rfl (Or.inl rfl) hy
      · have hy := hy.2 (Int.not_le.mp c)
        refine a_aload_n dX11_isChange_60 rfl ?_
        refine a_iload_n dX11_isChange_61 rfl ?_
        refine a_iload dX11_isChange_62 rfl ?_
        refine a_callVi (as := [vI p1, vI p4]) (st := []) dX11_isChange_64 lk_M_262 sk_12 rfl rfl (Nat.le_of_ble_eq_true rfl) (Or.inl rfl) (Call.mono hy (fun r5 h4 _ hy => ?_))
        refine a_aload_n dX11_isChange_67 rfl ?_
        refine a_iload_n dX11_isChange_68 rfl ?_
        refine a_iload dX11_isChange_69 rfl ?_
        refine a_callVi (as := [vI p2, vI p4]) (st := [vI r5]) dX11_isChange_71 lk_M_262 sk_12 rfl rfl (Nat.le_of_ble_eq_true rfl) (Or.inl rfl) (Call.mono hy (fun r7 h6 _ hy => ?_))
        refine a_icmp_eq (tgt := 93) dX11_isChange_74 (by decide) (fun c => ?_) (fun c => ?_)
        · have hy := hy.1 c
          refine a_iconst (x := 0) dX11_isChange_93 rfl ⟨by decide, by decide⟩ ?_
          exact a_zret dX11_isChange_94 rfl (Or.inl rfl) hy
        · have hy := hy.2 (c)
          refine a_aload_n dX11_isChange_77 rfl ?_
          refine a_iload_n dX11_isChange_78 rfl ?_
          refine a_iload_n dX11_isChange_79 rfl ?_
          refine a_iload dX11_isChange_80 rfl ?_
          refine a_iconst (x := 1) dX11_isChange_82 rfl ⟨by decide, by decide⟩ ?_
          refine a_callVi (as := [vI p1, vI p2, vI p4, vI 1]) (st := []) dX11_isChange_83 lk_M_265 sk_12 rfl rfl (Nat.le_of_ble_eq_true rfl) (Or.inr rfl) (Call.mono hy (fun r9 h8 _ hy => ?_))
          refine a_if_eq (tgt := 93) dX11_isChange_86 (by decide) (fun c => ?_) (fun c => ?_)
          · have hy := hy.1 c
            refine a_iconst (x := 0) dX11_isChange_93 rfl ⟨by decide, by decide⟩ ?_
            exact a_zret dX11_isChange_94 rfl (Or.inl rfl) hy
          · have hy := hy.2 (c)
            refine a_iconst (x := 1) dX11_isChange_89 rfl ⟨by decide, by decide⟩ ?_
            refine a_goto (tgt := 94) dX11_isChange_90 (by decide) ?_
            exact a_zret dX11_isChange_94 rfl (Or.inr rfl) hy
  by_cases e1 : p3 = 1
  · have hy := hy1 e1
    refine a_tsw (i := 1) (tgt := 95) dX11_isChange_16 (e1.trans (by decide)) (by decide) rfl (by decide) ?_
    refine a_iload dX11_isChange_95 rfl ?_
    refine a_iconst (x := 1) dX11_isChange_97 rfl ⟨by decide, by decide⟩ ?_
    refine a_icmp_ne (tgt := 127) dX11_isChange_98 (by decide) (fun c => ?_) (fun c => ?_)
    · have hy := hy.1 c
      refine a_iconst (x := 0) dX11_isChange_127 rfl ⟨by decide, by decide⟩ ?_
      exact a_zret dX11_isChange_128 rfl (Or.inl rfl) hy
    · have hy := hy.2 (Decidable.not_not.mp c)
      refine a_iload dX11_isChange_101 rfl ?_
      refine a_aload_n dX11_isChange_103 rfl ?_
      refine a_getR dX11_isChange_104 fl_M_7 sk_12 rfl ?_
      refine a_iload_n dX11_isChange_107 rfl ?_
      refine a_iald' dX11_isChange_108 sk_58 c2 (rfl) ?_
      refine a_icmp_gt (tgt := 127) dX11_isChange_109 (by decide) (fun c => ?_) (fun c => ?_)
      · have hy := hy.1 c
        refine a_iconst (x := 0) dX11_isChange_127 rfl ⟨by decide, by decide⟩ ?_
        exact a_zret dX11_isChange_128 rfl (Or.inl rfl) hy
      · have hy := hy.2 (Int.not_lt.mp c)
        refine a_aload_n dX11_isChange_112 rfl ?_
        refine a_iload_n dX11_isChange_113 rfl ?_
        refine a_iload dX11_isChange_114 rfl ?_
        refine a_iload_n dX11_isChange_116 rfl ?_
        refine a_callVi (as := [vI p2, vI p4, vI p1]) (st := []) dX11_isChange_117 lk_M_269 sk_12 rfl rfl (Nat.le_of_ble_eq_true rfl) (Or.inr rfl) (Call.mono hy (fun r11 h10 _ hy => ?_))
        refine a_if_eq (tgt := 127) dX11_isChange_120 (by decide) (fun c => ?_) (fun c => ?_)
        · have hy := hy.1 c
          refine a_iconst (x := 0) dX11_isChange_127 rfl ⟨by decide, by decide⟩ ?_
          exact a_zret dX11_isChange_128 rfl (Or.inl rfl) hy
        · have hy := hy.2 (c)
          refine a_iconst (x := 1) dX11_isChange_123 rfl ⟨by decide, by decide⟩ ?_
          refine a_goto (tgt := 128) dX11_isChange_124 (by decide) ?_
          exact a_zret dX11_isChange_128 rfl (Or.inr rfl) hy
  by_cases e2 : p3 = 2
  · have hy := hy2 e2
    refine a_tsw (i := 2) (tgt := 129) dX11_isChange_16 (e2.trans (by decide)) (by decide) rfl (by decide) ?_
    refine a_iload dX11_isChange_129 rfl ?_
    refine a_iconst (x := (-1)) dX11_isChange_131 rfl ⟨by decide, by decide⟩ ?_
    refine a_icmp_ne (tgt := 161) dX11_isChange_132 (by decide) (fun c => ?_) (fun c => ?_)
    · have hy := hy.1 c
      refine a_iconst (x := 0) dX11_isChange_161 rfl ⟨by decide, by decide⟩ ?_
      exact a_zret dX11_isChange_162 rfl (Or.inl rfl) hy
    · have hy := hy.2 (Decidable.not_not.mp c)
      refine a_iload dX11_isChange_135 rfl ?_
      refine a_aload_n dX11_isChange_137 rfl ?_
      refine a_getR dX11_isChange_138 fl_M_7 sk_12 rfl ?_
      refine a_iload_n dX11_isChange_141 rfl ?_
      refine a_iald' dX11_isChange_142 sk_58 c2 (rfl) ?_
      refine a_icmp_ge (tgt := 161) dX11_isChange_143 (by decide) (fun c => ?_) (fun c => ?_)
      · have hy := hy.1 c
        refine a_iconst (x := 0) dX11_isChange_161 rfl ⟨by decide, by decide⟩ ?_
        exact a_zret dX11_isChange_162 rfl (Or.inl rfl) hy
      · have hy := hy.2 (Int.not_le.mp c)
        refine a_aload_n dX11_isChange_146 rfl ?_
        refine a_iload_n dX11_isChange_147 rfl ?_
        refine a_iload dX11_isChange_148 rfl ?_
        refine a_iload_n dX11_isChange_150 rfl ?_
        refine a_callVi (as := [vI p1, vI p4, vI p2]) (st := []) dX11_isChange_151 lk_M_269 sk_12 rfl rfl (Nat.le_of_ble_eq_true rfl) (Or.inr rfl) (Call.mono hy (fun r13 h12 _ hy => ?_))
        refine a_if_eq (tgt := 161) dX11_isChange_154 (by decide) (fun c => ?_) (fun c => ?_)
        · have hy := hy.1 c
          refine a_iconst (x := 0) dX11_isChange_161 rfl ⟨by decide, by decide⟩ ?_
          exact a_zret dX11_isChange_162 rfl (Or.inl rfl) hy
        · have hy := hy.2 (c)
          refine a_iconst (x := 1) dX11_isChange_157 rfl ⟨by decide, by decide⟩ ?_
          refine a_goto (tgt := 162) dX11_isChange_158 (by decide) ?_
          exact a_zret dX11_isChange_162 rfl (Or.inr rfl) hy
  have ed : (p3 < 0 ∨ 2 < p3) := by omega
  have hy := hyd ed
  refine a_tswD (tgt := 163) dX11_isChange_16 ed (by decide) ?_
  refine a_iload dX11_isChange_163 rfl ?_
  refine a_if_ne (tgt := 254) dX11_isChange_165 (by decide) (fun c => ?_) (fun c => ?_)
  · have hy := hy.1 c
    refine a_iconst (x := 0) dX11_isChange_254 rfl ⟨by decide, by decide⟩ ?_
    exact a_zret dX11_isChange_255 rfl (Or.inl rfl) hy
  · have hy := hy.2 (Decidable.not_not.mp c)
    refine a_iload dX11_isChange_168 rfl ?_
    refine a_iconst (x := 1) dX11_isChange_170 rfl ⟨by decide, by decide⟩ ?_
    obtain ⟨c14, hy⟩ := hy
    refine a_iadd dX11_isChange_171 c14 ?_
    refine a_aload_n dX11_isChange_172 rfl ?_
    refine a_getR dX11_isChange_173 fl_M_7 sk_12 rfl ?_
    refine a_iload_n dX11_isChange_176 rfl ?_
    refine a_iald' dX11_isChange_177 sk_58 c2 (rfl) ?_
    refine a_icmp_ge (tgt := 254) dX11_isChange_178 (by decide) (fun c => ?_) (fun c => ?_)
    · have hy := hy.1 c
      refine a_iconst (x := 0) dX11_isChange_254 rfl ⟨by decide, by decide⟩ ?_
      exact a_zret dX11_isChange_255 rfl (Or.inl rfl) hy
    · have hy := hy.2 (Int.not_le.mp c)
      refine a_aload_n dX11_isChange_181 rfl ?_
      refine a_iload_n dX11_isChange_182 rfl ?_
      refine a_iload dX11_isChange_183 rfl ?_
      refine a_callVi (as := [vI p1, vI p4]) (st := []) dX11_isChange_185 lk_M_262 sk_12 rfl rfl (Nat.le_of_ble_eq_true rfl) (Or.inl rfl) (Call.mono hy (fun r16 h15 _ hy => ?_))
      refine a_aload_n dX11_isChange_188 rfl ?_
      refine a_iload_n dX11_isChange_189 rfl ?_
      refine a_iload dX11_isChange_190 rfl ?_
      refine a_iconst (x := 1) dX11_isChange_192 rfl ⟨by decide, by decide⟩ ?_
      refine a_iadd dX11_isChange_193 c14 ?_
      refine a_callVi (as := [vI p1, vI (p4 + 1)]) (st := [vI r16]) dX11_isChange_194 lk_M_262 sk_12 rfl rfl (Nat.le_of_ble_eq_true rfl) (Or.inl rfl) (Call.mono hy (fun r18 h17 _ hy => ?_))
      refine a_icmp_eq (tgt := 254) dX11_isChange_197 (by decide) (fun c => ?_) (fun c => ?_)
      · have hy := hy.1 c
        refine a_iconst (x := 0) dX11_isChange_254 rfl ⟨by decide, by decide⟩ ?_
        exact a_zret dX11_isChange_255 rfl (Or.inl rfl) hy
      · have hy := hy.2 (c)
        refine a_aload_n dX11_isChange_200 rfl ?_
        refine a_iload_n dX11_isChange_201 rfl ?_
        refine a_iload dX11_isChange_202 rfl ?_
        refine a_callVi (as := [vI p1, vI p4]) (st := []) dX11_isChange_204 lk_M_262 sk_12 rfl rfl (Nat.le_of_ble_eq_true rfl) (Or.inl rfl) (Call.mono hy (fun r20 h19 _ hy => ?_))
        refine a_aload_n dX11_isChange_207 rfl ?_
        refine a_iload_n dX11_isChange_208 rfl ?_
        refine a_iload dX11_isChange_209 rfl ?_
        refine a_iconst (x := 1) dX11_isChange_211 rfl ⟨by decide, by decide⟩ ?_
        refine a_iadd dX11_isChange_212 c14 ?_
        refine a_callVi (as := [vI p2, vI (p4 + 1)]) (st := [vI r20]) dX11_isChange_213 lk_M_262 sk_12 rfl rfl (Nat.le_of_ble_eq_true rfl) (Or.inl rfl) (Call.mono hy (fun r22 h21 _ hy => ?_))
        refine a_icmp_ne (tgt := 254) dX11_isChange_216 (by decide) (fun c => ?_) (fun c => ?_)
        · have hy := hy.1 c
          refine a_iconst (x := 0) dX11_isChange_254 rfl ⟨by decide, by decide⟩ ?_
          exact a_zret dX11_isChange_255 rfl (Or.inl rfl) hy
        · have hy := hy.2 (Decidable.not_not.mp c)
          refine a_aload_n dX11_isChange_219 rfl ?_
          refine a_iload_n dX11_isChange_220 rfl ?_
          refine a_iload dX11_isChange_221 rfl ?_
          refine a_iconst (x := 1) dX11_isChange_223 rfl ⟨by decide, by decide⟩ ?_
          refine a_iadd dX11_isChange_224 c14 ?_
          refine a_callVi (as := [vI p1, vI (p4 + 1)]) (st := []) dX11_isChange_225 lk_M_262 sk_12 rfl rfl (Nat.le_of_ble_eq_true rfl) (Or.inl rfl) (Call.mono hy (fun r24 h23 _ hy => ?_))
          refine a_aload_n dX11_isChange_228 rfl ?_
          refine a_iload_n dX11_isChange_229 rfl ?_
          refine a_iload dX11_isChange_230 rfl ?_
          refine a_callVi (as := [vI p2, vI p4]) (st := [vI r24]) dX11_isChange_232 lk_M_262 sk_12 rfl rfl (Nat.le_of_ble_eq_true rfl) (Or.inl rfl) (Call.mono hy (fun r26 h25 _ hy => ?_))
          refine a_icmp_ne (tgt := 254) dX11_isChange_235 (by decide) (fun c => ?_) (fun c => ?_)
          · have hy := hy.1 c
            refine a_iconst (x := 0) dX11_isChange_254 rfl ⟨by decide, by decide⟩ ?_
            exact a_zret dX11_isChange_255 rfl (Or.inl rfl) hy
          · have hy := hy.2 (Decidable.not_not.mp c)
            refine a_aload_n dX11_isChange_238 rfl ?_
            refine a_iload_n dX11_isChange_239 rfl ?_
            refine a_iload_n dX11_isChange_240 rfl ?_
            refine a_iload dX11_isChange_241 rfl ?_
            refine a_iconst (x := 2) dX11_isChange_243 rfl ⟨by decide, by decide⟩ ?_
            refine a_callVi (as := [vI p1, vI p2, vI p4, vI 2]) (st := []) dX11_isChange_244 lk_M_265 sk_12 rfl rfl (Nat.le_of_ble_eq_true rfl) (Or.inr rfl) (Call.mono hy (fun r28 h27 _ hy => ?_))
            refine a_if_eq (tgt := 254) dX11_isChange_247 (by decide) (fun c => ?_) (fun c => ?_)
            · have hy := hy.1 c
              refine a_iconst (x := 0) dX11_isChange_254 rfl ⟨by decide, by decide⟩ ?_
              exact a_zret dX11_isChange_255 rfl (Or.inl rfl) hy
            · have hy := hy.2 (c)
              refine a_iconst (x := 1) dX11_isChange_250 rfl ⟨by decide, by decide⟩ ?_
              refine a_goto (tgt := 255) dX11_isChange_251 (by decide) ?_
              exact a_zret dX11_isChange_255 rfl (Or.inr rfl) hy
def A_M_isClear_2 (d : Nat) (Q : Int → AH → Prop) (p1 : Int) (p2 : Int) (v3 : Int) (h : AH) : Prop := AW d M_M_isClear Q 2 [some (vR 12 (-1)), some (vI p1), some (vI p2), some (vI v3)] [] h
theorem s_M_isClear_2 {d : Nat} {Q : Int → AH → Prop} {p1 : Int} {p2 : Int} {v3 : Int} {h : AH} (hy : ((p2 ≤ v3 → Q 1 h) ∧ (v3 < p2 → (((iand (ishr p1 v3) 1) ≠ 1 → (inI (v3 + 1) ∧ A_M_isClear_2 d Q p1 p2 (v3 + 1) h)) ∧ ((iand (ishr p1 v3) 1) = 1 → (inb v3 14 ∧ (((iand p1 (h.1 91 v3)) = 0 → (inI (v3 + 1) ∧ A_M_isClear_2 d Q p1 p2 (v3 + 1) h)) ∧ ((iand p1 (h.1 91 v3)) ≠ 0 → Q 0 h)))))))) : A_M_isClear_2 d Q p1 p2 v3 h := by
  show AW d M_M_isClear Q 2 [some (vR 12 (-1)), some (vI p1), some (vI p2), some (vI v3)] [] h
  refine a_iload_n dX11_isClear_2 rfl ?_
  refine a_iload_n dX11_isClear_3 rfl ?_
  refine a_icmp_ge (tgt := 35) dX11_isClear_4 (by decide) (fun c => ?_) (fun c => ?_)
  · have hy := hy.1 c
    refine a_iconst (x := 1) dX11_isClear_35 rfl ⟨by decide, by decide⟩ ?_
    exact a_zret dX11_isClear_36 rfl (Or.inr rfl) hy
  · have hy := hy.2 (Int.not_le.mp c)
    refine a_iload_n dX11_isClear_7 rfl ?_
    refine a_iload_n dX11_isClear_8 rfl ?_
    refine a_ishr dX11_isClear_9 ?_
    refine a_iconst (x := 1) dX11_isClear_10 rfl ⟨by decide, by decide⟩ ?_
    refine a_iand dX11_isClear_11 ?_
    refine a_iconst (x := 1) dX11_isClear_12 rfl ⟨by decide, by decide⟩ ?_
    refine a_icmp_ne (tgt := 29) dX11_isClear_13 (by decide) (fun c => ?_) (fun c => ?_)
    · have hy := hy.1 c
      obtain ⟨c1, hy⟩ := hy
      refine a_iinc (y := v3 + 1) (ls2 := [some (vR 12 (-1)), some (vI p1), some (vI p2), some (vI (v3 + 1))]) dX11_isClear_29 rfl rfl c1 rfl ?_
      refine a_goto (tgt := 2) dX11_isClear_32 (by decide) ?_
      exact hy
    · have hy := hy.2 (Decidable.not_not.mp c)
      refine a_iload_n dX11_isClear_16 rfl ?_
      refine a_aload_n dX11_isClear_17 rfl ?_
      refine a_getR dX11_isClear_18 fl_M_113 sk_12 rfl ?_
      refine a_iload_n dX11_isClear_21 rfl ?_
      obtain ⟨c2, hy⟩ := hy
      refine a_iald' dX11_isClear_22 sk_91 c2 (rfl) ?_
      refine a_iand dX11_isClear_23 ?_
      refine a_if_eq (tgt := 29) dX11_isClear_24 (by decide) (fun c => ?_) (fun c => ?_)
      · have hy := hy.1 c
        obtain ⟨c3, hy⟩ := hy
        refine a_iinc (y := v3 + 1) (ls2 := [some (vR 12 (-1)), some (vI p1), some (vI p2), some (vI (v3 + 1))]) dX11_isClear_29 rfl rfl c3 rfl ?_
        refine a_goto (tgt := 2) dX11_isClear_32 (by decide) ?_
        exact hy
      · have hy := hy.2 (c)
        refine a_iconst (x := 0) dX11_isClear_27 rfl ⟨by decide, by decide⟩ ?_
        exact a_zret dX11_isClear_28 rfl (Or.inl rfl) hy
theorem c_M_isClear {d : Nat} (d0 : Nat) (hd : d0 < d) {p1 : Int} {p2 : Int} {h : AH} {Q : Int → AH → Prop} (hy : A_M_isClear_2 d0 Q p1 p2 0 h) : Call d M_M_isClear [vR 12 (-1), vI p1, vI p2] h Q := by
  refine ⟨d0, hd, Big.of rfl (Nat.le_of_ble_eq_true rfl) ?_⟩
  show AW d0 M_M_isClear Q 0 [some (vR 12 (-1)), some (vI p1), some (vI p2), none] [] h
  refine a_iconst (x := 0) dX11_isClear_0 rfl ⟨by decide, by decide⟩ ?_
  refine a_istore_n (i := 3) (ls2 := [some (vR 12 (-1)), some (vI p1), some (vI p2), some (vI 0)]) dX11_isClear_1 rfl (Nat.le_of_ble_eq_true rfl) rfl ?_
  exact hy
theorem c_M_isDigit {d : Nat} (d0 : Nat) (hd : d0 < d)  {h : AH} {Q : Int → AH → Prop} (hy : Call d0 M_M_here [vR 12 (-1)] h (fun r2 h1 => ((r2 < 48 → Q 0 h1) ∧ (48 ≤ r2 → (Call d0 M_M_here [vR 12 (-1)] h1 (fun r4 h3 => ((57 < r4 → Q 0 h3) ∧ (r4 ≤ 57 → Q 1 h3)))))))) : Call d M_M_isDigit [vR 12 (-1)] h Q := by
  refine ⟨d0, hd, Big.of rfl (Nat.le_of_ble_eq_true rfl) ?_⟩
  show AW d0 M_M_isDigit Q 0 [some (vR 12 (-1))] [] h
  refine a_aload_n dX11_isDigit_0 rfl ?_
  refine a_callVi (as := []) (st := []) dX11_isDigit_1 lk_M_167 sk_12 rfl rfl (Nat.le_of_ble_eq_true rfl) (Or.inl rfl) (Call.mono hy (fun r2 h1 _ hy => ?_))
  refine a_bipush (x := 48) dX11_isDigit_4 (by decide) ⟨by decide, by decide⟩ ?_
  refine a_icmp_lt (tgt := 22) dX11_isDigit_6 (by decide) (fun c => ?_) (fun c => ?_)
  · have hy := hy.1 c
    refine a_iconst (x := 0) dX11_isDigit_22 rfl ⟨by decide, by decide⟩ ?_
    exact a_zret dX11_isDigit_23 rfl (Or.inl rfl) hy
  · have hy := hy.2 (Int.not_lt.mp c)
    refine a_aload_n dX11_isDigit_9 rfl ?_
    refine a_callVi (as := []) (st := []) dX11_isDigit_10 lk_M_167 sk_12 rfl rfl (Nat.le_of_ble_eq_true rfl) (Or.inl rfl) (Call.mono hy (fun r4 h3 _ hy => ?_))
    refine a_bipush (x := 57) dX11_isDigit_13 (by decide) ⟨by decide, by decide⟩ ?_
    refine a_icmp_gt (tgt := 22) dX11_isDigit_15 (by decide) (fun c => ?_) (fun c => ?_)
    · have hy := hy.1 c
      refine a_iconst (x := 0) dX11_isDigit_22 rfl ⟨by decide, by decide⟩ ?_
      exact a_zret dX11_isDigit_23 rfl (Or.inl rfl) hy
    · have hy := hy.2 (Int.not_lt.mp c)
      refine a_iconst (x := 1) dX11_isDigit_18 rfl ⟨by decide, by decide⟩ ?_
      refine a_goto (tgt := 23) dX11_isDigit_19 (by decide) ?_
      exact a_zret dX11_isDigit_23 rfl (Or.inr rfl) hy
def A_M_isNear_34 (d : Nat) (Q : Int → AH → Prop) (p1 : Int) (v2 : Int) (h : AH) : Prop := AW d M_M_isNear Q 34 [some (vR 12 (-1)), some (vI p1), some (vI v2), none, none] [] h
def A_M_isNear_56 (d : Nat) (Q : Int → AH → Prop) (p1 : Int) (v2 : Int) (v3 : Int) (v4 : Int) (h : AH) : Prop := AW d M_M_isNear Q 56 [some (vR 12 (-1)), some (vI p1), some (vI v2), some (vI v3), some (vI v4)] [] h
theorem s_M_isNear_34 {d : Nat} {Q : Int → AH → Prop} {p1 : Int} {v2 : Int} {h : AH} (hy : ((v2 ≠ 1 → A_M_isNear_56 d Q p1 v2 (h.1 12 9) 0 h) ∧ (v2 = 1 → (inb p1 40 ∧ A_M_isNear_56 d Q p1 v2 (h.1 58 p1) 0 h)))) : A_M_isNear_34 d Q p1 v2 h := by
  show AW d M_M_isNear Q 34 [some (vR 12 (-1)), some (vI p1), some (vI v2), none, none] [] h
  refine a_iload_n dX11_isNear_34 rfl ?_
  refine a_iconst (x := 1) dX11_isNear_35 rfl ⟨by decide, by decide⟩ ?_
  refine a_icmp_ne (tgt := 48) dX11_isNear_36 (by decide) (fun c => ?_) (fun c => ?_)
  · have hy := hy.1 c
    refine a_aload_n dX11_isNear_48 rfl ?_
    refine a_getI' (kz := 9) dX11_isNear_49 fl_M_136 sk_12 rfl rfl (rfl) ?_
    refine a_istore_n (i := 3) (ls2 := [some (vR 12 (-1)), some (vI p1), some (vI v2), some (vI (h.1 12 9)), none]) dX11_isNear_52 rfl (Nat.le_of_ble_eq_true rfl) rfl ?_
    refine a_iconst (x := 0) dX11_isNear_53 rfl ⟨by decide, by decide⟩ ?_
    refine a_istore (ls2 := [some (vR 12 (-1)), some (vI p1), some (vI v2), some (vI (h.1 12 9)), some (vI 0)]) dX11_isNear_54 (Nat.le_of_ble_eq_true rfl) rfl ?_
    exact hy
  · have hy := hy.2 (Decidable.not_not.mp c)
    refine a_aload_n dX11_isNear_39 rfl ?_
    refine a_getR dX11_isNear_40 fl_M_7 sk_12 rfl ?_
    refine a_iload_n dX11_isNear_43 rfl ?_
    obtain ⟨c1, hy⟩ := hy
    refine a_iald' dX11_isNear_44 sk_58 c1 (rfl) ?_
    refine a_goto (tgt := 52) dX11_isNear_45 (by decide) ?_
    refine a_istore_n (i := 3) (ls2 := [some (vR 12 (-1)), some (vI p1), some (vI v2), some (vI (h.1 58 p1)), none]) dX11_isNear_52 rfl (Nat.le_of_ble_eq_true rfl) rfl ?_
    refine a_iconst (x := 0) dX11_isNear_53 rfl ⟨by decide, by decide⟩ ?_
    refine a_istore (ls2 := [some (vR 12 (-1)), some (vI p1), some (vI v2), some (vI (h.1 58 p1)), some (vI 0)]) dX11_isNear_54 (Nat.le_of_ble_eq_true rfl) rfl ?_
    exact hy
theorem s_M_isNear_56 {d : Nat} {Q : Int → AH → Prop} {p1 : Int} {v2 : Int} {v3 : Int} {v4 : Int} {h : AH} (hy : ((v3 ≤ v4 → Q 0 h) ∧ (v4 < v3 → (Call d M_M_isRowWithout [vR 12 (-1), vI p1, vI v4, vI (if v2 = 1 then (1 : Int) else 0)] h (fun r2 h1 => ((r2 = 0 → (inI (v4 + 1) ∧ A_M_isNear_56 d Q p1 v2 v3 (v4 + 1) h1)) ∧ (r2 ≠ 0 → Q 1 h1))))))) : A_M_isNear_56 d Q p1 v2 v3 v4 h := by
  show AW d M_M_isNear Q 56 [some (vR 12 (-1)), some (vI p1), some (vI v2), some (vI v3), some (vI v4)] [] h
  refine a_iload dX11_isNear_56 rfl ?_
  refine a_iload_n dX11_isNear_58 rfl ?_
  refine a_icmp_ge (tgt := 90) dX11_isNear_59 (by decide) (fun c => ?_) (fun c => ?_)
  · have hy := hy.1 c
    refine a_iconst (x := 0) dX11_isNear_90 rfl ⟨by decide, by decide⟩ ?_
    exact a_zret dX11_isNear_91 rfl (Or.inl rfl) hy
  · have hy := hy.2 (Int.not_le.mp c)
    refine a_aload_n dX11_isNear_62 rfl ?_
    refine a_iload_n dX11_isNear_63 rfl ?_
    refine a_iload dX11_isNear_64 rfl ?_
    refine a_iload_n dX11_isNear_66 rfl ?_
    refine a_iconst (x := 1) dX11_isNear_67 rfl ⟨by decide, by decide⟩ ?_
    have J : AW d M_M_isNear Q 76 [some (vR 12 (-1)), some (vI p1), some (vI v2), some (vI v3), some (vI v4)] [vI (if v2 = 1 then (1 : Int) else 0), vI v4, vI p1, vR 12 (-1)] h := by
      refine a_callVi (as := [vI p1, vI v4, vI (if v2 = 1 then (1 : Int) else 0)]) (st := []) dX11_isNear_76 lk_M_335 sk_12 rfl rfl (Nat.le_of_ble_eq_true rfl) (Or.inr rfl) (Call.mono hy (fun r2 h1 _ hy => ?_))
      refine a_if_eq (tgt := 84) dX11_isNear_79 (by decide) (fun c => ?_) (fun c => ?_)
      · have hy := hy.1 c
        obtain ⟨c3, hy⟩ := hy
        refine a_iinc (y := v4 + 1) (ls2 := [some (vR 12 (-1)), some (vI p1), some (vI v2), some (vI v3), some (vI (v4 + 1))]) dX11_isNear_84 rfl rfl c3 rfl ?_
        refine a_goto (tgt := 56) dX11_isNear_87 (by decide) ?_
        exact hy
      · have hy := hy.2 (c)
        refine a_iconst (x := 1) dX11_isNear_82 rfl ⟨by decide, by decide⟩ ?_
        exact a_zret dX11_isNear_83 rfl (Or.inr rfl) hy
    refine a_icmp_ne (tgt := 75) dX11_isNear_68 (by decide) (fun e4 => ?_) (fun e4 => ?_)
    · refine a_iconst (x := 0) dX11_isNear_75 rfl ⟨by decide, by decide⟩ ?_
      exact a_cast (by first | rfl | simp only [if_neg e4]) (by first | rfl | simp only [if_neg e4]) J
    · refine a_iconst (x := 1) dX11_isNear_71 rfl ⟨by decide, by decide⟩ ?_
      refine a_goto (tgt := 76) dX11_isNear_72 (by decide) ?_
      exact a_cast (by first | rfl | simp only [if_pos (Decidable.not_not.mp e4)]) (by first | rfl | simp only [if_pos (Decidable.not_not.mp e4)]) J
theorem c_M_isNear {d : Nat} (d0 : Nat) (hd : d0 < d) {p1 : Int} {h : AH} {Q : Int → AH → Prop} (hy : inb p1 40 ∧ (inI ((h.1 58 p1) - (h.1 12 9)) ∧ ((((h.1 58 p1) - (h.1 12 9)) ≠ 0 → ((((h.1 58 p1) - (h.1 12 9)) = 1 → A_M_isNear_34 d0 Q p1 ((h.1 58 p1) - (h.1 12 9)) h) ∧ (((h.1 58 p1) - (h.1 12 9)) ≠ 1 → ((((h.1 58 p1) - (h.1 12 9)) = (-1) → A_M_isNear_34 d0 Q p1 ((h.1 58 p1) - (h.1 12 9)) h) ∧ (((h.1 58 p1) - (h.1 12 9)) ≠ (-1) → Q 0 h))))) ∧ (((h.1 58 p1) - (h.1 12 9)) = 0 → (Call d0 M_M_isNearAlike [vR 12 (-1), vI p1] h (fun r4 h3 => (r4 = 0 ∨ r4 = 1) ∧ Q r4 h3)))))) : Call d M_M_isNear [vR 12 (-1), vI p1] h Q := by
  refine ⟨d0, hd, Big.of rfl (Nat.le_of_ble_eq_true rfl) ?_⟩
  show AW d0 M_M_isNear Q 0 [some (vR 12 (-1)), some (vI p1), none, none, none] [] h
  refine a_aload_n dX11_isNear_0 rfl ?_
  refine a_getR dX11_isNear_1 fl_M_7 sk_12 rfl ?_
  refine a_iload_n dX11_isNear_4 rfl ?_
  obtain ⟨c1, hy⟩ := hy
  refine a_iald' dX11_isNear_5 sk_58 c1 (rfl) ?_
  refine a_aload_n dX11_isNear_6 rfl ?_
  refine a_getI' (kz := 9) dX11_isNear_7 fl_M_136 sk_12 rfl rfl (rfl) ?_
  obtain ⟨c2, hy⟩ := hy
  refine a_isub dX11_isNear_10 c2 ?_
  refine a_istore_n (i := 2) (ls2 := [some (vR 12 (-1)), some (vI p1), some (vI ((h.1 58 p1) - (h.1 12 9))), none, none]) dX11_isNear_11 rfl (Nat.le_of_ble_eq_true rfl) rfl ?_
  refine a_iload_n dX11_isNear_12 rfl ?_
  refine a_if_ne (tgt := 22) dX11_isNear_13 (by decide) (fun c => ?_) (fun c => ?_)
  · have hy := hy.1 c
    refine a_iload_n dX11_isNear_22 rfl ?_
    refine a_iconst (x := 1) dX11_isNear_23 rfl ⟨by decide, by decide⟩ ?_
    refine a_icmp_eq (tgt := 34) dX11_isNear_24 (by decide) (fun c => ?_) (fun c => ?_)
    · have hy := hy.1 c
      exact hy
    · have hy := hy.2 (c)
      refine a_iload_n dX11_isNear_27 rfl ?_
      refine a_iconst (x := (-1)) dX11_isNear_28 rfl ⟨by decide, by decide⟩ ?_
      refine a_icmp_eq (tgt := 34) dX11_isNear_29 (by decide) (fun c => ?_) (fun c => ?_)
      · have hy := hy.1 c
        exact hy
      · have hy := hy.2 (c)
        refine a_iconst (x := 0) dX11_isNear_32 rfl ⟨by decide, by decide⟩ ?_
        exact a_zret dX11_isNear_33 rfl (Or.inl rfl) hy
  · have hy := hy.2 (Decidable.not_not.mp c)
    refine a_aload_n dX11_isNear_16 rfl ?_
    refine a_iload_n dX11_isNear_17 rfl ?_
    refine a_callVi (as := [vI p1]) (st := []) dX11_isNear_18 lk_M_332 sk_12 rfl rfl (Nat.le_of_ble_eq_true rfl) (Or.inr rfl) (Call.mono hy (fun r4 h3 _ hy => ?_))
    obtain ⟨c5, hy⟩ := hy
    exact a_zret dX11_isNear_21 rfl c5 hy
def A_M_isNearAlike_10 (d : Nat) (Q : Int → AH → Prop) (p1 : Int) (v2 : Int) (v3 : Int) (v4 : Int) (v5 : Int) (h : AH) : Prop := AW d M_M_isNearAlike Q 10 [some (vR 12 (-1)), some (vI p1), some (vI v2), some (vI v3), some (vI v4), some (vI v5)] [] h
theorem s_M_isNearAlike_10 {d : Nat} {Q : Int → AH → Prop} {p1 : Int} {v2 : Int} {v3 : Int} {v4 : Int} {v5 : Int} {h : AH} (hy : (((h.1 12 9) ≤ v5 → ((v2 = 1 → Q 1 h) ∧ (v2 ≠ 1 → ((v2 ≠ 2 → Q 0 h) ∧ (v2 = 2 → (inI (v3 + 1) ∧ ((v4 ≠ (v3 + 1) → Q 0 h) ∧ (v4 = (v3 + 1) → (inb v3 12 ∧ (Call d M_M_letter [vR 12 (-1), vI p1, vI v4] h (fun r4 h3 => (((h.1 63 v3) ≠ r4 → Q 0 h3) ∧ ((h.1 63 v3) = r4 → (inb v4 12 ∧ (Call d M_M_letter [vR 12 (-1), vI p1, vI v3] h3 (fun r7 h6 => (((h3.1 63 v4) ≠ r7 → Q 0 h6) ∧ ((h3.1 63 v4) = r7 → Q 1 h6)))))))))))))))))) ∧ (v5 < (h.1 12 9) → (inb v5 12 ∧ (Call d M_M_letter [vR 12 (-1), vI p1, vI v5] h (fun r10 h9 => (((h.1 63 v5) ≠ r10 → (inI (v2 + 1) ∧ (inI (v5 + 1) ∧ A_M_isNearAlike_10 d Q p1 (v2 + 1) (if v3 = (-1) then (v5 : Int) else v3) v5 (v5 + 1) h9))) ∧ ((h.1 63 v5) = r10 → (inI (v5 + 1) ∧ A_M_isNearAlike_10 d Q p1 v2 v3 v4 (v5 + 1) h9))))))))) : A_M_isNearAlike_10 d Q p1 v2 v3 v4 v5 h := by
  show AW d M_M_isNearAlike Q 10 [some (vR 12 (-1)), some (vI p1), some (vI v2), some (vI v3), some (vI v4), some (vI v5)] [] h
  refine a_iload dX11_isNearAlike_10 rfl ?_
  refine a_aload_n dX11_isNearAlike_12 rfl ?_
  refine a_getI' (kz := 9) dX11_isNearAlike_13 fl_M_136 sk_12 rfl rfl (rfl) ?_
  refine a_icmp_ge (tgt := 65) dX11_isNearAlike_16 (by decide) (fun c => ?_) (fun c => ?_)
  · have hy := hy.1 c
    refine a_iload_n dX11_isNearAlike_65 rfl ?_
    refine a_iconst (x := 1) dX11_isNearAlike_66 rfl ⟨by decide, by decide⟩ ?_
    refine a_icmp_eq (tgt := 115) dX11_isNearAlike_67 (by decide) (fun c => ?_) (fun c => ?_)
    · have hy := hy.1 c
      refine a_iconst (x := 1) dX11_isNearAlike_115 rfl ⟨by decide, by decide⟩ ?_
      refine a_goto (tgt := 120) dX11_isNearAlike_116 (by decide) ?_
      exact a_zret dX11_isNearAlike_120 rfl (Or.inr rfl) hy
    · have hy := hy.2 (c)
      refine a_iload_n dX11_isNearAlike_70 rfl ?_
      refine a_iconst (x := 2) dX11_isNearAlike_71 rfl ⟨by decide, by decide⟩ ?_
      refine a_icmp_ne (tgt := 119) dX11_isNearAlike_72 (by decide) (fun c => ?_) (fun c => ?_)
      · have hy := hy.1 c
        refine a_iconst (x := 0) dX11_isNearAlike_119 rfl ⟨by decide, by decide⟩ ?_
        exact a_zret dX11_isNearAlike_120 rfl (Or.inl rfl) hy
      · have hy := hy.2 (Decidable.not_not.mp c)
        refine a_iload dX11_isNearAlike_75 rfl ?_
        refine a_iload_n dX11_isNearAlike_77 rfl ?_
        refine a_iconst (x := 1) dX11_isNearAlike_78 rfl ⟨by decide, by decide⟩ ?_
        obtain ⟨c1, hy⟩ := hy
        refine a_iadd dX11_isNearAlike_79 c1 ?_
        refine a_icmp_ne (tgt := 119) dX11_isNearAlike_80 (by decide) (fun c => ?_) (fun c => ?_)
        · have hy := hy.1 c
          refine a_iconst (x := 0) dX11_isNearAlike_119 rfl ⟨by decide, by decide⟩ ?_
          exact a_zret dX11_isNearAlike_120 rfl (Or.inl rfl) hy
        · have hy := hy.2 (Decidable.not_not.mp c)
          refine a_aload_n dX11_isNearAlike_83 rfl ?_
          refine a_getR dX11_isNearAlike_84 fl_M_26 sk_12 rfl ?_
          refine a_iload_n dX11_isNearAlike_87 rfl ?_
          obtain ⟨c2, hy⟩ := hy
          refine a_iald' dX11_isNearAlike_88 sk_63 c2 (rfl) ?_
          refine a_aload_n dX11_isNearAlike_89 rfl ?_
          refine a_iload_n dX11_isNearAlike_90 rfl ?_
          refine a_iload dX11_isNearAlike_91 rfl ?_
          refine a_callVi (as := [vI p1, vI v4]) (st := [vI (h.1 63 v3)]) dX11_isNearAlike_93 lk_M_262 sk_12 rfl rfl (Nat.le_of_ble_eq_true rfl) (Or.inl rfl) (Call.mono hy (fun r4 h3 _ hy => ?_))
          refine a_icmp_ne (tgt := 119) dX11_isNearAlike_96 (by decide) (fun c => ?_) (fun c => ?_)
          · have hy := hy.1 c
            refine a_iconst (x := 0) dX11_isNearAlike_119 rfl ⟨by decide, by decide⟩ ?_
            exact a_zret dX11_isNearAlike_120 rfl (Or.inl rfl) hy
          · have hy := hy.2 (Decidable.not_not.mp c)
            refine a_aload_n dX11_isNearAlike_99 rfl ?_
            refine a_getR dX11_isNearAlike_100 fl_M_26 sk_12 rfl ?_
            refine a_iload dX11_isNearAlike_103 rfl ?_
            obtain ⟨c5, hy⟩ := hy
            refine a_iald' dX11_isNearAlike_105 sk_63 c5 (rfl) ?_
            refine a_aload_n dX11_isNearAlike_106 rfl ?_
            refine a_iload_n dX11_isNearAlike_107 rfl ?_
            refine a_iload_n dX11_isNearAlike_108 rfl ?_
            refine a_callVi (as := [vI p1, vI v3]) (st := [vI (h3.1 63 v4)]) dX11_isNearAlike_109 lk_M_262 sk_12 rfl rfl (Nat.le_of_ble_eq_true rfl) (Or.inl rfl) (Call.mono hy (fun r7 h6 _ hy => ?_))
            refine a_icmp_ne (tgt := 119) dX11_isNearAlike_112 (by decide) (fun c => ?_) (fun c => ?_)
            · have hy := hy.1 c
              refine a_iconst (x := 0) dX11_isNearAlike_119 rfl ⟨by decide, by decide⟩ ?_
              exact a_zret dX11_isNearAlike_120 rfl (Or.inl rfl) hy
            · have hy := hy.2 (Decidable.not_not.mp c)
              refine a_iconst (x := 1) dX11_isNearAlike_115 rfl ⟨by decide, by decide⟩ ?_
              refine a_goto (tgt := 120) dX11_isNearAlike_116 (by decide) ?_
              exact a_zret dX11_isNearAlike_120 rfl (Or.inr rfl) hy
  · have hy := hy.2 (Int.not_le.mp c)
    refine a_aload_n dX11_isNearAlike_19 rfl ?_
    refine a_getR dX11_isNearAlike_20 fl_M_26 sk_12 rfl ?_
    refine a_iload dX11_isNearAlike_23 rfl ?_
    obtain ⟨c8, hy⟩ := hy
    refine a_iald' dX11_isNearAlike_25 sk_63 c8 (rfl) ?_
    refine a_aload_n dX11_isNearAlike_26 rfl ?_
    refine a_iload_n dX11_isNearAlike_27 rfl ?_
    refine a_iload dX11_isNearAlike_28 rfl ?_
    refine a_callVi (as := [vI p1, vI v5]) (st := [vI (h.1 63 v5)]) dX11_isNearAlike_30 lk_M_262 sk_12 rfl rfl (Nat.le_of_ble_eq_true rfl) (Or.inl rfl) (Call.mono hy (fun r10 h9 _ hy => ?_))
    refine a_icmp_ne (tgt := 39) dX11_isNearAlike_33 (by decide) (fun c => ?_) (fun c => ?_)
    · have hy := hy.1 c
      refine a_iload_n dX11_isNearAlike_39 rfl ?_
      refine a_iconst (x := 1) dX11_isNearAlike_40 rfl ⟨by decide, by decide⟩ ?_
      obtain ⟨c11, hy⟩ := hy
      refine a_iadd dX11_isNearAlike_41 c11 ?_
      refine a_istore_n (i := 2) (ls2 := [some (vR 12 (-1)), some (vI p1), some (vI (v2 + 1)), some (vI v3), some (vI v4), some (vI v5)]) dX11_isNearAlike_42 rfl (Nat.le_of_ble_eq_true rfl) rfl ?_
      refine a_iload_n dX11_isNearAlike_43 rfl ?_
      refine a_iconst (x := (-1)) dX11_isNearAlike_44 rfl ⟨by decide, by decide⟩ ?_
      have J : AW d M_M_isNearAlike Q 54 [some (vR 12 (-1)), some (vI p1), some (vI (v2 + 1)), some (vI v3), some (vI v4), some (vI v5)] [vI (if v3 = (-1) then (v5 : Int) else v3)] h9 := by
        refine a_istore_n (i := 3) (ls2 := [some (vR 12 (-1)), some (vI p1), some (vI (v2 + 1)), some (vI (if v3 = (-1) then (v5 : Int) else v3)), some (vI v4), some (vI v5)]) dX11_isNearAlike_54 rfl (Nat.le_of_ble_eq_true rfl) rfl ?_
        refine a_iload dX11_isNearAlike_55 rfl ?_
        refine a_istore (ls2 := [some (vR 12 (-1)), some (vI p1), some (vI (v2 + 1)), some (vI (if v3 = (-1) then (v5 : Int) else v3)), some (vI v5), some (vI v5)]) dX11_isNearAlike_57 (Nat.le_of_ble_eq_true rfl) rfl ?_
        obtain ⟨c12, hy⟩ := hy
        refine a_iinc (y := v5 + 1) (ls2 := [some (vR 12 (-1)), some (vI p1), some (vI (v2 + 1)), some (vI (if v3 = (-1) then (v5 : Int) else v3)), some (vI v5), some (vI (v5 + 1))]) dX11_isNearAlike_59 rfl rfl c12 rfl ?_
        refine a_goto (tgt := 10) dX11_isNearAlike_62 (by decide) ?_
        exact hy
      refine a_icmp_ne (tgt := 53) dX11_isNearAlike_45 (by decide) (fun e13 => ?_) (fun e13 => ?_)
      · refine a_iload_n dX11_isNearAlike_53 rfl ?_
        exact a_cast (by first | rfl | simp only [if_neg e13]) (by first | rfl | simp only [if_neg e13]) J
      · refine a_iload dX11_isNearAlike_48 rfl ?_
        refine a_goto (tgt := 54) dX11_isNearAlike_50 (by decide) ?_
        exact a_cast (by first | rfl | simp only [if_pos (Decidable.not_not.mp e13)]) (by first | rfl | simp only [if_pos (Decidable.not_not.mp e13)]) J
    · have hy := hy.2 (Decidable.not_not.mp c)
      refine a_goto (tgt := 59) dX11_isNearAlike_36 (by decide) ?_
      obtain ⟨c14, hy⟩ := hy
      refine a_iinc (y := v5 + 1) (ls2 := [some (vR 12 (-1)), some (vI p1), some (vI v2), some (vI v3), some (vI v4), some (vI (v5 + 1))]) dX11_isNearAlike_59 rfl rfl c14 rfl ?_
      refine a_goto (tgt := 10) dX11_isNearAlike_62 (by decide) ?_
      exact hy
theorem c_M_isNearAlike {d : Nat} (d0 : Nat) (hd : d0 < d) {p1 : Int} {h : AH} {Q : Int → AH → Prop} (hy : A_M_isNearAlike_10 d0 Q p1 0 (-1) (-1) 0 h) : Call d M_M_isNearAlike [vR 12 (-1), vI p1] h Q := by
  refine ⟨d0, hd, Big.of rfl (Nat.le_of_ble_eq_true rfl) ?_⟩
  show AW d0 M_M_isNearAlike Q 0 [some (vR 12 (-1)), some (vI p1), none, none, none, none] [] h
  refine a_iconst (x := 0) dX11_isNearAlike_0 rfl ⟨by decide, by decide⟩ ?_
  refine a_istore_n (i := 2) (ls2 := [some (vR 12 (-1)), some (vI p1), some (vI 0), none, none, none]) dX11_isNearAlike_1 rfl (Nat.le_of_ble_eq_true rfl) rfl ?_
  refine a_iconst (x := (-1)) dX11_isNearAlike_2 rfl ⟨by decide, by decide⟩ ?_
  refine a_istore_n (i := 3) (ls2 := [some (vR 12 (-1)), some (vI p1), some (vI 0), some (vI (-1)), none, none]) dX11_isNearAlike_3 rfl (Nat.le_of_ble_eq_true rfl) rfl ?_
  refine a_iconst (x := (-1)) dX11_isNearAlike_4 rfl ⟨by decide, by decide⟩ ?_
  refine a_istore (ls2 := [some (vR 12 (-1)), some (vI p1), some (vI 0), some (vI (-1)), some (vI (-1)), none]) dX11_isNearAlike_5 (Nat.le_of_ble_eq_true rfl) rfl ?_
  refine a_iconst (x := 0) dX11_isNearAlike_7 rfl ⟨by decide, by decide⟩ ?_
  refine a_istore (ls2 := [some (vR 12 (-1)), some (vI p1), some (vI 0), some (vI (-1)), some (vI (-1)), some (vI 0)]) dX11_isNearAlike_8 (Nat.le_of_ble_eq_true rfl) rfl ?_
  exact hy
theorem c_M_isOf {d : Nat} (d0 : Nat) (hd : d0 < d) {p1 : Int} {p2 : Int} {h : AH} {Q : Int → AH → Prop} (hy : Call d0 M_M_isUsed [vR 12 (-1), vI p1] h (fun r2 h1 => ((r2 = 0 → Q 0 h1) ∧ (r2 ≠ 0 → (inb p1 40 ∧ (((h1.1 58 p1) ≠ p2 → Q 0 h1) ∧ ((h1.1 58 p1) = p2 → Q 1 h1))))))) : Call d M_M_isOf [vR 12 (-1), vI p1, vI p2] h Q := by
  refine ⟨d0, hd, Big.of rfl (Nat.le_of_ble_eq_true rfl) ?_⟩
  show AW d0 M_M_isOf Q 0 [some (vR 12 (-1)), some (vI p1), some (vI p2)] [] h
  refine a_aload_n dX11_isOf_0 rfl ?_
  refine a_iload_n dX11_isOf_1 rfl ?_
  refine a_callVi (as := [vI p1]) (st := []) dX11_isOf_2 lk_M_282 sk_12 rfl rfl (Nat.le_of_ble_eq_true rfl) (Or.inr rfl) (Call.mono hy (fun r2 h1 _ hy => ?_))
  refine a_if_eq (tgt := 22) dX11_isOf_5 (by decide) (fun c => ?_) (fun c => ?_)
  · have hy := hy.1 c
    refine a_iconst (x := 0) dX11_isOf_22 rfl ⟨by decide, by decide⟩ ?_
    exact a_zret dX11_isOf_23 rfl (Or.inl rfl) hy
  · have hy := hy.2 (c)
    refine a_aload_n dX11_isOf_8 rfl ?_
    refine a_getR dX11_isOf_9 fl_M_7 sk_12 rfl ?_
    refine a_iload_n dX11_isOf_12 rfl ?_
    obtain ⟨c3, hy⟩ := hy
    refine a_iald' dX11_isOf_13 sk_58 c3 (rfl) ?_
    refine a_iload_n dX11_isOf_14 rfl ?_
    refine a_icmp_ne (tgt := 22) dX11_isOf_15 (by decide) (fun c => ?_) (fun c => ?_)
    · have hy := hy.1 c
      refine a_iconst (x := 0) dX11_isOf_22 rfl ⟨by decide, by decide⟩ ?_
      exact a_zret dX11_isOf_23 rfl (Or.inl rfl) hy
    · have hy := hy.2 (Decidable.not_not.mp c)
      refine a_iconst (x := 1) dX11_isOf_18 rfl ⟨by decide, by decide⟩ ?_
      refine a_goto (tgt := 23) dX11_isOf_19 (by decide) ?_
      exact a_zret dX11_isOf_23 rfl (Or.inr rfl) hy
def A_M_isRow_17 (d : Nat) (Q : Int → AH → Prop) (p1 : Int) (v2 : Int) (h : AH) : Prop := AW d M_M_isRow Q 17 [some (vR 12 (-1)), some (vI p1), some (vI v2)] [] h
theorem s_M_isRow_17 {d : Nat} {Q : Int → AH → Prop} {p1 : Int} {v2 : Int} {h : AH} (hy : (((h.1 12 9) ≤ v2 → Q 1 h) ∧ (v2 < (h.1 12 9) → (inI (8 * p1) ∧ (inI ((8 * p1) + v2) ∧ (inb ((8 * p1) + v2) 320 ∧ (inb v2 12 ∧ (((h.1 59 ((8 * p1) + v2)) = (h.1 63 v2) → (inI (v2 + 1) ∧ A_M_isRow_17 d Q p1 (v2 + 1) h)) ∧ ((h.1 59 ((8 * p1) + v2)) ≠ (h.1 63 v2) → Q 0 h))))))))) : A_M_isRow_17 d Q p1 v2 h := by
  show AW d M_M_isRow Q 17 [some (vR 12 (-1)), some (vI p1), some (vI v2)] [] h
  refine a_iload_n dX11_isRow_17 rfl ?_
  refine a_aload_n dX11_isRow_18 rfl ?_
  refine a_getI' (kz := 9) dX11_isRow_19 fl_M_136 sk_12 rfl rfl (rfl) ?_
  refine a_icmp_ge (tgt := 53) dX11_isRow_22 (by decide) (fun c => ?_) (fun c => ?_)
  · have hy := hy.1 c
    refine a_iconst (x := 1) dX11_isRow_53 rfl ⟨by decide, by decide⟩ ?_
    exact a_zret dX11_isRow_54 rfl (Or.inr rfl) hy
  · have hy := hy.2 (Int.not_le.mp c)
    refine a_aload_n dX11_isRow_25 rfl ?_
    refine a_getR dX11_isRow_26 fl_M_13 sk_12 rfl ?_
    refine a_bipush (x := 8) dX11_isRow_29 (by decide) ⟨by decide, by decide⟩ ?_
    refine a_iload_n dX11_isRow_31 rfl ?_
    obtain ⟨c1, hy⟩ := hy
    refine a_imul dX11_isRow_32 c1 ?_
    refine a_iload_n dX11_isRow_33 rfl ?_
    obtain ⟨c2, hy⟩ := hy
    refine a_iadd dX11_isRow_34 c2 ?_
    obtain ⟨c3, hy⟩ := hy
    refine a_iald' dX11_isRow_35 sk_59 c3 (rfl) ?_
    refine a_aload_n dX11_isRow_36 rfl ?_
    refine a_getR dX11_isRow_37 fl_M_26 sk_12 rfl ?_
    refine a_iload_n dX11_isRow_40 rfl ?_
    obtain ⟨c4, hy⟩ := hy
    refine a_iald' dX11_isRow_41 sk_63 c4 (rfl) ?_
    refine a_icmp_eq (tgt := 47) dX11_isRow_42 (by decide) (fun c => ?_) (fun c => ?_)
    · have hy := hy.1 c
      obtain ⟨c5, hy⟩ := hy
      refine a_iinc (y := v2 + 1) (ls2 := [some (vR 12 (-1)), some (vI p1), some (vI (v2 + 1))]) dX11_isRow_47 rfl rfl c5 rfl ?_
      refine a_goto (tgt := 17) dX11_isRow_50 (by decide) ?_
      exact hy
    · have hy := hy.2 (c)
      refine a_iconst (x := 0) dX11_isRow_45 rfl ⟨by decide, by decide⟩ ?_
      exact a_zret dX11_isRow_46 rfl (Or.inl rfl) hy
theorem c_M_isRow {d : Nat} (d0 : Nat) (hd : d0 < d) {p1 : Int} {h : AH} {Q : Int → AH → Prop} (hy : inb p1 40 ∧ (((h.1 58 p1) = (h.1 12 9) → A_M_isRow_17 d0 Q p1 0 h) ∧ ((h.1 58 p1) ≠ (h.1 12 9) → Q 0 h))) : Call d M_M_isRow [vR 12 (-1), vI p1] h Q := by
  refine ⟨d0, hd, Big.of rfl (Nat.le_of_ble_eq_true rfl) ?_⟩
  show AW d0 M_M_isRow Q 0 [some (vR 12 (-1)), some (vI p1), none] [] h
  refine a_aload_n dX11_isRow_0 rfl ?_
  refine a_getR dX11_isRow_1 fl_M_7 sk_12 rfl ?_
  refine a_iload_n dX11_isRow_4 rfl ?_
  obtain ⟨c1, hy⟩ := hy
  refine a_iald' dX11_isRow_5 sk_58 c1 (rfl) ?_
  refine a_aload_n dX11_isRow_6 rfl ?_
  refine a_getI' (kz := 9) dX11_isRow_7 fl_M_136 sk_12 rfl rfl (rfl) ?_
  refine a_icmp_eq (tgt := 15) dX11_isRow_10 (by decide) (fun c => ?_) (fun c => ?_)
  · have hy := hy.1 c
    refine a_iconst (x := 0) dX11_isRow_15 rfl ⟨by decide, by decide⟩ ?_
    refine a_istore_n (i := 2) (ls2 := [some (vR 12 (-1)), some (vI p1), some (vI 0)]) dX11_isRow_16 rfl (Nat.le_of_ble_eq_true rfl) rfl ?_
    exact hy
  · have hy := hy.2 (c)
    refine a_iconst (x := 0) dX11_isRow_13 rfl ⟨by decide, by decide⟩ ?_
    exact a_zret dX11_isRow_14 rfl (Or.inl rfl) hy
def A_M_isRowWithout_22 (d : Nat) (Q : Int → AH → Prop) (p1 : Int) (p2 : Int) (p3 : Int) (v4 : Int) (v5 : Int) (h : AH) : Prop := AW d M_M_isRowWithout Q 22 [some (vR 12 (-1)), some (vI p1), some (vI p2), some (vI p3), some (vI v4), some (vI v5), none] [] h
def A_M_isRowWithout_44 (d : Nat) (Q : Int → AH → Prop) (p1 : Int) (p2 : Int) (p3 : Int) (v4 : Int) (v5 : Int) (s0 : Int) (h : AH) : Prop := AW d M_M_isRowWithout Q 44 [some (vR 12 (-1)), some (vI p1), some (vI p2), some (vI p3), some (vI v4), some (vI v5), none] [vI s0] h
theorem s_M_isRowWithout_22 {d : Nat} {Q : Int → AH → Prop} {p1 : Int} {p2 : Int} {p3 : Int} {v4 : Int} {v5 : Int} {h : AH} (hy : ((v4 ≤ v5 → Q 1 h) ∧ (v5 < v4 → ((p2 ≤ v5 → (inI (v5 + 1) ∧ A_M_isRowWithout_44 d Q p1 p2 p3 v4 v5 (v5 + 1) h)) ∧ (v5 < p2 → A_M_isRowWithout_44 d Q p1 p2 p3 v4 v5 v5 h))))) : A_M_isRowWithout_22 d Q p1 p2 p3 v4 v5 h := by
  show AW d M_M_isRowWithout Q 22 [some (vR 12 (-1)), some (vI p1), some (vI p2), some (vI p3), some (vI v4), some (vI v5), none] [] h
  refine a_iload dX11_isRowWithout_22 rfl ?_
  refine a_iload dX11_isRowWithout_24 rfl ?_
  refine a_icmp_ge (tgt := 95) dX11_isRowWithout_26 (by decide) (fun c => ?_) (fun c => ?_)
  · have hy := hy.1 c
    refine a_iconst (x := 1) dX11_isRowWithout_95 rfl ⟨by decide, by decide⟩ ?_
    exact a_zret dX11_isRowWithout_96 rfl (Or.inr rfl) hy
  · have hy := hy.2 (Int.not_le.mp c)
    refine a_iload dX11_isRowWithout_29 rfl ?_
    refine a_iload_n dX11_isRowWithout_31 rfl ?_
    refine a_icmp_ge (tgt := 40) dX11_isRowWithout_32 (by decide) (fun c => ?_) (fun c => ?_)
    · have hy := hy.1 c
      refine a_iload dX11_isRowWithout_40 rfl ?_
      refine a_iconst (x := 1) dX11_isRowWithout_42 rfl ⟨by decide, by decide⟩ ?_
      obtain ⟨c1, hy⟩ := hy
      refine a_iadd dX11_isRowWithout_43 c1 ?_
      exact hy
    · have hy := hy.2 (Int.not_le.mp c)
      refine a_iload dX11_isRowWithout_35 rfl ?_
      refine a_goto (tgt := 44) dX11_isRowWithout_37 (by decide) ?_
      exact hy
theorem s_M_isRowWithout_44 {d : Nat} {Q : Int → AH → Prop} {p1 : Int} {p2 : Int} {p3 : Int} {v4 : Int} {v5 : Int} {s0 : Int} {h : AH} (hy : ((p3 = 0 → (inb s0 12 ∧ (Call d M_M_letter [vR 12 (-1), vI p1, vI v5] h (fun r3 h2 => (((h.1 63 s0) = r3 → (inI (v5 + 1) ∧ A_M_isRowWithout_22 d Q p1 p2 p3 v4 (v5 + 1) h2)) ∧ ((h.1 63 s0) ≠ r3 → Q 0 h2)))))) ∧ (p3 ≠ 0 → (inb v5 12 ∧ (Call d M_M_letter [vR 12 (-1), vI p1, vI s0] h (fun r7 h6 => (((h.1 63 v5) = r7 → (inI (v5 + 1) ∧ A_M_isRowWithout_22 d Q p1 p2 p3 v4 (v5 + 1) h6)) ∧ ((h.1 63 v5) ≠ r7 → Q 0 h6)))))))) : A_M_isRowWithout_44 d Q p1 p2 p3 v4 v5 s0 h := by
  show AW d M_M_isRowWithout Q 44 [some (vR 12 (-1)), some (vI p1), some (vI p2), some (vI p3), some (vI v4), some (vI v5), none] [vI s0] h
  refine a_istore (ls2 := [some (vR 12 (-1)), some (vI p1), some (vI p2), some (vI p3), some (vI v4), some (vI v5), some (vI s0)]) dX11_isRowWithout_44 (Nat.le_of_ble_eq_true rfl) rfl ?_
  refine a_iload_n dX11_isRowWithout_46 rfl ?_
  refine a_if_eq (tgt := 70) dX11_isRowWithout_47 (by decide) (fun c => ?_) (fun c => ?_)
  · have hy := hy.1 c
    refine a_aload_n dX11_isRowWithout_70 rfl ?_
    refine a_getR dX11_isRowWithout_71 fl_M_26 sk_12 rfl ?_
    refine a_iload dX11_isRowWithout_74 rfl ?_
    obtain ⟨c1, hy⟩ := hy
    refine a_iald' dX11_isRowWithout_76 sk_63 c1 (rfl) ?_
    refine a_aload_n dX11_isRowWithout_77 rfl ?_
    refine a_iload_n dX11_isRowWithout_78 rfl ?_
    refine a_iload dX11_isRowWithout_79 rfl ?_
    refine a_callVi (as := [vI p1, vI v5]) (st := [vI (h.1 63 s0)]) dX11_isRowWithout_81 lk_M_262 sk_12 rfl rfl (Nat.le_of_ble_eq_true rfl) (Or.inl rfl) (Call.mono hy (fun r3 h2 _ hy => ?_))
    refine a_icmp_eq (tgt := 89) dX11_isRowWithout_84 (by decide) (fun c => ?_) (fun c => ?_)
    · have hy := hy.1 c
      obtain ⟨c4, hy⟩ := hy
      refine a_iinc (y := v5 + 1) (ls2 := [some (vR 12 (-1)), some (vI p1), some (vI p2), some (vI p3), some (vI v4), some (vI (v5 + 1)), some (vI s0)]) dX11_isRowWithout_89 rfl rfl c4 rfl ?_
      refine a_goto (tgt := 22) dX11_isRowWithout_92 (by decide) ?_
      refine a_mask [true, true, true, true, true, true, false] (ls2 := [some (vR 12 (-1)), some (vI p1), some (vI p2), some (vI p3), some (vI v4), some (vI (v5 + 1)), none]) rfl rfl ?_
      exact hy
    · have hy := hy.2 (c)
      refine a_iconst (x := 0) dX11_isRowWithout_87 rfl ⟨by decide, by decide⟩ ?_
      exact a_zret dX11_isRowWithout_88 rfl (Or.inl rfl) hy
  · have hy := hy.2 (c)
    refine a_aload_n dX11_isRowWithout_50 rfl ?_
    refine a_getR dX11_isRowWithout_51 fl_M_26 sk_12 rfl ?_
    refine a_iload dX11_isRowWithout_54 rfl ?_
    obtain ⟨c5, hy⟩ := hy
    refine a_iald' dX11_isRowWithout_56 sk_63 c5 (rfl) ?_
    refine a_aload_n dX11_isRowWithout_57 rfl ?_
    refine a_iload_n dX11_isRowWithout_58 rfl ?_
    refine a_iload dX11_isRowWithout_59 rfl ?_
    refine a_callVi (as := [vI p1, vI s0]) (st := [vI (h.1 63 v5)]) dX11_isRowWithout_61 lk_M_262 sk_12 rfl rfl (Nat.le_of_ble_eq_true rfl) (Or.inl rfl) (Call.mono hy (fun r7 h6 _ hy => ?_))
    refine a_icmp_eq (tgt := 89) dX11_isRowWithout_64 (by decide) (fun c => ?_) (fun c => ?_)
    · have hy := hy.1 c
      obtain ⟨c8, hy⟩ := hy
      refine a_iinc (y := v5 + 1) (ls2 := [some (vR 12 (-1)), some (vI p1), some (vI p2), some (vI p3), some (vI v4), some (vI (v5 + 1)), some (vI s0)]) dX11_isRowWithout_89 rfl rfl c8 rfl ?_
      refine a_goto (tgt := 22) dX11_isRowWithout_92 (by decide) ?_
      refine a_mask [true, true, true, true, true, true, false] (ls2 := [some (vR 12 (-1)), some (vI p1), some (vI p2), some (vI p3), some (vI v4), some (vI (v5 + 1)), none]) rfl rfl ?_
      exact hy
    · have hy := hy.2 (c)
      refine a_goto (tgt := 87) dX11_isRowWithout_67 (by decide) ?_
      refine a_iconst (x := 0) dX11_isRowWithout_87 rfl ⟨by decide, by decide⟩ ?_
      exact a_zret dX11_isRowWithout_88 rfl (Or.inl rfl) hy
theorem c_M_isRowWithout {d : Nat} (d0 : Nat) (hd : d0 < d) {p1 : Int} {p2 : Int} {p3 : Int} {h : AH} {Q : Int → AH → Prop} (hy : ((p3 = 0 → (inb p1 40 ∧ A_M_isRowWithout_22 d0 Q p1 p2 p3 (h.1 58 p1) 0 h)) ∧ (p3 ≠ 0 → A_M_isRowWithout_22 d0 Q p1 p2 p3 (h.1 12 9) 0 h))) : Call d M_M_isRowWithout [vR 12 (-1), vI p1, vI p2, vI p3] h Q := by
  refine ⟨d0, hd, Big.of rfl (Nat.le_of_ble_eq_true rfl) ?_⟩
  show AW d0 M_M_isRowWithout Q 0 [some (vR 12 (-1)), some (vI p1), some (vI p2), some (vI p3), none, none, none] [] h
  refine a_iload_n dX11_isRowWithout_0 rfl ?_
  refine a_if_eq (tgt := 11) dX11_isRowWithout_1 (by decide) (fun c => ?_) (fun c => ?_)
  · have hy := hy.1 c
    refine a_aload_n dX11_isRowWithout_11 rfl ?_
    refine a_getR dX11_isRowWithout_12 fl_M_7 sk_12 rfl ?_
    refine a_iload_n dX11_isRowWithout_15 rfl ?_
    obtain ⟨c1, hy⟩ := hy
    refine a_iald' dX11_isRowWithout_16 sk_58 c1 (rfl) ?_
    refine a_istore (ls2 := [some (vR 12 (-1)), some (vI p1), some (vI p2), some (vI p3), some (vI (h.1 58 p1)), none, none]) dX11_isRowWithout_17 (Nat.le_of_ble_eq_true rfl) rfl ?_
    refine a_iconst (x := 0) dX11_isRowWithout_19 rfl ⟨by decide, by decide⟩ ?_
    refine a_istore (ls2 := [some (vR 12 (-1)), some (vI p1), some (vI p2), some (vI p3), some (vI (h.1 58 p1)), some (vI 0), none]) dX11_isRowWithout_20 (Nat.le_of_ble_eq_true rfl) rfl ?_
    exact hy
  · have hy := hy.2 (c)
    refine a_aload_n dX11_isRowWithout_4 rfl ?_
    refine a_getI' (kz := 9) dX11_isRowWithout_5 fl_M_136 sk_12 rfl rfl (rfl) ?_
    refine a_goto (tgt := 17) dX11_isRowWithout_8 (by decide) ?_
    refine a_istore (ls2 := [some (vR 12 (-1)), some (vI p1), some (vI p2), some (vI p3), some (vI (h.1 12 9)), none, none]) dX11_isRowWithout_17 (Nat.le_of_ble_eq_true rfl) rfl ?_
    refine a_iconst (x := 0) dX11_isRowWithout_19 rfl ⟨by decide, by decide⟩ ?_
    refine a_istore (ls2 := [some (vR 12 (-1)), some (vI p1), some (vI p2), some (vI p3), some (vI (h.1 12 9)), some (vI 0), none]) dX11_isRowWithout_20 (Nat.le_of_ble_eq_true rfl) rfl ?_
    exact hy
def A_M_isRowWord_2 (d : Nat) (Q : Int → AH → Prop) (v1 : Int) (h : AH) : Prop := AW d M_M_isRowWord Q 2 [some (vR 12 (-1)), some (vI v1)] [] h
theorem s_M_isRowWord_2 {d : Nat} {Q : Int → AH → Prop} {v1 : Int} {h : AH} (hy : (((h.1 12 0) ≤ v1 → Q 0 h) ∧ (v1 < (h.1 12 0) → (Call d M_M_isRow [vR 12 (-1), vI v1] h (fun r2 h1 => ((r2 = 0 → (inI (v1 + 1) ∧ A_M_isRowWord_2 d Q (v1 + 1) h1)) ∧ (r2 ≠ 0 → Q 1 h1))))))) : A_M_isRowWord_2 d Q v1 h := by
  show AW d M_M_isRowWord Q 2 [some (vR 12 (-1)), some (vI v1)] [] h
  refine a_iload_n dX11_isRowWord_2 rfl ?_
  refine a_aload_n dX11_isRowWord_3 rfl ?_
  refine a_getI' (kz := 0) dX11_isRowWord_4 fl_M_130 sk_12 rfl rfl (rfl) ?_
  refine a_icmp_ge (tgt := 26) dX11_isRowWord_7 (by decide) (fun c => ?_) (fun c => ?_)
  · have hy := hy.1 c
    refine a_iconst (x := 0) dX11_isRowWord_26 rfl ⟨by decide, by decide⟩ ?_
    exact a_zret dX11_isRowWord_27 rfl (Or.inl rfl) hy
  · have hy := hy.2 (Int.not_le.mp c)
    refine a_aload_n dX11_isRowWord_10 rfl ?_
    refine a_iload_n dX11_isRowWord_11 rfl ?_
    refine a_callVi (as := [vI v1]) (st := []) dX11_isRowWord_12 lk_M_143 sk_12 rfl rfl (Nat.le_of_ble_eq_true rfl) (Or.inr rfl) (Call.mono hy (fun r2 h1 _ hy => ?_))
    refine a_if_eq (tgt := 20) dX11_isRowWord_15 (by decide) (fun c => ?_) (fun c => ?_)
    · have hy := hy.1 c
      obtain ⟨c3, hy⟩ := hy
      refine a_iinc (y := v1 + 1) (ls2 := [some (vR 12 (-1)), some (vI (v1 + 1))]) dX11_isRowWord_20 rfl rfl c3 rfl ?_
      refine a_goto (tgt := 2) dX11_isRowWord_23 (by decide) ?_
      exact hy
    · have hy := hy.2 (c)
      refine a_iconst (x := 1) dX11_isRowWord_18 rfl ⟨by decide, by decide⟩ ?_
      exact a_zret dX11_isRowWord_19 rfl (Or.inr rfl) hy
theorem c_M_isRowWord {d : Nat} (d0 : Nat) (hd : d0 < d)  {h : AH} {Q : Int → AH → Prop} (hy : A_M_isRowWord_2 d0 Q 0 h) : Call d M_M_isRowWord [vR 12 (-1)] h Q := by
  refine ⟨d0, hd, Big.of rfl (Nat.le_of_ble_eq_true rfl) ?_⟩
  show AW d0 M_M_isRowWord Q 0 [some (vR 12 (-1)), none] [] h
  refine a_iconst (x := 0) dX11_isRowWord_0 rfl ⟨by decide, by decide⟩ ?_
  refine a_istore_n (i := 1) (ls2 := [some (vR 12 (-1)), some (vI 0)]) dX11_isRowWord_1 rfl (Nat.le_of_ble_eq_true rfl) rfl ?_
  exact hy
def A_M_isRubbed_14 (d : Nat) (Q : Int → AH → Prop) (p1 : Int) (p2 : Int) (v3 : Int) (h : AH) : Prop := AW d M_M_isRubbed Q 14 [some (vR 12 (-1)), some (vI p1), some (vI p2), some (vI v3)] [] h
theorem s_M_isRubbed_14 {d : Nat} {Q : Int → AH → Prop} {p1 : Int} {p2 : Int} {v3 : Int} {h : AH} (hy : ((p2 ≤ v3 → Q 1 h) ∧ (v3 < p2 → (inb v3 200 ∧ (((h.1 64 v3) = 63 → (inI (v3 + 1) ∧ A_M_isRubbed_14 d Q p1 p2 (v3 + 1) h)) ∧ ((h.1 64 v3) ≠ 63 → (inI ((h.1 64 v3) - 97) ∧ (Call d M_M_letter [vR 12 (-1), vI p1, vI v3] h (fun r5 h4 => ((((h.1 64 v3) - 97) = r5 → (inI (v3 + 1) ∧ A_M_isRubbed_14 d Q p1 p2 (v3 + 1) h4)) ∧ (((h.1 64 v3) - 97) ≠ r5 → Q 0 h4))))))))))) : A_M_isRubbed_14 d Q p1 p2 v3 h := by
  show AW d M_M_isRubbed Q 14 [some (vR 12 (-1)), some (vI p1), some (vI p2), some (vI v3)] [] h
  refine a_iload_n dX11_isRubbed_14 rfl ?_
  refine a_iload_n dX11_isRubbed_15 rfl ?_
  refine a_icmp_ge (tgt := 56) dX11_isRubbed_16 (by decide) (fun c => ?_) (fun c => ?_)
  · have hy := hy.1 c
    refine a_iconst (x := 1) dX11_isRubbed_56 rfl ⟨by decide, by decide⟩ ?_
    exact a_zret dX11_isRubbed_57 rfl (Or.inr rfl) hy
  · have hy := hy.2 (Int.not_le.mp c)
    refine a_aload_n dX11_isRubbed_19 rfl ?_
    refine a_getR dX11_isRubbed_20 fl_M_29 sk_12 rfl ?_
    refine a_iload_n dX11_isRubbed_23 rfl ?_
    obtain ⟨c1, hy⟩ := hy
    refine a_bald' dX11_isRubbed_24 sk_64 c1 (rfl) ?_
    refine a_bipush (x := 63) dX11_isRubbed_25 (by decide) ⟨by decide, by decide⟩ ?_
    refine a_icmp_eq (tgt := 50) dX11_isRubbed_27 (by decide) (fun c => ?_) (fun c => ?_)
    · have hy := hy.1 c
      obtain ⟨c2, hy⟩ := hy
      refine a_iinc (y := v3 + 1) (ls2 := [some (vR 12 (-1)), some (vI p1), some (vI p2), some (vI (v3 + 1))]) dX11_isRubbed_50 rfl rfl c2 rfl ?_
      refine a_goto (tgt := 14) dX11_isRubbed_53 (by decide) ?_
      exact hy
    · have hy := hy.2 (c)
      refine a_aload_n dX11_isRubbed_30 rfl ?_
      refine a_getR dX11_isRubbed_31 fl_M_29 sk_12 rfl ?_
      refine a_iload_n dX11_isRubbed_34 rfl ?_
      refine a_bald' dX11_isRubbed_35 sk_64 c1 (rfl) ?_
      refine a_bipush (x := 97) dX11_isRubbed_36 (by decide) ⟨by decide, by decide⟩ ?_
      obtain ⟨c3, hy⟩ := hy
      refine a_isub dX11_isRubbed_38 c3 ?_
      refine a_aload_n dX11_isRubbed_39 rfl ?_
      refine a_iload_n dX11_isRubbed_40 rfl ?_
      refine a_iload_n dX11_isRubbed_41 rfl ?_
      refine a_callVi (as := [vI p1, vI v3]) (st := [vI ((h.1 64 v3) - 97)]) dX11_isRubbed_42 lk_M_262 sk_12 rfl rfl (Nat.le_of_ble_eq_true rfl) (Or.inl rfl) (Call.mono hy (fun r5 h4 _ hy => ?_))
      refine a_icmp_eq (tgt := 50) dX11_isRubbed_45 (by decide) (fun c => ?_) (fun c => ?_)
      · have hy := hy.1 c
        obtain ⟨c6, hy⟩ := hy
        refine a_iinc (y := v3 + 1) (ls2 := [some (vR 12 (-1)), some (vI p1), some (vI p2), some (vI (v3 + 1))]) dX11_isRubbed_50 rfl rfl c6 rfl ?_
        refine a_goto (tgt := 14) dX11_isRubbed_53 (by decide) ?_
        exact hy
      · have hy := hy.2 (c)
        refine a_iconst (x := 0) dX11_isRubbed_48 rfl ⟨by decide, by decide⟩ ?_
        exact a_zret dX11_isRubbed_49 rfl (Or.inl rfl) hy
theorem c_M_isRubbed {d : Nat} (d0 : Nat) (hd : d0 < d) {p1 : Int} {p2 : Int} {h : AH} {Q : Int → AH → Prop} (hy : inb p1 40 ∧ (((h.1 58 p1) = p2 → A_M_isRubbed_14 d0 Q p1 p2 0 h) ∧ ((h.1 58 p1) ≠ p2 → Q 0 h))) : Call d M_M_isRubbed [vR 12 (-1), vI p1, vI p2] h Q := by
  refine ⟨d0, hd, Big.of rfl (Nat.le_of_ble_eq_true rfl) ?_⟩
  show AW d0 M_M_isRubbed Q 0 [some (vR 12 (-1)), some (vI p1), some (vI p2), none] [] h
  refine a_aload_n dX11_isRubbed_0 rfl ?_
  refine a_getR dX11_isRubbed_1 fl_M_7 sk_12 rfl ?_
  refine a_iload_n dX11_isRubbed_4 rfl ?_
  obtain ⟨c1, hy⟩ := hy
  refine a_iald' dX11_isRubbed_5 sk_58 c1 (rfl) ?_
  refine a_iload_n dX11_isRubbed_6 rfl ?_
  refine a_icmp_eq (tgt := 12) dX11_isRubbed_7 (by decide) (fun c => ?_) (fun c => ?_)
  · have hy := hy.1 c
    refine a_iconst (x := 0) dX11_isRubbed_12 rfl ⟨by decide, by decide⟩ ?_
    refine a_istore_n (i := 3) (ls2 := [some (vR 12 (-1)), some (vI p1), some (vI p2), some (vI 0)]) dX11_isRubbed_13 rfl (Nat.le_of_ble_eq_true rfl) rfl ?_
    exact hy
  · have hy := hy.2 (c)
    refine a_iconst (x := 0) dX11_isRubbed_10 rfl ⟨by decide, by decide⟩ ?_
    exact a_zret dX11_isRubbed_11 rfl (Or.inl rfl) hy
theorem c_M_isStep {d : Nat} (d0 : Nat) (hd : d0 < d) {p1 : Int} {p2 : Int} {h : AH} {Q : Int → AH → Prop} (hy : inI (40 * p1) ∧ (inI ((40 * p1) + p2) ∧ (inb ((40 * p1) + p2) 1600 ∧ ((1000000000 ≤ (h.1 78 ((40 * p1) + p2)) → Q 0 h) ∧ ((h.1 78 ((40 * p1) + p2)) < 1000000000 → Q 1 h))))) : Call d M_M_isStep [vR 12 (-1), vI p1, vI p2] h Q := by
  refine ⟨d0, hd, Big.of rfl (Nat.le_of_ble_eq_true rfl) ?_⟩
  show AW d0 M_M_isStep Q 0 [some (vR 12 (-1)), some (vI p1), some (vI p2)] [] h
  refine a_aload_n dX11_isStep_0 rfl ?_
  refine a_getR dX11_isStep_1 fl_M_72 sk_12 rfl ?_
  refine a_bipush (x := 40) dX11_isStep_4 (by decide) ⟨by decide, by decide⟩ ?_
  refine a_iload_n dX11_isStep_6 rfl ?_
  obtain ⟨c1, hy⟩ := hy
  refine a_imul dX11_isStep_7 c1 ?_
  refine a_iload_n dX11_isStep_8 rfl ?_
  obtain ⟨c2, hy⟩ := hy
  refine a_iadd dX11_isStep_9 c2 ?_
  obtain ⟨c3, hy⟩ := hy
  refine a_iald' dX11_isStep_10 sk_78 c3 (rfl) ?_
  refine a_ldc (x := 1000000000) dX11_isStep_11 kc_M_129 ⟨by decide, by decide⟩ ?_
  refine a_icmp_ge (tgt := 20) dX11_isStep_13 (by decide) (fun c => ?_) (fun c => ?_)
  · have hy := hy.1 c
    refine a_iconst (x := 0) dX11_isStep_20 rfl ⟨by decide, by decide⟩ ?_
    exact a_zret dX11_isStep_21 rfl (Or.inl rfl) hy
  · have hy := hy.2 (Int.not_le.mp c)
    refine a_iconst (x := 1) dX11_isStep_16 rfl ⟨by decide, by decide⟩ ?_
    refine a_goto (tgt := 21) dX11_isStep_17 (by decide) ?_
    exact a_zret dX11_isStep_21 rfl (Or.inr rfl) hy
theorem c_M_isUsed {d : Nat} (d0 : Nat) (hd : d0 < d) {p1 : Int} {h : AH} {Q : Int → AH → Prop} (hy : inb p1 40 ∧ (((h.1 62 p1) ≠ 0 → Q 0 h) ∧ ((h.1 62 p1) = 0 → (((h.1 12 2) = (-1) → Q 1 h) ∧ ((h.1 12 2) ≠ (-1) → (((iand (ishr (h.1 61 p1) (h.1 12 2)) 1) ≠ 1 → Q 0 h) ∧ ((iand (ishr (h.1 61 p1) (h.1 12 2)) 1) = 1 → Q 1 h))))))) : Call d M_M_isUsed [vR 12 (-1), vI p1] h Q := by
  refine ⟨d0, hd, Big.of rfl (Nat.le_of_ble_eq_true rfl) ?_⟩
  show AW d0 M_M_isUsed Q 0 [some (vR 12 (-1)), some (vI p1)] [] h
  refine a_aload_n dX11_isUsed_0 rfl ?_
  refine a_getR dX11_isUsed_1 fl_M_22 sk_12 rfl ?_
  refine a_iload_n dX11_isUsed_4 rfl ?_
  obtain ⟨c1, hy⟩ := hy
  refine a_zald' dX11_isUsed_5 sk_62 c1 (rfl) ?_
  refine a_if_ne (tgt := 38) dX11_isUsed_6 (by decide) (fun c => ?_) (fun c => ?_)
  · have hy := hy.1 c
    refine a_iconst (x := 0) dX11_isUsed_38 rfl ⟨by decide, by decide⟩ ?_
    exact a_zret dX11_isUsed_39 rfl (Or.inl rfl) hy
  · have hy := hy.2 (Decidable.not_not.mp c)
    refine a_aload_n dX11_isUsed_9 rfl ?_
    refine a_getI' (kz := 2) dX11_isUsed_10 fl_M_126 sk_12 rfl rfl (rfl) ?_
    refine a_iconst (x := (-1)) dX11_isUsed_13 rfl ⟨by decide, by decide⟩ ?_
    refine a_icmp_eq (tgt := 34) dX11_isUsed_14 (by decide) (fun c => ?_) (fun c => ?_)
    · have hy := hy.1 c
      refine a_iconst (x := 1) dX11_isUsed_34 rfl ⟨by decide, by decide⟩ ?_
      refine a_goto (tgt := 39) dX11_isUsed_35 (by decide) ?_
      exact a_zret dX11_isUsed_39 rfl (Or.inr rfl) hy
    · have hy := hy.2 (c)
      refine a_aload_n dX11_isUsed_17 rfl ?_
      refine a_getR dX11_isUsed_18 fl_M_19 sk_12 rfl ?_
      refine a_iload_n dX11_isUsed_21 rfl ?_
      refine a_iald' dX11_isUsed_22 sk_61 c1 (rfl) ?_
      refine a_aload_n dX11_isUsed_23 rfl ?_
      refine a_getI' (kz := 2) dX11_isUsed_24 fl_M_126 sk_12 rfl rfl (rfl) ?_
      refine a_ishr dX11_isUsed_27 ?_
      refine a_iconst (x := 1) dX11_isUsed_28 rfl ⟨by decide, by decide⟩ ?_
      refine a_iand dX11_isUsed_29 ?_
      refine a_iconst (x := 1) dX11_isUsed_30 rfl ⟨by decide, by decide⟩ ?_
      refine a_icmp_ne (tgt := 38) dX11_isUsed_31 (by decide) (fun c => ?_) (fun c => ?_)
      · have hy := hy.1 c
        refine a_iconst (x := 0) dX11_isUsed_38 rfl ⟨by decide, by decide⟩ ?_
        exact a_zret dX11_isUsed_39 rfl (Or.inl rfl) hy
      · have hy := hy.2 (Decidable.not_not.mp c)
        refine a_iconst (x := 1) dX11_isUsed_34 rfl ⟨by decide, by decide⟩ ?_
        refine a_goto (tgt := 39) dX11_isUsed_35 (by decide) ?_
        exact a_zret dX11_isUsed_39 rfl (Or.inr rfl) hy
def A_M_isWithout_3 (d : Nat) (Q : Int → AH → Prop) (p1 : Int) (p2 : Int) (p3 : Int) (v4 : Int) (h : AH) : Prop := AW d M_M_isWithout Q 3 [some (vR 12 (-1)), some (vI p1), some (vI p2), some (vI p3), some (vI v4)] [] h
def A_M_isWithout_38 (d : Nat) (Q : Int → AH → Prop) (p1 : Int) (p2 : Int) (p3 : Int) (v4 : Int) (s0 : Int) (s2 : Int) (s3 : Int) (h : AH) : Prop := AW d M_M_isWithout Q 38 [some (vR 12 (-1)), some (vI p1), some (vI p2), some (vI p3), some (vI v4)] [vI s3, vI s2, vR 12 (-1), vI s0] h
theorem s_M_isWithout_3 {d : Nat} {Q : Int → AH → Prop} {p1 : Int} {p2 : Int} {p3 : Int} {v4 : Int} {h : AH} (hy : inb p3 40 ∧ (((h.1 58 p3) ≤ v4 → Q 1 h) ∧ (v4 < (h.1 58 p3) → (Call d M_M_letter [vR 12 (-1), vI p3, vI v4] h (fun r3 h2 => ((p2 ≤ v4 → (inI (v4 + 1) ∧ A_M_isWithout_38 d Q p1 p2 p3 v4 r3 p1 (v4 + 1) h2)) ∧ (v4 < p2 → A_M_isWithout_38 d Q p1 p2 p3 v4 r3 p1 v4 h2))))))) : A_M_isWithout_3 d Q p1 p2 p3 v4 h := by
  show AW d M_M_isWithout Q 3 [some (vR 12 (-1)), some (vI p1), some (vI p2), some (vI p3), some (vI v4)] [] h
  refine a_iload dX11_isWithout_3 rfl ?_
  refine a_aload_n dX11_isWithout_5 rfl ?_
  refine a_getR dX11_isWithout_6 fl_M_7 sk_12 rfl ?_
  refine a_iload_n dX11_isWithout_9 rfl ?_
  obtain ⟨c1, hy⟩ := hy
  refine a_iald' dX11_isWithout_10 sk_58 c1 (rfl) ?_
  refine a_icmp_ge (tgt := 52) dX11_isWithout_11 (by decide) (fun c => ?_) (fun c => ?_)
  · have hy := hy.1 c
    refine a_iconst (x := 1) dX11_isWithout_52 rfl ⟨by decide, by decide⟩ ?_
    exact a_zret dX11_isWithout_53 rfl (Or.inr rfl) hy
  · have hy := hy.2 (Int.not_le.mp c)
    refine a_aload_n dX11_isWithout_14 rfl ?_
    refine a_iload_n dX11_isWithout_15 rfl ?_
    refine a_iload dX11_isWithout_16 rfl ?_
    refine a_callVi (as := [vI p3, vI v4]) (st := []) dX11_isWithout_18 lk_M_262 sk_12 rfl rfl (Nat.le_of_ble_eq_true rfl) (Or.inl rfl) (Call.mono hy (fun r3 h2 _ hy => ?_))
    refine a_aload_n dX11_isWithout_21 rfl ?_
    refine a_iload_n dX11_isWithout_22 rfl ?_
    refine a_iload dX11_isWithout_23 rfl ?_
    refine a_iload_n dX11_isWithout_25 rfl ?_
    refine a_icmp_ge (tgt := 34) dX11_isWithout_26 (by decide) (fun c => ?_) (fun c => ?_)
    · have hy := hy.1 c
      refine a_iload dX11_isWithout_34 rfl ?_
      refine a_iconst (x := 1) dX11_isWithout_36 rfl ⟨by decide, by decide⟩ ?_
      obtain ⟨c4, hy⟩ := hy
      refine a_iadd dX11_isWithout_37 c4 ?_
      exact hy
    · have hy := hy.2 (Int.not_le.mp c)
      refine a_iload dX11_isWithout_29 rfl ?_
      refine a_goto (tgt := 38) dX11_isWithout_31 (by decide) ?_
      exact hy
theorem s_M_isWithout_38 {d : Nat} {Q : Int → AH → Prop} {p1 : Int} {p2 : Int} {p3 : Int} {v4 : Int} {s0 : Int} {s2 : Int} {s3 : Int} {h : AH} (hy : Call d M_M_letter [vR 12 (-1), vI s2, vI s3] h (fun r2 h1 => ((s0 = r2 → (inI (v4 + 1) ∧ A_M_isWithout_3 d Q p1 p2 p3 (v4 + 1) h1)) ∧ (s0 ≠ r2 → Q 0 h1)))) : A_M_isWithout_38 d Q p1 p2 p3 v4 s0 s2 s3 h := by
  show AW d M_M_isWithout Q 38 [some (vR 12 (-1)), some (vI p1), some (vI p2), some (vI p3), some (vI v4)] [vI s3, vI s2, vR 12 (-1), vI s0] h
  refine a_callVi (as := [vI s2, vI s3]) (st := [vI s0]) dX11_isWithout_38 lk_M_262 sk_12 rfl rfl (Nat.le_of_ble_eq_true rfl) (Or.inl rfl) (Call.mono hy (fun r2 h1 _ hy => ?_))
  refine a_icmp_eq (tgt := 46) dX11_isWithout_41 (by decide) (fun c => ?_) (fun c => ?_)
  · have hy := hy.1 c
    obtain ⟨c3, hy⟩ := hy
    refine a_iinc (y := v4 + 1) (ls2 := [some (vR 12 (-1)), some (vI p1), some (vI p2), some (vI p3), some (vI (v4 + 1))]) dX11_isWithout_46 rfl rfl c3 rfl ?_
    refine a_goto (tgt := 3) dX11_isWithout_49 (by decide) ?_
    exact hy
  · have hy := hy.2 (c)
    refine a_iconst (x := 0) dX11_isWithout_44 rfl ⟨by decide, by decide⟩ ?_
    exact a_zret dX11_isWithout_45 rfl (Or.inl rfl) hy
theorem c_M_isWithout {d : Nat} (d0 : Nat) (hd : d0 < d) {p1 : Int} {p2 : Int} {p3 : Int} {h : AH} {Q : Int → AH → Prop} (hy : A_M_isWithout_3 d0 Q p1 p2 p3 0 h) : Call d M_M_isWithout [vR 12 (-1), vI p1, vI p2, vI p3] h Q := by
  refine ⟨d0, hd, Big.of rfl (Nat.le_of_ble_eq_true rfl) ?_⟩
  show AW d0 M_M_isWithout Q 0 [some (vR 12 (-1)), some (vI p1), some (vI p2), some (vI p3), none] [] h
  refine a_iconst (x := 0) dX11_isWithout_0 rfl ⟨by decide, by decide⟩ ?_
  refine a_istore (ls2 := [some (vR 12 (-1)), some (vI p1), some (vI p2), some (vI p3), some (vI 0)]) dX11_isWithout_1 (Nat.le_of_ble_eq_true rfl) rfl ?_
  exact hy
theorem c_M_isWord {d : Nat} (d0 : Nat) (hd : d0 < d) {p1 : Int} {h : AH} {Q : Int → AH → Prop} (hy : ((p1 < 0 → Q 0 h) ∧ (0 ≤ p1 → (((h.1 12 0) ≤ p1 → Q 0 h) ∧ (p1 < (h.1 12 0) → Q 1 h))))) : Call d M_M_isWord [vR 12 (-1), vI p1] h Q := by
  refine ⟨d0, hd, Big.of rfl (Nat.le_of_ble_eq_true rfl) ?_⟩
  show AW d0 M_M_isWord Q 0 [some (vR 12 (-1)), some (vI p1)] [] h
  refine a_iload_n dX11_isWord_0 rfl ?_
  refine a_if_lt (tgt := 16) dX11_isWord_1 (by decide) (fun c => ?_) (fun c => ?_)
  · have hy := hy.1 c
    refine a_iconst (x := 0) dX11_isWord_16 rfl ⟨by decide, by decide⟩ ?_
    exact a_zret dX11_isWord_17 rfl (Or.inl rfl) hy
  · have hy := hy.2 (Int.not_lt.mp c)
    refine a_iload_n dX11_isWord_4 rfl ?_
    refine a_aload_n dX11_isWord_5 rfl ?_
    refine a_getI' (kz := 0) dX11_isWord_6 fl_M_130 sk_12 rfl rfl (rfl) ?_
    refine a_icmp_ge (tgt := 16) dX11_isWord_9 (by decide) (fun c => ?_) (fun c => ?_)
    · have hy := hy.1 c
      refine a_iconst (x := 0) dX11_isWord_16 rfl ⟨by decide, by decide⟩ ?_
      exact a_zret dX11_isWord_17 rfl (Or.inl rfl) hy
    · have hy := hy.2 (Int.not_le.mp c)
      refine a_iconst (x := 1) dX11_isWord_12 rfl ⟨by decide, by decide⟩ ?_
      refine a_goto (tgt := 17) dX11_isWord_13 (by decide) ?_
      exact a_zret dX11_isWord_17 rfl (Or.inr rfl) hy
theorem c_M_jumps {d : Nat} (d0 : Nat) (hd : d0 < d) {p1 : Int} {h : AH} {Q : Int → AH → Prop} (hy : inI (1048576 * p1) ∧ (inI ((1048576 * p1) + (h.1 12 16)) ∧ (inb (h.1 12 17) 180 ∧ (inI ((h.1 12 17) + 1) ∧ (Call d0 M_M_notes [vR 12 (-1), vI p1, vI 0] (wI (wI h 66 (h.1 12 17) ((1048576 * p1) + (h.1 12 16))) 12 17 ((h.1 12 17) + 1)) (fun _ h5 => inI ((h5.1 12 12) + 1) ∧ Q 0 (wI h5 12 12 ((h5.1 12 12) + 1)))))))) : Call d M_M_jumps [vR 12 (-1), vI p1] h Q := by
  refine ⟨d0, hd, Big.of rfl (Nat.le_of_ble_eq_true rfl) ?_⟩
  show AW d0 M_M_jumps Q 0 [some (vR 12 (-1)), some (vI p1)] [] h
  refine a_aload_n dX11_jumps_0 rfl ?_
  refine a_getR dX11_jumps_1 fl_M_36 sk_12 rfl ?_
  refine a_aload_n dX11_jumps_4 rfl ?_
  refine a_getI' (kz := 17) dX11_jumps_5 fl_M_191 sk_12 rfl rfl (rfl) ?_
  refine a_ldc (x := 1048576) dX11_jumps_8 kc_M_187 ⟨by decide, by decide⟩ ?_
  refine a_iload_n dX11_jumps_10 rfl ?_
  obtain ⟨c1, hy⟩ := hy
  refine a_imul dX11_jumps_11 c1 ?_
  refine a_aload_n dX11_jumps_12 rfl ?_
  refine a_getI' (kz := 16) dX11_jumps_13 fl_M_184 sk_12 rfl rfl (rfl) ?_
  obtain ⟨c2, hy⟩ := hy
  refine a_iadd dX11_jumps_16 c2 ?_
  obtain ⟨c3, hy⟩ := hy
  refine a_iast dX11_jumps_17 sk_66 c3 ?_
  refine a_aload_n dX11_jumps_18 rfl ?_
  refine a_aload_n dX11_jumps_19 rfl ?_
  refine a_getI' (kz := 17) dX11_jumps_20 fl_M_191 sk_12 rfl rfl (rI_ne (by decide)) ?_
  refine a_iconst (x := 1) dX11_jumps_23 rfl ⟨by decide, by decide⟩ ?_
  obtain ⟨c4, hy⟩ := hy
  refine a_iadd dX11_jumps_24 c4 ?_
  refine a_putI (kz := 17) dX11_jumps_25 fp_M_191 sk_12 rfl rfl ?_
  refine a_aload_n dX11_jumps_28 rfl ?_
  refine a_iload_n dX11_jumps_29 rfl ?_
  refine a_iconst (x := 0) dX11_jumps_30 rfl ⟨by decide, by decide⟩ ?_
  refine a_callVv (as := [vI p1, vI 0]) (st := []) dX11_jumps_31 lk_M_197 sk_12 rfl rfl (Nat.le_of_ble_eq_true rfl) rfl (Call.mono hy (fun _ h5 _ hy => ?_))
  refine a_aload_n dX11_jumps_34 rfl ?_
  refine a_aload_n dX11_jumps_35 rfl ?_
  refine a_getI' (kz := 12) dX11_jumps_36 fl_M_161 sk_12 rfl rfl (rfl) ?_
  refine a_iconst (x := 1) dX11_jumps_39 rfl ⟨by decide, by decide⟩ ?_
  obtain ⟨c6, hy⟩ := hy
  refine a_iadd dX11_jumps_40 c6 ?_
  refine a_putI (kz := 12) dX11_jumps_41 fp_M_161 sk_12 rfl rfl ?_
  exact a_vret dX11_jumps_44 rfl hy
theorem c_M_know {d : Nat} (d0 : Nat) (hd : d0 < d) {p1 : Int} {p2 : Int} {h : AH} {Q : Int → AH → Prop} (hy : Call d0 M_M_isWord [vR 12 (-1), vI p1] h (fun r2 h1 => ((r2 = 0 → Q 0 h1) ∧ (r2 ≠ 0 → (Call d0 M_M_in [vI p2, vI 0, vI 99] h1 (fun r4 h3 => ((r4 ≠ 0 → (inb p1 40 ∧ Q 1 (wI h3 60 p1 p2))) ∧ (r4 = 0 → Q 0 h3)))))))) : Call d M_M_know [vR 12 (-1), vI p1, vI p2] h Q := by
  refine ⟨d0, hd, Big.of rfl (Nat.le_of_ble_eq_true rfl) ?_⟩
  show AW d0 M_M_know Q 0 [some (vR 12 (-1)), some (vI p1), some (vI p2)] [] h
  refine a_aload_n dX11_know_0 rfl ?_
  refine a_iload_n dX11_know_1 rfl ?_
  refine a_callVi (as := [vI p1]) (st := []) dX11_know_2 lk_M_154 sk_12 rfl rfl (Nat.le_of_ble_eq_true rfl) (Or.inr rfl) (Call.mono hy (fun r2 h1 _ hy => ?_))
  refine a_if_eq (tgt := 18) dX11_know_5 (by decide) (fun c => ?_) (fun c => ?_)
  · have hy := hy.1 c
    refine a_iconst (x := 0) dX11_know_18 rfl ⟨by decide, by decide⟩ ?_
    exact a_zret dX11_know_19 rfl (Or.inl rfl) hy
  · have hy := hy.2 (c)
    refine a_iload_n dX11_know_8 rfl ?_
    refine a_iconst (x := 0) dX11_know_9 rfl ⟨by decide, by decide⟩ ?_
    refine a_bipush (x := 99) dX11_know_10 (by decide) ⟨by decide, by decide⟩ ?_
    refine a_callSi (as := [vI p2, vI 0, vI 99]) (st := []) dX11_know_12 lk_M_139 rfl rfl (Nat.le_of_ble_eq_true rfl) (Or.inr rfl) (Call.mono hy (fun r4 h3 _ hy => ?_))
    refine a_if_ne (tgt := 20) dX11_know_15 (by decide) (fun c => ?_) (fun c => ?_)
    · have hy := hy.1 c
      refine a_aload_n dX11_know_20 rfl ?_
      refine a_getR dX11_know_21 fl_M_16 sk_12 rfl ?_
      refine a_iload_n dX11_know_24 rfl ?_
      refine a_iload_n dX11_know_25 rfl ?_
      obtain ⟨c5, hy⟩ := hy
      refine a_iast dX11_know_26 sk_60 c5 ?_
      refine a_iconst (x := 1) dX11_know_27 rfl ⟨by decide, by decide⟩ ?_
      exact a_zret dX11_know_28 rfl (Or.inr rfl) hy
    · have hy := hy.2 (Decidable.not_not.mp c)
      refine a_iconst (x := 0) dX11_know_18 rfl ⟨by decide, by decide⟩ ?_
      exact a_zret dX11_know_19 rfl (Or.inl rfl) hy
def A_M_lands_0 (d : Nat) (Q : Int → AH → Prop) (p1 : Int) (h : AH) : Prop := AW d M_M_lands Q 0 [some (vR 12 (-1)), some (vI p1), none] [] h
def A_M_lands_22 (d : Nat) (Q : Int → AH → Prop) (p1 : Int) (h : AH) : Prop := AW d M_M_lands Q 22 [some (vR 12 (-1)), some (vI p1), none] [] h
theorem s_M_lands_0 {d : Nat} {Q : Int → AH → Prop} {p1 : Int} {h : AH} (hy : Call d M_M_top [vR 12 (-1)] h (fun r2 h1 => ((r2 = 11 → A_M_lands_22 d Q p1 h1) ∧ (r2 ≠ 11 → ((p1 = 0 → Q 0 h1) ∧ (p1 ≠ 0 → (Call d M_M_top [vR 12 (-1)] h1 (fun r4 h3 => ((r4 ≠ 12 → Q 0 h3) ∧ (r4 = 12 → A_M_lands_22 d Q p1 h3)))))))))) : A_M_lands_0 d Q p1 h := by
  show AW d M_M_lands Q 0 [some (vR 12 (-1)), some (vI p1), none] [] h
  refine a_aload_n dX11_lands_0 rfl ?_
  refine a_callVi (as := []) (st := []) dX11_lands_1 lk_M_194 sk_12 rfl rfl (Nat.le_of_ble_eq_true rfl) (Or.inl rfl) (Call.mono hy (fun r2 h1 _ hy => ?_))
  refine a_bipush (x := 11) dX11_lands_4 (by decide) ⟨by decide, by decide⟩ ?_
  refine a_icmp_eq (tgt := 22) dX11_lands_6 (by decide) (fun c => ?_) (fun c => ?_)
  · have hy := hy.1 c
    exact hy
  · have hy := hy.2 (c)
    refine a_iload_n dX11_lands_9 rfl ?_
    refine a_if_eq (tgt := 73) dX11_lands_10 (by decide) (fun c => ?_) (fun c => ?_)
    · have hy := hy.1 c
      exact a_vret dX11_lands_73 rfl hy
    · have hy := hy.2 (c)
      refine a_aload_n dX11_lands_13 rfl ?_
      refine a_callVi (as := []) (st := []) dX11_lands_14 lk_M_194 sk_12 rfl rfl (Nat.le_of_ble_eq_true rfl) (Or.inl rfl) (Call.mono hy (fun r4 h3 _ hy => ?_))
      refine a_bipush (x := 12) dX11_lands_17 (by decide) ⟨by decide, by decide⟩ ?_
      refine a_icmp_ne (tgt := 73) dX11_lands_19 (by decide) (fun c => ?_) (fun c => ?_)
      · have hy := hy.1 c
        exact a_vret dX11_lands_73 rfl hy
      · have hy := hy.2 (Decidable.not_not.mp c)
        exact hy
theorem s_M_lands_22 {d : Nat} {Q : Int → AH → Prop} {p1 : Int} {h : AH} (hy : inI ((h.1 12 17) - 1) ∧ (inb ((h.1 12 17) - 1) 180 ∧ (inb (Int.tmod (h.1 66 ((h.1 12 17) - 1)) 1048576) 180 ∧ (inI (Int.tdiv (h.1 65 (Int.tmod (h.1 66 ((h.1 12 17) - 1)) 1048576)) 1048576) ∧ (inI (1048576 * (Int.tdiv (h.1 65 (Int.tmod (h.1 66 ((h.1 12 17) - 1)) 1048576)) 1048576)) ∧ (inI ((1048576 * (Int.tdiv (h.1 65 (Int.tmod (h.1 66 ((h.1 12 17) - 1)) 1048576)) 1048576)) + (h.1 12 16)) ∧ A_M_lands_0 d Q p1 (wI (wI h 65 (Int.tmod (h.1 66 ((h.1 12 17) - 1)) 1048576) ((1048576 * (Int.tdiv (h.1 65 (Int.tmod (h.1 66 ((h.1 12 17) - 1)) 1048576)) 1048576)) + (h.1 12 16))) 12 17 ((h.1 12 17) - 1)))))))) : A_M_lands_22 d Q p1 h := by
  show AW d M_M_lands Q 22 [some (vR 12 (-1)), some (vI p1), none] [] h
  refine a_aload_n dX11_lands_22 rfl ?_
  refine a_getR dX11_lands_23 fl_M_36 sk_12 rfl ?_
  refine a_aload_n dX11_lands_26 rfl ?_
  refine a_getI' (kz := 17) dX11_lands_27 fl_M_191 sk_12 rfl rfl (rfl) ?_
  refine a_iconst (x := 1) dX11_lands_30 rfl ⟨by decide, by decide⟩ ?_
  obtain ⟨c1, hy⟩ := hy
  refine a_isub dX11_lands_31 c1 ?_
  obtain ⟨c2, hy⟩ := hy
  refine a_iald' dX11_lands_32 sk_66 c2 (rfl) ?_
  refine a_ldc (x := 1048576) dX11_lands_33 kc_M_187 ⟨by decide, by decide⟩ ?_
  refine a_irem dX11_lands_35 (by decide) ?_
  refine a_istore_n (i := 2) (ls2 := [some (vR 12 (-1)), some (vI p1), some (vI (Int.tmod (h.1 66 ((h.1 12 17) - 1)) 1048576))]) dX11_lands_36 rfl (Nat.le_of_ble_eq_true rfl) rfl ?_
  refine a_aload_n dX11_lands_37 rfl ?_
  refine a_getR dX11_lands_38 fl_M_33 sk_12 rfl ?_
  refine a_iload_n dX11_lands_41 rfl ?_
  refine a_ldc (x := 1048576) dX11_lands_42 kc_M_187 ⟨by decide, by decide⟩ ?_
  refine a_aload_n dX11_lands_44 rfl ?_
  refine a_getR dX11_lands_45 fl_M_33 sk_12 rfl ?_
  refine a_iload_n dX11_lands_48 rfl ?_
  obtain ⟨c3, hy⟩ := hy
  refine a_iald' dX11_lands_49 sk_65 c3 (rfl) ?_
  refine a_ldc (x := 1048576) dX11_lands_50 kc_M_187 ⟨by decide, by decide⟩ ?_
  obtain ⟨c4, hy⟩ := hy
  refine a_idiv dX11_lands_52 (by decide) c4 ?_
  obtain ⟨c5, hy⟩ := hy
  refine a_imul dX11_lands_53 c5 ?_
  refine a_aload_n dX11_lands_54 rfl ?_
  refine a_getI' (kz := 16) dX11_lands_55 fl_M_184 sk_12 rfl rfl (rfl) ?_
  obtain ⟨c6, hy⟩ := hy
  refine a_iadd dX11_lands_58 c6 ?_
  refine a_iast dX11_lands_59 sk_65 c3 ?_
  refine a_aload_n dX11_lands_60 rfl ?_
  refine a_aload_n dX11_lands_61 rfl ?_
  refine a_getI' (kz := 17) dX11_lands_62 fl_M_191 sk_12 rfl rfl (rI_ne (by decide)) ?_
  refine a_iconst (x := 1) dX11_lands_65 rfl ⟨by decide, by decide⟩ ?_
  refine a_isub dX11_lands_66 c1 ?_
  refine a_putI (kz := 17) dX11_lands_67 fp_M_191 sk_12 rfl rfl ?_
  refine a_goto (tgt := 0) dX11_lands_70 (by decide) ?_
  refine a_mask [true, true, false] (ls2 := [some (vR 12 (-1)), some (vI p1), none]) rfl rfl ?_
  exact hy
theorem c_M_lands {d : Nat} (d0 : Nat) (hd : d0 < d) {p1 : Int} {h : AH} {Q : Int → AH → Prop} (hy : A_M_lands_0 d0 Q p1 h) : Call d M_M_lands [vR 12 (-1), vI p1] h Q := by
  refine ⟨d0, hd, Big.of rfl (Nat.le_of_ble_eq_true rfl) ?_⟩
  show AW d0 M_M_lands Q 0 [some (vR 12 (-1)), some (vI p1), none] [] h
  exact hy
def A_M_law_46 (d : Nat) (Q : Int → AH → Prop) (v2 : Int) (h : AH) : Prop := AW d M_M_law Q 46 [some (vR 12 (-1)), none, some (vI v2), none] [] h
def A_M_law_86 (d : Nat) (Q : Int → AH → Prop) (v2 : Int) (h : AH) : Prop := AW d M_M_law Q 86 [some (vR 12 (-1)), none, some (vI v2), none] [] h
def A_M_law_110 (d : Nat) (Q : Int → AH → Prop) (v3 : Int) (h : AH) : Prop := AW d M_M_law Q 110 [some (vR 12 (-1)), none, none, some (vI v3)] [] h
def A_M_law_138 (d : Nat) (Q : Int → AH → Prop) (v3 : Int) (h : AH) : Prop := AW d M_M_law Q 138 [some (vR 12 (-1)), none, none, some (vI v3)] [] h
theorem s_M_law_46 {d : Nat} {Q : Int → AH → Prop} {v2 : Int} {h : AH} (hy : ((v2 = 0 → A_M_law_86 d Q v2 h) ∧ (v2 ≠ 0 → (((h.1 12 13) ≤ (h.1 12 12) → A_M_law_86 d Q v2 h) ∧ ((h.1 12 12) < (h.1 12 13) → (Call d M_M_takes [vR 12 (-1), vI 59] h (fun r2 h1 => ((r2 = 0 → A_M_law_46 d Q 0 h1) ∧ (r2 ≠ 0 → (Call d M_M_readsClause [vR 12 (-1)] h1 (fun r4 h3 => ((r4 = 0 → A_M_law_46 d Q 0 h3) ∧ (r4 ≠ 0 → A_M_law_46 d Q 1 h3))))))))))))) : A_M_law_46 d Q v2 h := by
  show AW d M_M_law Q 46 [some (vR 12 (-1)), none, some (vI v2), none] [] h
  refine a_iload_n dX11_law_46 rfl ?_
  refine a_if_eq (tgt := 86) dX11_law_47 (by decide) (fun c => ?_) (fun c => ?_)
  · have hy := hy.1 c
    exact hy
  · have hy := hy.2 (c)
    refine a_aload_n dX11_law_50 rfl ?_
    refine a_getI' (kz := 12) dX11_law_51 fl_M_161 sk_12 rfl rfl (rfl) ?_
    refine a_aload_n dX11_law_54 rfl ?_
    refine a_getI' (kz := 13) dX11_law_55 fl_M_164 sk_12 rfl rfl (rfl) ?_
    refine a_icmp_ge (tgt := 86) dX11_law_58 (by decide) (fun c => ?_) (fun c => ?_)
    · have hy := hy.1 c
      exact hy
    · have hy := hy.2 (Int.not_le.mp c)
      refine a_aload_n dX11_law_61 rfl ?_
      refine a_bipush (x := 59) dX11_law_62 (by decide) ⟨by decide, by decide⟩ ?_
      refine a_callVi (as := [vI 59]) (st := []) dX11_law_64 lk_M_248 sk_12 rfl rfl (Nat.le_of_ble_eq_true rfl) (Or.inr rfl) (Call.mono hy (fun r2 h1 _ hy => ?_))
      refine a_if_eq (tgt := 81) dX11_law_67 (by decide) (fun c => ?_) (fun c => ?_)
      · have hy := hy.1 c
        refine a_iconst (x := 0) dX11_law_81 rfl ⟨by decide, by decide⟩ ?_
        refine a_istore_n (i := 2) (ls2 := [some (vR 12 (-1)), none, some (vI 0), none]) dX11_law_82 rfl (Nat.le_of_ble_eq_true rfl) rfl ?_
        refine a_goto (tgt := 46) dX11_law_83 (by decide) ?_
        exact hy
      · have hy := hy.2 (c)
        refine a_aload_n dX11_law_70 rfl ?_
        refine a_callVi (as := []) (st := []) dX11_law_71 lk_M_245 sk_12 rfl rfl (Nat.le_of_ble_eq_true rfl) (Or.inr rfl) (Call.mono hy (fun r4 h3 _ hy => ?_))
        refine a_if_eq (tgt := 81) dX11_law_74 (by decide) (fun c => ?_) (fun c => ?_)
        · have hy := hy.1 c
          refine a_iconst (x := 0) dX11_law_81 rfl ⟨by decide, by decide⟩ ?_
          refine a_istore_n (i := 2) (ls2 := [some (vR 12 (-1)), none, some (vI 0), none]) dX11_law_82 rfl (Nat.le_of_ble_eq_true rfl) rfl ?_
          refine a_goto (tgt := 46) dX11_law_83 (by decide) ?_
          exact hy
        · have hy := hy.2 (c)
          refine a_iconst (x := 1) dX11_law_77 rfl ⟨by decide, by decide⟩ ?_
          refine a_goto (tgt := 82) dX11_law_78 (by decide) ?_
          refine a_istore_n (i := 2) (ls2 := [some (vR 12 (-1)), none, some (vI 1), none]) dX11_law_82 rfl (Nat.le_of_ble_eq_true rfl) rfl ?_
          refine a_goto (tgt := 46) dX11_law_83 (by decide) ?_
          exact hy
theorem s_M_law_86 {d : Nat} {Q : Int → AH → Prop} {v2 : Int} {h : AH} (hy : ((v2 ≠ 0 → A_M_law_110 d Q 0 (wI (wI h 12 11 0) 12 20 (h.1 12 18))) ∧ (v2 = 0 → Q (h.1 12 14) (wI h 12 11 0)))) : A_M_law_86 d Q v2 h := by
  show AW d M_M_law Q 86 [some (vR 12 (-1)), none, some (vI v2), none] [] h
  refine a_aload_n dX11_law_86 rfl ?_
  refine a_iconst (x := 0) dX11_law_87 rfl ⟨by decide, by decide⟩ ?_
  refine a_putI (kz := 11) dX11_law_88 fp_M_133 sk_12 rfl rfl ?_
  refine a_iload_n dX11_law_91 rfl ?_
  refine a_if_ne (tgt := 100) dX11_law_92 (by decide) (fun c => ?_) (fun c => ?_)
  · have hy := hy.1 c
    refine a_aload_n dX11_law_100 rfl ?_
    refine a_aload_n dX11_law_101 rfl ?_
    refine a_getI' (kz := 18) dX11_law_102 fl_M_239 sk_12 rfl rfl (rI_nk (by decide)) ?_
    refine a_putI (kz := 20) dX11_law_105 fp_M_251 sk_12 rfl rfl ?_
    refine a_iconst (x := 0) dX11_law_108 rfl ⟨by decide, by decide⟩ ?_
    refine a_istore_n (i := 3) (ls2 := [some (vR 12 (-1)), none, some (vI v2), some (vI 0)]) dX11_law_109 rfl (Nat.le_of_ble_eq_true rfl) rfl ?_
    refine a_mask [true, true, false, true] (ls2 := [some (vR 12 (-1)), none, none, some (vI 0)]) rfl rfl ?_
    exact hy
  · have hy := hy.2 (Decidable.not_not.mp c)
    refine a_aload_n dX11_law_95 rfl ?_
    refine a_getI' (kz := 14) dX11_law_96 fl_M_171 sk_12 rfl rfl (rI_nk (by decide)) ?_
    exact a_iret dX11_law_99 rfl hy
theorem s_M_law_110 {d : Nat} {Q : Int → AH → Prop} {v3 : Int} {h : AH} (hy : (((h.1 12 16) ≤ v3 → A_M_law_138 d Q 0 h) ∧ (v3 < (h.1 12 16) → (inb v3 180 ∧ (inI (v3 + 1) ∧ A_M_law_110 d Q (v3 + 1) (wI h 71 v3 (h.1 65 v3))))))) : A_M_law_110 d Q v3 h := by
  show AW d M_M_law Q 110 [some (vR 12 (-1)), none, none, some (vI v3)] [] h
  refine a_iload_n dX11_law_110 rfl ?_
  refine a_aload_n dX11_law_111 rfl ?_
  refine a_getI' (kz := 16) dX11_law_112 fl_M_184 sk_12 rfl rfl (rfl) ?_
  refine a_icmp_ge (tgt := 136) dX11_law_115 (by decide) (fun c => ?_) (fun c => ?_)
  · have hy := hy.1 c
    refine a_iconst (x := 0) dX11_law_136 rfl ⟨by decide, by decide⟩ ?_
    refine a_istore_n (i := 3) (ls2 := [some (vR 12 (-1)), none, none, some (vI 0)]) dX11_law_137 rfl (Nat.le_of_ble_eq_true rfl) rfl ?_
    exact hy
  · have hy := hy.2 (Int.not_le.mp c)
    refine a_aload_n dX11_law_118 rfl ?_
    refine a_getR dX11_law_119 fl_M_51 sk_12 rfl ?_
    refine a_iload_n dX11_law_122 rfl ?_
    refine a_aload_n dX11_law_123 rfl ?_
    refine a_getR dX11_law_124 fl_M_33 sk_12 rfl ?_
    refine a_iload_n dX11_law_127 rfl ?_
    obtain ⟨c1, hy⟩ := hy
    refine a_iald' dX11_law_128 sk_65 c1 (rfl) ?_
    refine a_iast dX11_law_129 sk_71 c1 ?_
    obtain ⟨c2, hy⟩ := hy
    refine a_iinc (y := v3 + 1) (ls2 := [some (vR 12 (-1)), none, none, some (vI (v3 + 1))]) dX11_law_130 rfl rfl c2 rfl ?_
    refine a_goto (tgt := 110) dX11_law_133 (by decide) ?_
    exact hy
theorem s_M_law_138 {d : Nat} {Q : Int → AH → Prop} {v3 : Int} {h : AH} (hy : (((h.1 12 18) ≤ v3 → Q (h.1 12 18) h) ∧ (v3 < (h.1 12 18) → (inb v3 12 ∧ (inI (v3 + 1) ∧ A_M_law_138 d Q (v3 + 1) (wI (wI (wI (wI h 72 v3 (h.1 67 v3)) 73 v3 (h.1 68 v3)) 74 v3 (h.1 69 v3)) 75 v3 (h.1 70 v3))))))) : A_M_law_138 d Q v3 h := by
  show AW d M_M_law Q 138 [some (vR 12 (-1)), none, none, some (vI v3)] [] h
  refine a_iload_n dX11_law_138 rfl ?_
  refine a_aload_n dX11_law_139 rfl ?_
  refine a_getI' (kz := 18) dX11_law_140 fl_M_239 sk_12 rfl rfl (rfl) ?_
  refine a_icmp_ge (tgt := 200) dX11_law_143 (by decide) (fun c => ?_) (fun c => ?_)
  · have hy := hy.1 c
    refine a_aload_n dX11_law_200 rfl ?_
    refine a_getI' (kz := 18) dX11_law_201 fl_M_239 sk_12 rfl rfl (rfl) ?_
    exact a_iret dX11_law_204 rfl hy
  · have hy := hy.2 (Int.not_le.mp c)
    refine a_aload_n dX11_law_146 rfl ?_
    refine a_getR dX11_law_147 fl_M_54 sk_12 rfl ?_
    refine a_iload_n dX11_law_150 rfl ?_
    refine a_aload_n dX11_law_151 rfl ?_
    refine a_getR dX11_law_152 fl_M_39 sk_12 rfl ?_
    refine a_iload_n dX11_law_155 rfl ?_
    obtain ⟨c1, hy⟩ := hy
    refine a_iald' dX11_law_156 sk_67 c1 (rfl) ?_
    refine a_iast dX11_law_157 sk_72 c1 ?_
    refine a_aload_n dX11_law_158 rfl ?_
    refine a_getR dX11_law_159 fl_M_57 sk_12 rfl ?_
    refine a_iload_n dX11_law_162 rfl ?_
    refine a_aload_n dX11_law_163 rfl ?_
    refine a_getR dX11_law_164 fl_M_42 sk_12 rfl ?_
    refine a_iload_n dX11_law_167 rfl ?_
    refine a_iald' dX11_law_168 sk_68 c1 (rI_ne (by decide)) ?_
    refine a_iast dX11_law_169 sk_73 c1 ?_
    refine a_aload_n dX11_law_170 rfl ?_
    refine a_getR dX11_law_171 fl_M_60 sk_12 rfl ?_
    refine a_iload_n dX11_law_174 rfl ?_
    refine a_aload_n dX11_law_175 rfl ?_
    refine a_getR dX11_law_176 fl_M_45 sk_12 rfl ?_
    refine a_iload_n dX11_law_179 rfl ?_
    refine a_iald' dX11_law_180 sk_69 c1 ((rI_ne (by decide)).trans (rI_ne (by decide))) ?_
    refine a_iast dX11_law_181 sk_74 c1 ?_
    refine a_aload_n dX11_law_182 rfl ?_
    refine a_getR dX11_law_183 fl_M_63 sk_12 rfl ?_
    refine a_iload_n dX11_law_186 rfl ?_
    refine a_aload_n dX11_law_187 rfl ?_
    refine a_getR dX11_law_188 fl_M_48 sk_12 rfl ?_
    refine a_iload_n dX11_law_191 rfl ?_
    refine a_iald' dX11_law_192 sk_70 c1 ((rI_ne (by decide)).trans ((rI_ne (by decide)).trans (rI_ne (by decide)))) ?_
    refine a_iast dX11_law_193 sk_75 c1 ?_
    obtain ⟨c2, hy⟩ := hy
    refine a_iinc (y := v3 + 1) (ls2 := [some (vR 12 (-1)), none, none, some (vI (v3 + 1))]) dX11_law_194 rfl rfl c2 rfl ?_
    refine a_goto (tgt := 138) dX11_law_197 (by decide) ?_
    exact hy
theorem c_M_law {d : Nat} (d0 : Nat) (hd : d0 < d) {p1 : Int} {h : AH} {Q : Int → AH → Prop} (hy : Call d0 M_M_in [vI p1, vI 1, vI 160] h (fun r2 h1 => ((r2 = 0 → Q (-1) h1) ∧ (r2 ≠ 0 → ((p1 ≤ (h1.1 12 11) → (Call d0 M_M_readsClause [vR 12 (-1)] (wI (wI (wI (wI h1 12 12 0) 12 13 p1) 12 16 0) 12 18 0) (fun r4 h3 => A_M_law_46 d0 Q r4 h3))) ∧ ((h1.1 12 11) < p1 → Q (-1) h1)))))) : Call d M_M_law [vR 12 (-1), vI p1] h Q := by
  refine ⟨d0, hd, Big.of rfl (Nat.le_of_ble_eq_true rfl) ?_⟩
  show AW d0 M_M_law Q 0 [some (vR 12 (-1)), some (vI p1), none, none] [] h
  refine a_iload_n dX11_law_0 rfl ?_
  refine a_iconst (x := 1) dX11_law_1 rfl ⟨by decide, by decide⟩ ?_
  refine a_sipush (x := 160) dX11_law_2 (by decide) ⟨by decide, by decide⟩ ?_
  refine a_callSi (as := [vI p1, vI 1, vI 160]) (st := []) dX11_law_5 lk_M_139 rfl rfl (Nat.le_of_ble_eq_true rfl) (Or.inr rfl) (Call.mono hy (fun r2 h1 _ hy => ?_))
  refine a_if_eq (tgt := 19) dX11_law_8 (by decide) (fun c => ?_) (fun c => ?_)
  · have hy := hy.1 c
    refine a_iconst (x := (-1)) dX11_law_19 rfl ⟨by decide, by decide⟩ ?_
    exact a_iret dX11_law_20 rfl hy
  · have hy := hy.2 (c)
    refine a_iload_n dX11_law_11 rfl ?_
    refine a_aload_n dX11_law_12 rfl ?_
    refine a_getI' (kz := 11) dX11_law_13 fl_M_133 sk_12 rfl rfl (rfl) ?_
    refine a_icmp_le (tgt := 21) dX11_law_16 (by decide) (fun c => ?_) (fun c => ?_)
    · have hy := hy.1 c
      refine a_aload_n dX11_law_21 rfl ?_
      refine a_iconst (x := 0) dX11_law_22 rfl ⟨by decide, by decide⟩ ?_
      refine a_putI (kz := 12) dX11_law_23 fp_M_161 sk_12 rfl rfl ?_
      refine a_aload_n dX11_law_26 rfl ?_
      refine a_iload_n dX11_law_27 rfl ?_
      refine a_putI (kz := 13) dX11_law_28 fp_M_164 sk_12 rfl rfl ?_
      refine a_aload_n dX11_law_31 rfl ?_
      refine a_iconst (x := 0) dX11_law_32 rfl ⟨by decide, by decide⟩ ?_
      refine a_putI (kz := 16) dX11_law_33 fp_M_184 sk_12 rfl rfl ?_
      refine a_aload_n dX11_law_36 rfl ?_
      refine a_iconst (x := 0) dX11_law_37 rfl ⟨by decide, by decide⟩ ?_
      refine a_putI (kz := 18) dX11_law_38 fp_M_239 sk_12 rfl rfl ?_
      refine a_aload_n dX11_law_41 rfl ?_
      refine a_callVi (as := []) (st := []) dX11_law_42 lk_M_245 sk_12 rfl rfl (Nat.le_of_ble_eq_true rfl) (Or.inr rfl) (Call.mono hy (fun r4 h3 _ hy => ?_))
      refine a_istore_n (i := 2) (ls2 := [some (vR 12 (-1)), some (vI p1), some (vI r4), none]) dX11_law_45 rfl (Nat.le_of_ble_eq_true rfl) rfl ?_
      refine a_mask [true, false, true, true] (ls2 := [some (vR 12 (-1)), none, some (vI r4), none]) rfl rfl ?_
      exact hy
    · have hy := hy.2 (Int.not_le.mp c)
      refine a_iconst (x := (-1)) dX11_law_19 rfl ⟨by decide, by decide⟩ ?_
      exact a_iret dX11_law_20 rfl hy
def A_M_laysRest_8 (d : Nat) (Q : Int → AH → Prop) (p1 : Int) (v2 : Int) (v3 : Int) (h : AH) : Prop := AW d M_M_laysRest Q 8 [some (vR 12 (-1)), some (vI p1), some (vI v2), some (vI v3), none, none, none] [] h
def A_M_laysRest_15 (d : Nat) (Q : Int → AH → Prop) (p1 : Int) (v2 : Int) (v3 : Int) (v4 : Int) (h : AH) : Prop := AW d M_M_laysRest Q 15 [some (vR 12 (-1)), some (vI p1), some (vI v2), some (vI v3), some (vI v4), none, none] [] h
def A_M_laysRest_37 (d : Nat) (Q : Int → AH → Prop) (p1 : Int) (v2 : Int) (v3 : Int) (v4 : Int) (v5 : Int) (v6 : Int) (h : AH) : Prop := AW d M_M_laysRest Q 37 [some (vR 12 (-1)), some (vI p1), some (vI v2), some (vI v3), some (vI v4), some (vI v5), some (vI v6)] [] h
theorem s_M_laysRest_8 {d : Nat} {Q : Int → AH → Prop} {p1 : Int} {v2 : Int} {v3 : Int} {h : AH} (hy : ((v3 < 0 → Q 0 h) ∧ (0 ≤ v3 → A_M_laysRest_15 d Q p1 v2 v3 0 h))) : A_M_laysRest_8 d Q p1 v2 v3 h := by
  show AW d M_M_laysRest Q 8 [some (vR 12 (-1)), some (vI p1), some (vI v2), some (vI v3), none, none, none] [] h
  refine a_iload_n dX11_laysRest_8 rfl ?_
  refine a_if_lt (tgt := 92) dX11_laysRest_9 (by decide) (fun c => ?_) (fun c => ?_)
  · have hy := hy.1 c
    exact a_vret dX11_laysRest_92 rfl hy
  · have hy := hy.2 (Int.not_lt.mp c)
    refine a_iconst (x := 0) dX11_laysRest_12 rfl ⟨by decide, by decide⟩ ?_
    refine a_istore (ls2 := [some (vR 12 (-1)), some (vI p1), some (vI v2), some (vI v3), some (vI 0), none, none]) dX11_laysRest_13 (Nat.le_of_ble_eq_true rfl) rfl ?_
    exact hy
theorem s_M_laysRest_15 {d : Nat} {Q : Int → AH → Prop} {p1 : Int} {v2 : Int} {v3 : Int} {v4 : Int} {h : AH} (hy : ((p1 < v4 → (inI (v3 - 1) ∧ A_M_laysRest_8 d Q p1 v2 (v3 - 1) h)) ∧ (v4 ≤ p1 → A_M_laysRest_37 d Q p1 v2 v3 v4 (if v3 = v2 then (0 : Int) else 1000000000) 0 h))) : A_M_laysRest_15 d Q p1 v2 v3 v4 h := by
  show AW d M_M_laysRest Q 15 [some (vR 12 (-1)), some (vI p1), some (vI v2), some (vI v3), some (vI v4), none, none] [] h
  refine a_iload dX11_laysRest_15 rfl ?_
  refine a_iload_n dX11_laysRest_17 rfl ?_
  refine a_icmp_gt (tgt := 86) dX11_laysRest_18 (by decide) (fun c => ?_) (fun c => ?_)
  · have hy := hy.1 c
    obtain ⟨c1, hy⟩ := hy
    refine a_iinc (y := v3 - 1) (ls2 := [some (vR 12 (-1)), some (vI p1), some (vI v2), some (vI (v3 - 1)), some (vI v4), none, none]) dX11_laysRest_86 rfl (by omega) c1 rfl ?_
    refine a_goto (tgt := 8) dX11_laysRest_89 (by decide) ?_
    refine a_mask [true, true, true, true, false, true, true] (ls2 := [some (vR 12 (-1)), some (vI p1), some (vI v2), some (vI (v3 - 1)), none, none, none]) rfl rfl ?_
    exact hy
  · have hy := hy.2 (Int.not_lt.mp c)
    refine a_iload_n dX11_laysRest_21 rfl ?_
    refine a_iload_n dX11_laysRest_22 rfl ?_
    have J : AW d M_M_laysRest Q 32 [some (vR 12 (-1)), some (vI p1), some (vI v2), some (vI v3), some (vI v4), none, none] [vI (if v3 = v2 then (0 : Int) else 1000000000)] h := by
      refine a_istore (ls2 := [some (vR 12 (-1)), some (vI p1), some (vI v2), some (vI v3), some (vI v4), some (vI (if v3 = v2 then (0 : Int) else 1000000000)), none]) dX11_laysRest_32 (Nat.le_of_ble_eq_true rfl) rfl ?_
      refine a_iconst (x := 0) dX11_laysRest_34 rfl ⟨by decide, by decide⟩ ?_
      refine a_istore (ls2 := [some (vR 12 (-1)), some (vI p1), some (vI v2), some (vI v3), some (vI v4), some (vI (if v3 = v2 then (0 : Int) else 1000000000)), some (vI 0)]) dX11_laysRest_35 (Nat.le_of_ble_eq_true rfl) rfl ?_
      exact hy
    refine a_icmp_ne (tgt := 30) dX11_laysRest_23 (by decide) (fun e2 => ?_) (fun e2 => ?_)
    · refine a_ldc (x := 1000000000) dX11_laysRest_30 kc_M_129 ⟨by decide, by decide⟩ ?_
      exact a_cast (by first | rfl | simp only [if_neg e2]) (by first | rfl | simp only [if_neg e2]) J
    · refine a_iconst (x := 0) dX11_laysRest_26 rfl ⟨by decide, by decide⟩ ?_
      refine a_goto (tgt := 32) dX11_laysRest_27 (by decide) ?_
      exact a_cast (by first | rfl | simp only [if_pos (Decidable.not_not.mp e2)]) (by first | rfl | simp only [if_pos (Decidable.not_not.mp e2)]) J
theorem s_M_laysRest_37 {d : Nat} {Q : Int → AH → Prop} {p1 : Int} {v2 : Int} {v3 : Int} {v4 : Int} {v5 : Int} {v6 : Int} {h : AH} (hy : ((p1 ≤ v6 → (inI (13 * v3) ∧ (inI ((13 * v3) + v4) ∧ (inb ((13 * v3) + v4) 53248 ∧ (inI (v4 + 1) ∧ A_M_laysRest_15 d Q p1 v2 v3 (v4 + 1) (wI h 89 ((13 * v3) + v4) v5)))))) ∧ (v6 < p1 → (Call d M_M_rowBy [vR 12 (-1), vI p1, vI v3, vI v4, vI v6] h (fun r6 h5 => Call d M_M_min [vI v5, vI r6] h5 (fun r8 h7 => inI (v6 + 1) ∧ A_M_laysRest_37 d Q p1 v2 v3 v4 r8 (v6 + 1) h7)))))) : A_M_laysRest_37 d Q p1 v2 v3 v4 v5 v6 h := by
  show AW d M_M_laysRest Q 37 [some (vR 12 (-1)), some (vI p1), some (vI v2), some (vI v3), some (vI v4), some (vI v5), some (vI v6)] [] h
  refine a_iload dX11_laysRest_37 rfl ?_
  refine a_iload_n dX11_laysRest_39 rfl ?_
  refine a_icmp_ge (tgt := 66) dX11_laysRest_40 (by decide) (fun c => ?_) (fun c => ?_)
  · have hy := hy.1 c
    refine a_aload_n dX11_laysRest_66 rfl ?_
    refine a_getR dX11_laysRest_67 fl_M_107 sk_12 rfl ?_
    refine a_bipush (x := 13) dX11_laysRest_70 (by decide) ⟨by decide, by decide⟩ ?_
    refine a_iload_n dX11_laysRest_72 rfl ?_
    obtain ⟨c1, hy⟩ := hy
    refine a_imul dX11_laysRest_73 c1 ?_
    refine a_iload dX11_laysRest_74 rfl ?_
    obtain ⟨c2, hy⟩ := hy
    refine a_iadd dX11_laysRest_76 c2 ?_
    refine a_iload dX11_laysRest_77 rfl ?_
    obtain ⟨c3, hy⟩ := hy
    refine a_iast dX11_laysRest_79 sk_89 c3 ?_
    obtain ⟨c4, hy⟩ := hy
    refine a_iinc (y := v4 + 1) (ls2 := [some (vR 12 (-1)), some (vI p1), some (vI v2), some (vI v3), some (vI (v4 + 1)), some (vI v5), some (vI v6)]) dX11_laysRest_80 rfl rfl c4 rfl ?_
    refine a_goto (tgt := 15) dX11_laysRest_83 (by decide) ?_
    refine a_mask [true, true, true, true, true, false, false] (ls2 := [some (vR 12 (-1)), some (vI p1), some (vI v2), some (vI v3), some (vI (v4 + 1)), none, none]) rfl rfl ?_
    exact hy
  · have hy := hy.2 (Int.not_le.mp c)
    refine a_iload dX11_laysRest_43 rfl ?_
    refine a_aload_n dX11_laysRest_45 rfl ?_
    refine a_iload_n dX11_laysRest_46 rfl ?_
    refine a_iload_n dX11_laysRest_47 rfl ?_
    refine a_iload dX11_laysRest_48 rfl ?_
    refine a_iload dX11_laysRest_50 rfl ?_
    refine a_callVi (as := [vI p1, vI v3, vI v4, vI v6]) (st := [vI v5]) dX11_laysRest_52 lk_M_373 sk_12 rfl rfl (Nat.le_of_ble_eq_true rfl) (Or.inl rfl) (Call.mono hy (fun r6 h5 _ hy => ?_))
    refine a_callSi (as := [vI v5, vI r6]) (st := []) dX11_laysRest_55 lk_M_303 rfl rfl (Nat.le_of_ble_eq_true rfl) (Or.inl rfl) (Call.mono hy (fun r8 h7 _ hy => ?_))
    refine a_istore (ls2 := [some (vR 12 (-1)), some (vI p1), some (vI v2), some (vI v3), some (vI v4), some (vI r8), some (vI v6)]) dX11_laysRest_58 (Nat.le_of_ble_eq_true rfl) rfl ?_
    obtain ⟨c9, hy⟩ := hy
    refine a_iinc (y := v6 + 1) (ls2 := [some (vR 12 (-1)), some (vI p1), some (vI v2), some (vI v3), some (vI v4), some (vI r8), some (vI (v6 + 1))]) dX11_laysRest_60 rfl rfl c9 rfl ?_
    refine a_goto (tgt := 37) dX11_laysRest_63 (by decide) ?_
    exact hy
theorem c_M_laysRest {d : Nat} (d0 : Nat) (hd : d0 < d) {p1 : Int} {h : AH} {Q : Int → AH → Prop} (hy : inI ((ishl 1 p1) - 1) ∧ A_M_laysRest_8 d0 Q p1 ((ishl 1 p1) - 1) ((ishl 1 p1) - 1) h) : Call d M_M_laysRest [vR 12 (-1), vI p1] h Q := by
  refine ⟨d0, hd, Big.of rfl (Nat.le_of_ble_eq_true rfl) ?_⟩
  show AW d0 M_M_laysRest Q 0 [some (vR 12 (-1)), some (vI p1), none, none, none, none, none] [] h
  refine a_iconst (x := 1) dX11_laysRest_0 rfl ⟨by decide, by decide⟩ ?_
  refine a_iload_n dX11_laysRest_1 rfl ?_
  refine a_ishl dX11_laysRest_2 ?_
  refine a_iconst (x := 1) dX11_laysRest_3 rfl ⟨by decide, by decide⟩ ?_
  obtain ⟨c1, hy⟩ := hy
  refine a_isub dX11_laysRest_4 c1 ?_
  refine a_istore_n (i := 2) (ls2 := [some (vR 12 (-1)), some (vI p1), some (vI ((ishl 1 p1) - 1)), none, none, none, none]) dX11_laysRest_5 rfl (Nat.le_of_ble_eq_true rfl) rfl ?_
  refine a_iload_n dX11_laysRest_6 rfl ?_
  refine a_istore_n (i := 3) (ls2 := [some (vR 12 (-1)), some (vI p1), some (vI ((ishl 1 p1) - 1)), some (vI ((ishl 1 p1) - 1)), none, none, none]) dX11_laysRest_7 rfl (Nat.le_of_ble_eq_true rfl) rfl ?_
  exact hy
def A_M_laysRow_12 (d : Nat) (Q : Int → AH → Prop) (p1 : Int) (v2 : Int) (h : AH) : Prop := AW d M_M_laysRow Q 12 [some (vR 12 (-1)), some (vI p1), some (vI v2)] [] h
theorem s_M_laysRow_12 {d : Nat} {Q : Int → AH → Prop} {p1 : Int} {v2 : Int} {h : AH} (hy : (((h.1 12 9) ≤ v2 → Q 0 h) ∧ (v2 < (h.1 12 9) → (Call d M_M_letter [vR 12 (-1), vI p1, vI v2] h (fun r2 h1 => inb v2 12 ∧ (inI (v2 + 1) ∧ A_M_laysRow_12 d Q p1 (v2 + 1) (wI h1 63 v2 r2))))))) : A_M_laysRow_12 d Q p1 v2 h := by
  show AW d M_M_laysRow Q 12 [some (vR 12 (-1)), some (vI p1), some (vI v2)] [] h
  refine a_iload_n dX11_laysRow_12 rfl ?_
  refine a_aload_n dX11_laysRow_13 rfl ?_
  refine a_getI' (kz := 9) dX11_laysRow_14 fl_M_136 sk_12 rfl rfl (rfl) ?_
  refine a_icmp_ge (tgt := 38) dX11_laysRow_17 (by decide) (fun c => ?_) (fun c => ?_)
  · have hy := hy.1 c
    exact a_vret dX11_laysRow_38 rfl hy
  · have hy := hy.2 (Int.not_le.mp c)
    refine a_aload_n dX11_laysRow_20 rfl ?_
    refine a_getR dX11_laysRow_21 fl_M_26 sk_12 rfl ?_
    refine a_iload_n dX11_laysRow_24 rfl ?_
    refine a_aload_n dX11_laysRow_25 rfl ?_
    refine a_iload_n dX11_laysRow_26 rfl ?_
    refine a_iload_n dX11_laysRow_27 rfl ?_
    refine a_callVi (as := [vI p1, vI v2]) (st := [vI v2, vR 63 (-1)]) dX11_laysRow_28 lk_M_262 sk_12 rfl rfl (Nat.le_of_ble_eq_true rfl) (Or.inl rfl) (Call.mono hy (fun r2 h1 _ hy => ?_))
    obtain ⟨c3, hy⟩ := hy
    refine a_iast dX11_laysRow_31 sk_63 c3 ?_
    obtain ⟨c4, hy⟩ := hy
    refine a_iinc (y := v2 + 1) (ls2 := [some (vR 12 (-1)), some (vI p1), some (vI (v2 + 1))]) dX11_laysRow_32 rfl rfl c4 rfl ?_
    refine a_goto (tgt := 12) dX11_laysRow_35 (by decide) ?_
    exact hy
theorem c_M_laysRow {d : Nat} (d0 : Nat) (hd : d0 < d) {p1 : Int} {h : AH} {Q : Int → AH → Prop} (hy : inb p1 40 ∧ A_M_laysRow_12 d0 Q p1 0 (wI h 12 9 (h.1 58 p1))) : Call d M_M_laysRow [vR 12 (-1), vI p1] h Q := by
  refine ⟨d0, hd, Big.of rfl (Nat.le_of_ble_eq_true rfl) ?_⟩
  show AW d0 M_M_laysRow Q 0 [some (vR 12 (-1)), some (vI p1), none] [] h
  refine a_aload_n dX11_laysRow_0 rfl ?_
  refine a_aload_n dX11_laysRow_1 rfl ?_
  refine a_getR dX11_laysRow_2 fl_M_7 sk_12 rfl ?_
  refine a_iload_n dX11_laysRow_5 rfl ?_
  obtain ⟨c1, hy⟩ := hy
  refine a_iald' dX11_laysRow_6 sk_58 c1 (rfl) ?_
  refine a_putI (kz := 9) dX11_laysRow_7 fp_M_136 sk_12 rfl rfl ?_
  refine a_iconst (x := 0) dX11_laysRow_10 rfl ⟨by decide, by decide⟩ ?_
  refine a_istore_n (i := 2) (ls2 := [some (vR 12 (-1)), some (vI p1), some (vI 0)]) dX11_laysRow_11 rfl (Nat.le_of_ble_eq_true rfl) rfl ?_
  exact hy
def A_M_laysSquares_14 (d : Nat) (Q : Int → AH → Prop) (p1 : Int) (v2 : Int) (h : AH) : Prop := AW d M_M_laysSquares Q 14 [some (vR 12 (-1)), some (vI p1), some (vI v2), none] [] h
def A_M_laysSquares_103 (d : Nat) (Q : Int → AH → Prop) (p1 : Int) (v2 : Int) (v3 : Int) (h : AH) : Prop := AW d M_M_laysSquares Q 103 [some (vR 12 (-1)), some (vI p1), some (vI v2), some (vI v3)] [] h
def A_M_laysSquares_133 (d : Nat) (Q : Int → AH → Prop) (p1 : Int) (v2 : Int) (h : AH) : Prop := AW d M_M_laysSquares Q 133 [some (vR 12 (-1)), some (vI p1), some (vI v2), none] [] h
theorem s_M_laysSquares_14 {d : Nat} {Q : Int → AH → Prop} {p1 : Int} {v2 : Int} {h : AH} (hy : ((v2 < 0 → Q 0 h) ∧ (0 ≤ v2 → (inb v2 4 ∧ (inI ((h.1 92 v2) + 1) ∧ ((((h.1 92 v2) + 1) < (h.1 12 0) → (Call d M_M_isOf [vR 12 (-1), vI ((h.1 92 v2) + 1), vI p1] (wI h 92 v2 ((h.1 92 v2) + 1)) (fun r4 h3 => ((r4 = 0 → A_M_laysSquares_14 d Q p1 v2 h3) ∧ (r4 ≠ 0 → (inI (v2 + 1) ∧ (Call d M_M_canRows [vR 12 (-1), vI p1, vI (v2 + 1)] h3 (fun r7 h6 => ((r7 ≠ 0 → ((p1 ≤ (v2 + 1) → A_M_laysSquares_103 d Q p1 v2 0 h6) ∧ ((v2 + 1) < p1 → (inb (v2 + 1) 4 ∧ A_M_laysSquares_14 d Q p1 (v2 + 1) (wI h6 92 (v2 + 1) (-1)))))) ∧ (r7 = 0 → A_M_laysSquares_14 d Q p1 v2 h6)))))))))) ∧ ((h.1 12 0) ≤ ((h.1 92 v2) + 1) → (inI (v2 - 1) ∧ A_M_laysSquares_14 d Q p1 (v2 - 1) (wI h 92 v2 ((h.1 92 v2) + 1)))))))))) : A_M_laysSquares_14 d Q p1 v2 h := by
  show AW d M_M_laysSquares Q 14 [some (vR 12 (-1)), some (vI p1), some (vI v2), none] [] h
  refine a_iload_n dX11_laysSquares_14 rfl ?_
  refine a_if_lt (tgt := 146) dX11_laysSquares_15 (by decide) (fun c => ?_) (fun c => ?_)
  · have hy := hy.1 c
    exact a_vret dX11_laysSquares_146 rfl hy
  · have hy := hy.2 (Int.not_lt.mp c)
    refine a_aload_n dX11_laysSquares_18 rfl ?_
    refine a_getR dX11_laysSquares_19 fl_M_116 sk_12 rfl ?_
    refine a_iload_n dX11_laysSquares_22 rfl ?_
    refine a_aload_n dX11_laysSquares_23 rfl ?_
    refine a_getR dX11_laysSquares_24 fl_M_116 sk_12 rfl ?_
    refine a_iload_n dX11_laysSquares_27 rfl ?_
    obtain ⟨c1, hy⟩ := hy
    refine a_iald' dX11_laysSquares_28 sk_92 c1 (rfl) ?_
    refine a_iconst (x := 1) dX11_laysSquares_29 rfl ⟨by decide, by decide⟩ ?_
    obtain ⟨c2, hy⟩ := hy
    refine a_iadd dX11_laysSquares_30 c2 ?_
    refine a_iast dX11_laysSquares_31 sk_92 c1 ?_
    refine a_aload_n dX11_laysSquares_32 rfl ?_
    refine a_getR dX11_laysSquares_33 fl_M_116 sk_12 rfl ?_
    refine a_iload_n dX11_laysSquares_36 rfl ?_
    refine a_iald' dX11_laysSquares_37 sk_92 c1 (rI_eq) ?_
    refine a_aload_n dX11_laysSquares_38 rfl ?_
    refine a_getI' (kz := 0) dX11_laysSquares_39 fl_M_130 sk_12 rfl rfl (rI_ne (by decide)) ?_
    refine a_icmp_lt (tgt := 52) dX11_laysSquares_42 (by decide) (fun c => ?_) (fun c => ?_)
    · have hy := hy.1 c
      refine a_aload_n dX11_laysSquares_52 rfl ?_
      refine a_aload_n dX11_laysSquares_53 rfl ?_
      refine a_getR dX11_laysSquares_54 fl_M_116 sk_12 rfl ?_
      refine a_iload_n dX11_laysSquares_57 rfl ?_
      refine a_iald' dX11_laysSquares_58 sk_92 c1 (rI_eq) ?_
      refine a_iload_n dX11_laysSquares_59 rfl ?_
      refine a_callVi (as := [vI ((h.1 92 v2) + 1), vI p1]) (st := []) dX11_laysSquares_60 lk_M_404 sk_12 rfl rfl (Nat.le_of_ble_eq_true rfl) (Or.inr rfl) (Call.mono hy (fun r4 h3 _ hy => ?_))
      refine a_if_eq (tgt := 14) dX11_laysSquares_63 (by decide) (fun c => ?_) (fun c => ?_)
      · have hy := hy.1 c
        exact hy
      · have hy := hy.2 (c)
        refine a_aload_n dX11_laysSquares_66 rfl ?_
        refine a_iload_n dX11_laysSquares_67 rfl ?_
        refine a_iload_n dX11_laysSquares_68 rfl ?_
        refine a_iconst (x := 1) dX11_laysSquares_69 rfl ⟨by decide, by decide⟩ ?_
        obtain ⟨c5, hy⟩ := hy
        refine a_iadd dX11_laysSquares_70 c5 ?_
        refine a_callVi (as := [vI p1, vI (v2 + 1)]) (st := []) dX11_laysSquares_71 lk_M_413 sk_12 rfl rfl (Nat.le_of_ble_eq_true rfl) (Or.inr rfl) (Call.mono hy (fun r7 h6 _ hy => ?_))
        refine a_if_ne (tgt := 80) dX11_laysSquares_74 (by decide) (fun c => ?_) (fun c => ?_)
        · have hy := hy.1 c
          refine a_iload_n dX11_laysSquares_80 rfl ?_
          refine a_iconst (x := 1) dX11_laysSquares_81 rfl ⟨by decide, by decide⟩ ?_
          refine a_iadd dX11_laysSquares_82 c5 ?_
          refine a_iload_n dX11_laysSquares_83 rfl ?_
          refine a_icmp_ge (tgt := 101) dX11_laysSquares_84 (by decide) (fun c => ?_) (fun c => ?_)
          · have hy := hy.1 c
            refine a_iconst (x := 0) dX11_laysSquares_101 rfl ⟨by decide, by decide⟩ ?_
            refine a_istore_n (i := 3) (ls2 := [some (vR 12 (-1)), some (vI p1), some (vI v2), some (vI 0)]) dX11_laysSquares_102 rfl (Nat.le_of_ble_eq_true rfl) rfl ?_
            exact hy
          · have hy := hy.2 (Int.not_le.mp c)
            refine a_iload_n dX11_laysSquares_87 rfl ?_
            refine a_iconst (x := 1) dX11_laysSquares_88 rfl ⟨by decide, by decide⟩ ?_
            refine a_iadd dX11_laysSquares_89 c5 ?_
            refine a_istore_n (i := 2) (ls2 := [some (vR 12 (-1)), some (vI p1), some (vI (v2 + 1)), none]) dX11_laysSquares_90 rfl (Nat.le_of_ble_eq_true rfl) rfl ?_
            refine a_aload_n dX11_laysSquares_91 rfl ?_
            refine a_getR dX11_laysSquares_92 fl_M_116 sk_12 rfl ?_
            refine a_iload_n dX11_laysSquares_95 rfl ?_
            refine a_iconst (x := (-1)) dX11_laysSquares_96 rfl ⟨by decide, by decide⟩ ?_
            obtain ⟨c8, hy⟩ := hy
            refine a_iast dX11_laysSquares_97 sk_92 c8 ?_
            refine a_goto (tgt := 14) dX11_laysSquares_98 (by decide) ?_
            exact hy
        · have hy := hy.2 (Decidable.not_not.mp c)
          refine a_goto (tgt := 14) dX11_laysSquares_77 (by decide) ?_
          exact hy
    · have hy := hy.2 (Int.not_lt.mp c)
      refine a_iload_n dX11_laysSquares_45 rfl ?_
      refine a_iconst (x := 1) dX11_laysSquares_46 rfl ⟨by decide, by decide⟩ ?_
      obtain ⟨c9, hy⟩ := hy
      refine a_isub dX11_laysSquares_47 c9 ?_
      refine a_istore_n (i := 2) (ls2 := [some (vR 12 (-1)), some (vI p1), some (vI (v2 - 1)), none]) dX11_laysSquares_48 rfl (Nat.le_of_ble_eq_true rfl) rfl ?_
      refine a_goto (tgt := 14) dX11_laysSquares_49 (by decide) ?_
      exact hy
theorem s_M_laysSquares_103 {d : Nat} {Q : Int → AH → Prop} {p1 : Int} {v2 : Int} {v3 : Int} {h : AH} (hy : ((p1 ≤ v3 → A_M_laysSquares_133 d Q p1 v2 h) ∧ (v3 < p1 → (((h.1 12 53) ≠ 0 → A_M_laysSquares_133 d Q p1 v2 h) ∧ ((h.1 12 53) = 0 → (inb v3 4 ∧ (inI (v3 + 1) ∧ A_M_laysSquares_103 d Q p1 v2 (v3 + 1) (wI h 93 v3 (h.1 92 v3))))))))) : A_M_laysSquares_103 d Q p1 v2 v3 h := by
  show AW d M_M_laysSquares Q 103 [some (vR 12 (-1)), some (vI p1), some (vI v2), some (vI v3)] [] h
  refine a_iload_n dX11_laysSquares_103 rfl ?_
  refine a_iload_n dX11_laysSquares_104 rfl ?_
  refine a_icmp_ge (tgt := 133) dX11_laysSquares_105 (by decide) (fun c => ?_) (fun c => ?_)
  · have hy := hy.1 c
    refine a_mask [true, true, true, false] (ls2 := [some (vR 12 (-1)), some (vI p1), some (vI v2), none]) rfl rfl ?_
    exact hy
  · have hy := hy.2 (Int.not_le.mp c)
    refine a_aload_n dX11_laysSquares_108 rfl ?_
    refine a_getI' (kz := 53) dX11_laysSquares_109 fl_M_410 sk_12 rfl rfl (rfl) ?_
    refine a_if_ne (tgt := 133) dX11_laysSquares_112 (by decide) (fun c => ?_) (fun c => ?_)
    · have hy := hy.1 c
      refine a_mask [true, true, true, false] (ls2 := [some (vR 12 (-1)), some (vI p1), some (vI v2), none]) rfl rfl ?_
      exact hy
    · have hy := hy.2 (Decidable.not_not.mp c)
      refine a_aload_n dX11_laysSquares_115 rfl ?_
      refine a_getR dX11_laysSquares_116 fl_M_119 sk_12 rfl ?_
      refine a_iload_n dX11_laysSquares_119 rfl ?_
      refine a_aload_n dX11_laysSquares_120 rfl ?_
      refine a_getR dX11_laysSquares_121 fl_M_116 sk_12 rfl ?_
      refine a_iload_n dX11_laysSquares_124 rfl ?_
      obtain ⟨c1, hy⟩ := hy
      refine a_iald' dX11_laysSquares_125 sk_92 c1 (rfl) ?_
      refine a_iast dX11_laysSquares_126 sk_93 c1 ?_
      obtain ⟨c2, hy⟩ := hy
      refine a_iinc (y := v3 + 1) (ls2 := [some (vR 12 (-1)), some (vI p1), some (vI v2), some (vI (v3 + 1))]) dX11_laysSquares_127 rfl rfl c2 rfl ?_
      refine a_goto (tgt := 103) dX11_laysSquares_130 (by decide) ?_
      exact hy
theorem s_M_laysSquares_133 {d : Nat} {Q : Int → AH → Prop} {p1 : Int} {v2 : Int} {h : AH} (hy : inI ((h.1 12 53) + 1) ∧ A_M_laysSquares_14 d Q p1 v2 (wI h 12 53 ((h.1 12 53) + 1))) : A_M_laysSquares_133 d Q p1 v2 h := by
  show AW d M_M_laysSquares Q 133 [some (vR 12 (-1)), some (vI p1), some (vI v2), none] [] h
  refine a_aload_n dX11_laysSquares_133 rfl ?_
  refine a_aload_n dX11_laysSquares_134 rfl ?_
  refine a_getI' (kz := 53) dX11_laysSquares_135 fl_M_410 sk_12 rfl rfl (rfl) ?_
  refine a_iconst (x := 1) dX11_laysSquares_138 rfl ⟨by decide, by decide⟩ ?_
  obtain ⟨c1, hy⟩ := hy
  refine a_iadd dX11_laysSquares_139 c1 ?_
  refine a_putI (kz := 53) dX11_laysSquares_140 fp_M_410 sk_12 rfl rfl ?_
  refine a_goto (tgt := 14) dX11_laysSquares_143 (by decide) ?_
  exact hy
theorem c_M_laysSquares {d : Nat} (d0 : Nat) (hd : d0 < d) {p1 : Int} {h : AH} {Q : Int → AH → Prop} (hy : A_M_laysSquares_14 d0 Q p1 0 (wI (wI h 12 53 0) 92 0 (-1))) : Call d M_M_laysSquares [vR 12 (-1), vI p1] h Q := by
  refine ⟨d0, hd, Big.of rfl (Nat.le_of_ble_eq_true rfl) ?_⟩
  show AW d0 M_M_laysSquares Q 0 [some (vR 12 (-1)), some (vI p1), none, none] [] h
  refine a_aload_n dX11_laysSquares_0 rfl ?_
  refine a_iconst (x := 0) dX11_laysSquares_1 rfl ⟨by decide, by decide⟩ ?_
  refine a_putI (kz := 53) dX11_laysSquares_2 fp_M_410 sk_12 rfl rfl ?_
  refine a_iconst (x := 0) dX11_laysSquares_5 rfl ⟨by decide, by decide⟩ ?_
  refine a_istore_n (i := 2) (ls2 := [some (vR 12 (-1)), some (vI p1), some (vI 0), none]) dX11_laysSquares_6 rfl (Nat.le_of_ble_eq_true rfl) rfl ?_
  refine a_aload_n dX11_laysSquares_7 rfl ?_
  refine a_getR dX11_laysSquares_8 fl_M_116 sk_12 rfl ?_
  refine a_iconst (x := 0) dX11_laysSquares_11 rfl ⟨by decide, by decide⟩ ?_
  refine a_iconst (x := (-1)) dX11_laysSquares_12 rfl ⟨by decide, by decide⟩ ?_
  refine a_iast dX11_laysSquares_13 sk_92 ⟨by decide, by decide⟩ ?_
  exact hy

/-! constructors (printed by program) -/
theorem dX10_init_0 : decode cX10_init 0 = .ok (.aload_n 0, 1) := by decide +kernel
theorem dX10_init_1 : decode cX10_init 1 = .ok (.invokespecial 1, 3) := by decide +kernel
theorem dX10_init_4 : decode cX10_init 4 = .ok (.aload_n 0, 1) := by decide +kernel
theorem dX10_init_5 : decode cX10_init 5 = .ok (.new 7, 3) := by decide +kernel
theorem dX10_init_8 : decode cX10_init 8 = .ok (.dup, 1) := by decide +kernel
theorem dX10_init_9 : decode cX10_init 9 = .ok (.invokespecial 9, 3) := by decide +kernel
theorem dX10_init_12 : decode cX10_init 12 = .ok (.putfield 10, 3) := by decide +kernel
theorem dX10_init_15 : decode cX10_init 15 = .ok (.aload_n 0, 1) := by decide +kernel
theorem dX10_init_16 : decode cX10_init 16 = .ok (.new 16, 3) := by decide +kernel
theorem dX10_init_19 : decode cX10_init 19 = .ok (.dup, 1) := by decide +kernel
theorem dX10_init_20 : decode cX10_init 20 = .ok (.invokespecial 18, 3) := by decide +kernel
theorem dX10_init_23 : decode cX10_init 23 = .ok (.putfield 19, 3) := by decide +kernel
theorem dX10_init_26 : decode cX10_init 26 = .ok (.aload_n 0, 1) := by decide +kernel
theorem dX10_init_27 : decode cX10_init 27 = .ok (.new 23, 3) := by decide +kernel
theorem dX10_init_30 : decode cX10_init 30 = .ok (.dup, 1) := by decide +kernel
theorem dX10_init_31 : decode cX10_init 31 = .ok (.invokespecial 25, 3) := by decide +kernel
theorem dX10_init_34 : decode cX10_init 34 = .ok (.putfield 26, 3) := by decide +kernel
theorem dX10_init_37 : decode cX10_init 37 = .ok (.aload_n 0, 1) := by decide +kernel
theorem dX10_init_38 : decode cX10_init 38 = .ok (.new 30, 3) := by decide +kernel
theorem dX10_init_41 : decode cX10_init 41 = .ok (.dup, 1) := by decide +kernel
theorem dX10_init_42 : decode cX10_init 42 = .ok (.aload_n 0, 1) := by decide +kernel
theorem dX10_init_43 : decode cX10_init 43 = .ok (.getfield 10, 3) := by decide +kernel
theorem dX10_init_46 : decode cX10_init 46 = .ok (.invokespecial 32, 3) := by decide +kernel
theorem dX10_init_49 : decode cX10_init 49 = .ok (.putfield 35, 3) := by decide +kernel
theorem dX10_init_52 : decode cX10_init 52 = .ok (.aload_n 0, 1) := by decide +kernel
theorem dX10_init_53 : decode cX10_init 53 = .ok (.new 39, 3) := by decide +kernel
theorem dX10_init_56 : decode cX10_init 56 = .ok (.dup, 1) := by decide +kernel
theorem dX10_init_57 : decode cX10_init 57 = .ok (.aload_n 0, 1) := by decide +kernel
theorem dX10_init_58 : decode cX10_init 58 = .ok (.getfield 19, 3) := by decide +kernel
theorem dX10_init_61 : decode cX10_init 61 = .ok (.aload_n 0, 1) := by decide +kernel
theorem dX10_init_62 : decode cX10_init 62 = .ok (.getfield 26, 3) := by decide +kernel
theorem dX10_init_65 : decode cX10_init 65 = .ok (.invokespecial 41, 3) := by decide +kernel
theorem dX10_init_68 : decode cX10_init 68 = .ok (.putfield 44, 3) := by decide +kernel
theorem dX10_init_71 : decode cX10_init 71 = .ok (.aload_n 0, 1) := by decide +kernel
theorem dX10_init_72 : decode cX10_init 72 = .ok (.new 48, 3) := by decide +kernel
theorem dX10_init_75 : decode cX10_init 75 = .ok (.dup, 1) := by decide +kernel
theorem dX10_init_76 : decode cX10_init 76 = .ok (.aload_n 0, 1) := by decide +kernel
theorem dX10_init_77 : decode cX10_init 77 = .ok (.getfield 19, 3) := by decide +kernel
theorem dX10_init_80 : decode cX10_init 80 = .ok (.aload_n 0, 1) := by decide +kernel
theorem dX10_init_81 : decode cX10_init 81 = .ok (.getfield 44, 3) := by decide +kernel
theorem dX10_init_84 : decode cX10_init 84 = .ok (.invokespecial 50, 3) := by decide +kernel
theorem dX10_init_87 : decode cX10_init 87 = .ok (.putfield 53, 3) := by decide +kernel
theorem dX10_init_90 : decode cX10_init 90 = .ok (.aload_n 0, 1) := by decide +kernel
theorem dX10_init_91 : decode cX10_init 91 = .ok (.new 57, 3) := by decide +kernel
theorem dX10_init_94 : decode cX10_init 94 = .ok (.dup, 1) := by decide +kernel
theorem dX10_init_95 : decode cX10_init 95 = .ok (.aload_n 0, 1) := by decide +kernel
theorem dX10_init_96 : decode cX10_init 96 = .ok (.getfield 19, 3) := by decide +kernel
theorem dX10_init_99 : decode cX10_init 99 = .ok (.aload_n 0, 1) := by decide +kernel
theorem dX10_init_100 : decode cX10_init 100 = .ok (.getfield 44, 3) := by decide +kernel
theorem dX10_init_103 : decode cX10_init 103 = .ok (.aload_n 0, 1) := by decide +kernel
theorem dX10_init_104 : decode cX10_init 104 = .ok (.getfield 53, 3) := by decide +kernel
theorem dX10_init_107 : decode cX10_init 107 = .ok (.invokespecial 59, 3) := by decide +kernel
theorem dX10_init_110 : decode cX10_init 110 = .ok (.putfield 62, 3) := by decide +kernel
theorem dX10_init_113 : decode cX10_init 113 = .ok (.aload_n 0, 1) := by decide +kernel
theorem dX10_init_114 : decode cX10_init 114 = .ok (.new 66, 3) := by decide +kernel
theorem dX10_init_117 : decode cX10_init 117 = .ok (.dup, 1) := by decide +kernel
theorem dX10_init_118 : decode cX10_init 118 = .ok (.aload_n 0, 1) := by decide +kernel
theorem dX10_init_119 : decode cX10_init 119 = .ok (.getfield 19, 3) := by decide +kernel
theorem dX10_init_122 : decode cX10_init 122 = .ok (.aload_n 0, 1) := by decide +kernel
theorem dX10_init_123 : decode cX10_init 123 = .ok (.getfield 10, 3) := by decide +kernel
theorem dX10_init_126 : decode cX10_init 126 = .ok (.invokespecial 68, 3) := by decide +kernel
theorem dX10_init_129 : decode cX10_init 129 = .ok (.putfield 71, 3) := by decide +kernel
theorem dX10_init_132 : decode cX10_init 132 = .ok (.aload_n 0, 1) := by decide +kernel
theorem dX10_init_133 : decode cX10_init 133 = .ok (.new 75, 3) := by decide +kernel
theorem dX10_init_136 : decode cX10_init 136 = .ok (.dup, 1) := by decide +kernel
theorem dX10_init_137 : decode cX10_init 137 = .ok (.aload_n 0, 1) := by decide +kernel
theorem dX10_init_138 : decode cX10_init 138 = .ok (.getfield 19, 3) := by decide +kernel
theorem dX10_init_141 : decode cX10_init 141 = .ok (.aload_n 0, 1) := by decide +kernel
theorem dX10_init_142 : decode cX10_init 142 = .ok (.getfield 10, 3) := by decide +kernel
theorem dX10_init_145 : decode cX10_init 145 = .ok (.aload_n 0, 1) := by decide +kernel
theorem dX10_init_146 : decode cX10_init 146 = .ok (.getfield 44, 3) := by decide +kernel
theorem dX10_init_149 : decode cX10_init 149 = .ok (.aload_n 0, 1) := by decide +kernel
theorem dX10_init_150 : decode cX10_init 150 = .ok (.getfield 71, 3) := by decide +kernel
theorem dX10_init_153 : decode cX10_init 153 = .ok (.invokespecial 77, 3) := by decide +kernel
theorem dX10_init_156 : decode cX10_init 156 = .ok (.putfield 80, 3) := by decide +kernel
theorem dX10_init_159 : decode cX10_init 159 = .ok (.aload_n 0, 1) := by decide +kernel
theorem dX10_init_160 : decode cX10_init 160 = .ok (.new 84, 3) := by decide +kernel
theorem dX10_init_163 : decode cX10_init 163 = .ok (.dup, 1) := by decide +kernel
theorem dX10_init_164 : decode cX10_init 164 = .ok (.aload_n 0, 1) := by decide +kernel
theorem dX10_init_165 : decode cX10_init 165 = .ok (.getfield 19, 3) := by decide +kernel
theorem dX10_init_168 : decode cX10_init 168 = .ok (.invokespecial 86, 3) := by decide +kernel
theorem dX10_init_171 : decode cX10_init 171 = .ok (.putfield 89, 3) := by decide +kernel
theorem dX10_init_174 : decode cX10_init 174 = .ok (.aload_n 0, 1) := by decide +kernel
theorem dX10_init_175 : decode cX10_init 175 = .ok (.iconst 1, 1) := by decide +kernel
theorem dX10_init_176 : decode cX10_init 176 = .ok (.putfield 93, 3) := by decide +kernel
theorem dX10_init_179 : decode cX10_init 179 = .ok (.return_, 1) := by decide +kernel
def L_L : List (Nat × Int) := (0, -1) :: (((((((((([] ++ L_tape) ++ L_words) ++ L_lawc) ++ L_reader) ++ L_steps) ++ L_ways) ++ L_newWords) ++ L_spelling) ++ L_told) ++ L_squares)
set_option maxHeartbeats 4000000 in
set_option maxRecDepth 100000 in
theorem k_L {l : Launch} : CtorM l 3 336 123643 M_L_init 0 (.inr (10, [.null, .null, .null, .null, .null, .null, .null, .null, .null, .null, .int (Int32.ofInt 0)])) [] L_L := by
  refine CtorM.of (by decide) rfl rfl (by decide) ?_
  intro as dC dI cA h0 p e s m below meth c ls A hlen K hr hin hl
  have has : as = [] := List.length_eq_zero_iff.mp hlen
  subst has
  have hl : lv_has ls 1 [(0, .ref h0)] := hl
  refine kj_aload K dX10_init_0 rfl (lv_at hl 0 rfl) ?_
  refine kj_objInit K (tb_mem (i := 160) (by decide +kernel) rfl) (tb_mem (i := 161) (by decide +kernel) rfl) (tb_mem (i := 162) (by decide +kernel) rfl) hl.1 dX10_init_1 (Nat.le_of_ble_eq_true rfl) (Nat.le_of_ble_eq_true rfl) ?_
  refine kj_aload K dX10_init_4 rfl (lv_at hl 0 rfl) ?_
  refine kc_new (fs := [.null, .int (Int32.ofInt 0), .int (Int32.ofInt 0)]) K dX10_init_5 cl_6 rfl (tb_mem (i := 163) (by decide +kernel) rfl) (tb_mem (i := 164) (by decide +kernel) rfl) (tb_mem (i := 134) (by decide +kernel) rfl) (fun ty h j hj => by have e := Option.some.inj ((h j hj).symm.trans (tyX6_ok j hj)); rw [e]; exact df_6 j hj) (Nat.le_of_ble_eq_true rfl) (Nat.le_of_ble_eq_true rfl) (fun q1 => ?_)
  refine kj_dup K dX10_init_8 ?_
  refine kc_call (as := []) K dX10_init_9 (k_tape (l := l)) rfl rfl (tb_mem (i := 165) (by decide +kernel) rfl) (tb_mem (i := 166) (by decide +kernel) rfl) (tb_mem (i := 134) (by decide +kernel) rfl) (tb_mem (i := 167) (by decide +kernel) rfl) rfl rfl ⟨by decide, by decide, by decide +kernel⟩ hl.1 ⟨Nat.le_of_ble_eq_true rfl, Nat.le_of_ble_eq_true rfl⟩ ⟨Nat.le_of_ble_eq_true rfl, Nat.le_of_ble_eq_true rfl⟩ (Nat.le_of_ble_eq_true rfl) rfl (fun ad1 hq1 hj1 => ?_)
  refine kj_putF (fs' := [.ref q1, .null, .null, .null, .null, .null, .null, .null, .null, .null, .int (Int32.ofInt 0)]) (ty := _) K hin dX10_init_12 fl_L_10 rfl rfl rfl (tyX10_ok 0 (by decide)) rfl rfl (Nat.le_of_ble_eq_true rfl) rfl ?_
  refine kj_aload K dX10_init_15 rfl (lv_at hl 0 rfl) ?_
  refine kc_new (fs := [.null, .null, .null, .null, .null, .null, .int (Int32.ofInt 0), .int (Int32.ofInt 0), .long (Int64.ofInt 0), .int (Int32.ofInt 0)]) K dX10_init_16 cl_9 rfl (tb_mem (i := 181) (by decide +kernel) rfl) (tb_mem (i := 182) (by decide +kernel) rfl) (tb_mem (i := 135) (by decide +kernel) rfl) (fun ty h j hj => by have e := Option.some.inj ((h j hj).symm.trans (tyX9_ok j hj)); rw [e]; exact df_9 j hj) (Nat.le_of_ble_eq_true rfl) (Nat.le_of_ble_eq_true rfl) (fun q2 => ?_)
  refine kj_dup K dX10_init_19 ?_
  refine kc_call (as := []) K dX10_init_20 (k_words (l := l)) rfl rfl (tb_mem (i := 183) (by decide +kernel) rfl) (tb_mem (i := 184) (by decide +kernel) rfl) (tb_mem (i := 135) (by decide +kernel) rfl) (tb_mem (i := 185) (by decide +kernel) rfl) rfl rfl ⟨by decide, by decide, by decide +kernel⟩ hl.1 ⟨Nat.le_of_ble_eq_true rfl, Nat.le_of_ble_eq_true rfl⟩ ⟨Nat.le_of_ble_eq_true rfl, Nat.le_of_ble_eq_true rfl⟩ (Nat.le_of_ble_eq_true rfl) rfl (fun ad2 hq2 hj2 => ?_)
  refine kj_putF (fs' := [.ref q1, .ref q2, .null, .null, .null, .null, .null, .null, .null, .null, .int (Int32.ofInt 0)]) (ty := _) K hin dX10_init_23 fl_L_19 rfl rfl rfl (tyX10_ok 1 (by decide)) rfl rfl (Nat.le_of_ble_eq_true rfl) rfl ?_
  refine kj_aload K dX10_init_26 rfl (lv_at hl 0 rfl) ?_
  refine kc_new (fs := [.null, .null, .null, .null, .null, .int (Int32.ofInt 0), .int (Int32.ofInt 0), .int (Int32.ofInt 0), .int (Int32.ofInt 0), .int (Int32.ofInt 0)]) K dX10_init_27 cl_0 rfl (tb_mem (i := 244) (by decide +kernel) rfl) (tb_mem (i := 245) (by decide +kernel) rfl) (tb_mem (i := 136) (by decide +kernel) rfl) (fun ty h j hj => by have e := Option.some.inj ((h j hj).symm.trans (tyX0_ok j hj)); rw [e]; exact df_0 j hj) (Nat.le_of_ble_eq_true rfl) (Nat.le_of_ble_eq_true rfl) (fun q3 => ?_)
  refine kj_dup K dX10_init_30 ?_
  refine kc_call (as := []) K dX10_init_31 (k_lawc (l := l)) rfl rfl (tb_mem (i := 246) (by decide +kernel) rfl) (tb_mem (i := 247) (by decide +kernel) rfl) (tb_mem (i := 136) (by decide +kernel) rfl) (tb_mem (i := 248) (by decide +kernel) rfl) rfl rfl ⟨by decide, by decide, by decide +kernel⟩ hl.1 ⟨Nat.le_of_ble_eq_true rfl, Nat.le_of_ble_eq_true rfl⟩ ⟨Nat.le_of_ble_eq_true rfl, Nat.le_of_ble_eq_true rfl⟩ (Nat.le_of_ble_eq_true rfl) rfl (fun ad3 hq3 hj3 => ?_)
  refine kj_putF (fs' := [.ref q1, .ref q2, .ref q3, .null, .null, .null, .null, .null, .null, .null, .int (Int32.ofInt 0)]) (ty := _) K hin dX10_init_34 fl_L_26 rfl rfl rfl (tyX10_ok 2 (by decide)) rfl rfl (Nat.le_of_ble_eq_true rfl) rfl ?_
  refine kj_aload K dX10_init_37 rfl (lv_at hl 0 rfl) ?_
  refine kc_new (fs := [.null, .null, .int (Int32.ofInt 0), .int (Int32.ofInt 0), .int (Int32.ofInt 0)]) K dX10_init_38 cl_1 rfl (tb_mem (i := 285) (by decide +kernel) rfl) (tb_mem (i := 286) (by decide +kernel) rfl) (tb_mem (i := 137) (by decide +kernel) rfl) (fun ty h j hj => by have e := Option.some.inj ((h j hj).symm.trans (tyX1_ok j hj)); rw [e]; exact df_1 j hj) (Nat.le_of_ble_eq_true rfl) (Nat.le_of_ble_eq_true rfl) (fun q4 => ?_)
  refine kj_dup K dX10_init_41 ?_
  refine kj_aload K dX10_init_42 rfl (lv_at hl 0 rfl) ?_
  refine kj_get (v := .ref q1) K dX10_init_43 fl_L_10 rfl ?_
  refine kc_call (as := [q1]) K dX10_init_46 (k_reader (l := l)) rfl rfl (tb_mem (i := 287) (by decide +kernel) rfl) (tb_mem (i := 288) (by decide +kernel) rfl) (tb_mem (i := 137) (by decide +kernel) rfl) (tb_mem (i := 289) (by decide +kernel) rfl) rfl rfl ⟨by decide, by decide, by decide +kernel⟩ hl.1 ⟨Nat.le_of_ble_eq_true rfl, Nat.le_of_ble_eq_true rfl⟩ ⟨Nat.le_of_ble_eq_true rfl, Nat.le_of_ble_eq_true rfl⟩ (Nat.le_of_ble_eq_true rfl) rfl (fun ad4 hq4 hj4 => ?_)
  refine kj_putF (fs' := [.ref q1, .ref q2, .ref q3, .ref q4, .null, .null, .null, .null, .null, .null, .int (Int32.ofInt 0)]) (ty := _) K hin dX10_init_49 fl_L_35 rfl rfl rfl (tyX10_ok 3 (by decide)) rfl rfl (Nat.le_of_ble_eq_true rfl) rfl ?_
  refine kj_aload K dX10_init_52 rfl (lv_at hl 0 rfl) ?_
  refine kc_new (fs := [.null, .null, .null, .null, .null, .null, .null, .null, .int (Int32.ofInt 0), .int (Int32.ofInt 0), .int (Int32.ofInt 0)]) K dX10_init_53 cl_5 rfl (tb_mem (i := 312) (by decide +kernel) rfl) (tb_mem (i := 313) (by decide +kernel) rfl) (tb_mem (i := 138) (by decide +kernel) rfl) (fun ty h j hj => by have e := Option.some.inj ((h j hj).symm.trans (tyX5_ok j hj)); rw [e]; exact df_5 j hj) (Nat.le_of_ble_eq_true rfl) (Nat.le_of_ble_eq_true rfl) (fun q6 => ?_)
  refine kj_dup K dX10_init_56 ?_
  refine kj_aload K dX10_init_57 rfl (lv_at hl 0 rfl) ?_
  refine kj_get (v := .ref q2) K dX10_init_58 fl_L_19 rfl ?_
  refine kj_aload K dX10_init_61 rfl (lv_at hl 0 rfl) ?_
  refine kj_get (v := .ref q3) K dX10_init_62 fl_L_26 rfl ?_
  refine kc_call (as := [q2, q3]) K dX10_init_65 (k_steps (l := l)) rfl rfl (tb_mem (i := 314) (by decide +kernel) rfl) (tb_mem (i := 315) (by decide +kernel) rfl) (tb_mem (i := 138) (by decide +kernel) rfl) (tb_mem (i := 316) (by decide +kernel) rfl) rfl rfl ⟨by decide, by decide, by decide +kernel⟩ hl.1 ⟨Nat.le_of_ble_eq_true rfl, Nat.le_of_ble_eq_true rfl⟩ ⟨Nat.le_of_ble_eq_true rfl, Nat.le_of_ble_eq_true rfl⟩ (Nat.le_of_ble_eq_true rfl) rfl (fun ad6 hq6 hj6 => ?_)
  refine kj_putF (fs' := [.ref q1, .ref q2, .ref q3, .ref q4, .ref q6, .null, .null, .null, .null, .null, .int (Int32.ofInt 0)]) (ty := _) K hin dX10_init_68 fl_L_44 rfl rfl rfl (tyX10_ok 4 (by decide)) rfl rfl (Nat.le_of_ble_eq_true rfl) rfl ?_
  refine kj_aload K dX10_init_71 rfl (lv_at hl 0 rfl) ?_
  refine kc_new (fs := [.null, .null, .null, .null, .null, .null, .null, .null, .int (Int32.ofInt 0), .int (Int32.ofInt 0), .int (Int32.ofInt 0), .int (Int32.ofInt 0), .int (Int32.ofInt 0), .int (Int32.ofInt 0), .int (Int32.ofInt 0), .int (Int32.ofInt 0), .int (Int32.ofInt 0)]) K dX10_init_72 cl_8 rfl (tb_mem (i := 356) (by decide +kernel) rfl) (tb_mem (i := 357) (by decide +kernel) rfl) (tb_mem (i := 139) (by decide +kernel) rfl) (fun ty h j hj => by have e := Option.some.inj ((h j hj).symm.trans (tyX8_ok j hj)); rw [e]; exact df_8 j hj) (Nat.le_of_ble_eq_true rfl) (Nat.le_of_ble_eq_true rfl) (fun q7 => ?_)
  refine kj_dup K dX10_init_75 ?_
  refine kj_aload K dX10_init_76 rfl (lv_at hl 0 rfl) ?_
  refine kj_get (v := .ref q2) K dX10_init_77 fl_L_19 rfl ?_
  refine kj_aload K dX10_init_80 rfl (lv_at hl 0 rfl) ?_
  refine kj_get (v := .ref q6) K dX10_init_81 fl_L_44 rfl ?_
  refine kc_call (as := [q2, q6]) K dX10_init_84 (k_ways (l := l)) rfl rfl (tb_mem (i := 358) (by decide +kernel) rfl) (tb_mem (i := 359) (by decide +kernel) rfl) (tb_mem (i := 139) (by decide +kernel) rfl) (tb_mem (i := 360) (by decide +kernel) rfl) rfl rfl ⟨by decide, by decide, by decide +kernel⟩ hl.1 ⟨Nat.le_of_ble_eq_true rfl, Nat.le_of_ble_eq_true rfl⟩ ⟨Nat.le_of_ble_eq_true rfl, Nat.le_of_ble_eq_true rfl⟩ (Nat.le_of_ble_eq_true rfl) rfl (fun ad7 hq7 hj7 => ?_)
  refine kj_putF (fs' := [.ref q1, .ref q2, .ref q3, .ref q4, .ref q6, .ref q7, .null, .null, .null, .null, .int (Int32.ofInt 0)]) (ty := _) K hin dX10_init_87 fl_L_53 rfl rfl rfl (tyX10_ok 5 (by decide)) rfl rfl (Nat.le_of_ble_eq_true rfl) rfl ?_
  refine kj_aload K dX10_init_90 rfl (lv_at hl 0 rfl) ?_
  refine kc_new (fs := [.null, .null, .null, .null, .null, .null, .null, .int (Int32.ofInt 0), .int (Int32.ofInt 0), .int (Int32.ofInt 0), .long (Int64.ofInt 0), .int (Int32.ofInt 0)]) K dX10_init_91 cl_2 rfl (tb_mem (i := 423) (by decide +kernel) rfl) (tb_mem (i := 424) (by decide +kernel) rfl) (tb_mem (i := 140) (by decide +kernel) rfl) (fun ty h j hj => by have e := Option.some.inj ((h j hj).symm.trans (tyX2_ok j hj)); rw [e]; exact df_2 j hj) (Nat.le_of_ble_eq_true rfl) (Nat.le_of_ble_eq_true rfl) (fun q8 => ?_)
  refine kj_dup K dX10_init_94 ?_
  refine kj_aload K dX10_init_95 rfl (lv_at hl 0 rfl) ?_
  refine kj_get (v := .ref q2) K dX10_init_96 fl_L_19 rfl ?_
  refine kj_aload K dX10_init_99 rfl (lv_at hl 0 rfl) ?_
  refine kj_get (v := .ref q6) K dX10_init_100 fl_L_44 rfl ?_
  refine kj_aload K dX10_init_103 rfl (lv_at hl 0 rfl) ?_
  refine kj_get (v := .ref q7) K dX10_init_104 fl_L_53 rfl ?_
  refine kc_call (as := [q2, q6, q7]) K dX10_init_107 (k_newWords (l := l)) rfl rfl (tb_mem (i := 425) (by decide +kernel) rfl) (tb_mem (i := 426) (by decide +kernel) rfl) (tb_mem (i := 140) (by decide +kernel) rfl) (tb_mem (i := 427) (by decide +kernel) rfl) rfl rfl ⟨by decide, by decide, by decide +kernel⟩ hl.1 ⟨Nat.le_of_ble_eq_true rfl, Nat.le_of_ble_eq_true rfl⟩ ⟨Nat.le_of_ble_eq_true rfl, Nat.le_of_ble_eq_true rfl⟩ (Nat.le_of_ble_eq_true rfl) rfl (fun ad8 hq8 hj8 => ?_)
  refine kj_putF (fs' := [.ref q1, .ref q2, .ref q3, .ref q4, .ref q6, .ref q7, .ref q8, .null, .null, .null, .int (Int32.ofInt 0)]) (ty := _) K hin dX10_init_110 fl_L_62 rfl rfl rfl (tyX10_ok 6 (by decide)) rfl rfl (Nat.le_of_ble_eq_true rfl) rfl ?_
  refine kj_aload K dX10_init_113 rfl (lv_at hl 0 rfl) ?_
  refine kc_new (fs := [.null, .null, .null, .null, .int (Int32.ofInt 0), .int (Int32.ofInt 0), .int (Int32.ofInt 0)]) K dX10_init_114 cl_3 rfl (tb_mem (i := 470) (by decide +kernel) rfl) (tb_mem (i := 471) (by decide +kernel) rfl) (tb_mem (i := 141) (by decide +kernel) rfl) (fun ty h j hj => by have e := Option.some.inj ((h j hj).symm.trans (tyX3_ok j hj)); rw [e]; exact df_3 j hj) (Nat.le_of_ble_eq_true rfl) (Nat.le_of_ble_eq_true rfl) (fun q9 => ?_)
  refine kj_dup K dX10_init_117 ?_
  refine kj_aload K dX10_init_118 rfl (lv_at hl 0 rfl) ?_
  refine kj_get (v := .ref q2) K dX10_init_119 fl_L_19 rfl ?_
  refine kj_aload K dX10_init_122 rfl (lv_at hl 0 rfl) ?_
  refine kj_get (v := .ref q1) K dX10_init_123 fl_L_10 rfl ?_
  refine kc_call (as := [q2, q1]) K dX10_init_126 (k_spelling (l := l)) rfl rfl (tb_mem (i := 472) (by decide +kernel) rfl) (tb_mem (i := 473) (by decide +kernel) rfl) (tb_mem (i := 141) (by decide +kernel) rfl) (tb_mem (i := 474) (by decide +kernel) rfl) rfl rfl ⟨by decide, by decide, by decide +kernel⟩ hl.1 ⟨Nat.le_of_ble_eq_true rfl, Nat.le_of_ble_eq_true rfl⟩ ⟨Nat.le_of_ble_eq_true rfl, Nat.le_of_ble_eq_true rfl⟩ (Nat.le_of_ble_eq_true rfl) rfl (fun ad9 hq9 hj9 => ?_)
  refine kj_putF (fs' := [.ref q1, .ref q2, .ref q3, .ref q4, .ref q6, .ref q7, .ref q8, .ref q9, .null, .null, .int (Int32.ofInt 0)]) (ty := _) K hin dX10_init_129 fl_L_71 rfl rfl rfl (tyX10_ok 7 (by decide)) rfl rfl (Nat.le_of_ble_eq_true rfl) rfl ?_
  refine kj_aload K dX10_init_132 rfl (lv_at hl 0 rfl) ?_
  refine kc_new (fs := [.null, .null, .null, .null, .null, .null, .null, .null, .null, .null, .int (Int32.ofInt 0), .int (Int32.ofInt 0)]) K dX10_init_133 cl_7 rfl (tb_mem (i := 501) (by decide +kernel) rfl) (tb_mem (i := 502) (by decide +kernel) rfl) (tb_mem (i := 142) (by decide +kernel) rfl) (fun ty h j hj => by have e := Option.some.inj ((h j hj).symm.trans (tyX7_ok j hj)); rw [e]; exact df_7 j hj) (Nat.le_of_ble_eq_true rfl) (Nat.le_of_ble_eq_true rfl) (fun q10 => ?_)
  refine kj_dup K dX10_init_136 ?_
  refine kj_aload K dX10_init_137 rfl (lv_at hl 0 rfl) ?_
  refine kj_get (v := .ref q2) K dX10_init_138 fl_L_19 rfl ?_
  refine kj_aload K dX10_init_141 rfl (lv_at hl 0 rfl) ?_
  refine kj_get (v := .ref q1) K dX10_init_142 fl_L_10 rfl ?_
  refine kj_aload K dX10_init_145 rfl (lv_at hl 0 rfl) ?_
  refine kj_get (v := .ref q6) K dX10_init_146 fl_L_44 rfl ?_
  refine kj_aload K dX10_init_149 rfl (lv_at hl 0 rfl) ?_
  refine kj_get (v := .ref q9) K dX10_init_150 fl_L_71 rfl ?_
  refine kc_call (as := [q2, q1, q6, q9]) K dX10_init_153 (k_told (l := l)) rfl rfl (tb_mem (i := 503) (by decide +kernel) rfl) (tb_mem (i := 504) (by decide +kernel) rfl) (tb_mem (i := 142) (by decide +kernel) rfl) (tb_mem (i := 505) (by decide +kernel) rfl) rfl rfl ⟨by decide, by decide, by decide +kernel⟩ hl.1 ⟨Nat.le_of_ble_eq_true rfl, Nat.le_of_ble_eq_true rfl⟩ ⟨Nat.le_of_ble_eq_true rfl, Nat.le_of_ble_eq_true rfl⟩ (Nat.le_of_ble_eq_true rfl) rfl (fun ad10 hq10 hj10 => ?_)
  refine kj_putF (fs' := [.ref q1, .ref q2, .ref q3, .ref q4, .ref q6, .ref q7, .ref q8, .ref q9, .ref q10, .null, .int (Int32.ofInt 0)]) (ty := _) K hin dX10_init_156 fl_L_80 rfl rfl rfl (tyX10_ok 8 (by decide)) rfl rfl (Nat.le_of_ble_eq_true rfl) rfl ?_
  refine kj_aload K dX10_init_159 rfl (lv_at hl 0 rfl) ?_
  refine kc_new (fs := [.null, .null, .null, .null, .null, .long (Int64.ofInt 0), .int (Int32.ofInt 0), .int (Int32.ofInt 0), .int (Int32.ofInt 0)]) K dX10_init_160 cl_4 rfl (tb_mem (i := 545) (by decide +kernel) rfl) (tb_mem (i := 546) (by decide +kernel) rfl) (tb_mem (i := 143) (by decide +kernel) rfl) (fun ty h j hj => by have e := Option.some.inj ((h j hj).symm.trans (tyX4_ok j hj)); rw [e]; exact df_4 j hj) (Nat.le_of_ble_eq_true rfl) (Nat.le_of_ble_eq_true rfl) (fun q11 => ?_)
  refine kj_dup K dX10_init_163 ?_
  refine kj_aload K dX10_init_164 rfl (lv_at hl 0 rfl) ?_
  refine kj_get (v := .ref q2) K dX10_init_165 fl_L_19 rfl ?_
  refine kc_call (as := [q2]) K dX10_init_168 (k_squares (l := l)) rfl rfl (tb_mem (i := 547) (by decide +kernel) rfl) (tb_mem (i := 548) (by decide +kernel) rfl) (tb_mem (i := 143) (by decide +kernel) rfl) (tb_mem (i := 549) (by decide +kernel) rfl) rfl rfl ⟨by decide, by decide, by decide +kernel⟩ hl.1 ⟨Nat.le_of_ble_eq_true rfl, Nat.le_of_ble_eq_true rfl⟩ ⟨Nat.le_of_ble_eq_true rfl, Nat.le_of_ble_eq_true rfl⟩ (Nat.le_of_ble_eq_true rfl) rfl (fun ad11 hq11 hj11 => ?_)
  refine kj_putF (fs' := [.ref q1, .ref q2, .ref q3, .ref q4, .ref q6, .ref q7, .ref q8, .ref q9, .ref q10, .ref q11, .int (Int32.ofInt 0)]) (ty := _) K hin dX10_init_171 fl_L_89 rfl rfl rfl (tyX10_ok 9 (by decide)) rfl rfl (Nat.le_of_ble_eq_true rfl) rfl ?_
  refine kj_aload K dX10_init_174 rfl (lv_at hl 0 rfl) ?_
  refine kj_iconst (v := Int32.ofInt (1)) K dX10_init_175 rfl ?_
  refine kj_put (fs' := [.ref q1, .ref q2, .ref q3, .ref q4, .ref q6, .ref q7, .ref q8, .ref q9, .ref q10, .ref q11, .int (Int32.ofInt (1))]) K dX10_init_176 fp_L_93 rfl rfl (Nat.le_of_ble_eq_true rfl) rfl ?_
  obtain ⟨ad, had⟩ : ∃ ad : Nat → Int → Nat, ad = (fun x r => if x = 0 then h0 else if x ∈ ([1, 13] : List Nat) then ad1 x r else if x ∈ ([2, 14, 15, 16, 17, 18, 19] : List Nat) then ad2 x r else if x ∈ ([3, 20, 21, 22, 23, 24] : List Nat) then ad3 x r else if x ∈ ([4, 5, 25, 26, 27, 28, 29] : List Nat) then ad4 x r else if x ∈ ([6, 30, 31, 32, 33, 34, 35] : List Nat) then ad6 x r else if x ∈ ([7, 36, 37, 38, 39, 40, 41] : List Nat) then ad7 x r else if x ∈ ([8, 42, 43, 44, 45] : List Nat) then ad8 x r else if x ∈ ([9, 46, 47] : List Nat) then ad9 x r else if x ∈ ([10, 48, 49, 50, 51, 52, 53] : List Nat) then ad10 x r else if x ∈ ([11, 54, 55, 56, 57] : List Nat) then ad11 x r else 0) := ⟨_, rfl⟩
  have hb1 : wsG L_tape ad cA = wsG L_tape ad1 cA := by
    refine wsG_congr (os := [1, 13]) (by decide +kernel) (fun o ho r => ?_) (fun o ho j hj => ?_)
    · rw [had]
      simp only [List.mem_cons, List.not_mem_nil, or_false] at ho
      rcases ho with rfl | rfl <;> rfl
    · simp only [List.mem_cons, List.not_mem_nil, or_false] at ho
      rcases ho with rfl | rfl
      · have hj : j ∈ ([13] : List Nat) := hj
        simp only [List.mem_cons, List.not_mem_nil, or_false] at hj
        rcases hj with rfl
        · rw [had]; rfl
      · exact (List.not_mem_nil (show j ∈ ([] : List Nat) from hj)).elim
  have hb2 : wsG L_words ad cA = wsG L_words ad2 cA := by
    refine wsG_congr (os := [2, 14, 15, 16, 17, 18, 19]) (by decide +kernel) (fun o ho r => ?_) (fun o ho j hj => ?_)
    · rw [had]
      simp only [List.mem_cons, List.not_mem_nil, or_false] at ho
      rcases ho with rfl | rfl | rfl | rfl | rfl | rfl | rfl <;> rfl
    · simp only [List.mem_cons, List.not_mem_nil, or_false] at ho
      rcases ho with rfl | rfl | rfl | rfl | rfl | rfl | rfl
      · have hj : j ∈ ([14, 15, 16, 17, 18, 19] : List Nat) := hj
        simp only [List.mem_cons, List.not_mem_nil, or_false] at hj
        rcases hj with rfl | rfl | rfl | rfl | rfl | rfl
        · rw [had]; rfl
        · rw [had]; rfl
        · rw [had]; rfl
        · rw [had]; rfl
        · rw [had]; rfl
        · rw [had]; rfl
      · exact (List.not_mem_nil (show j ∈ ([] : List Nat) from hj)).elim
      · exact (List.not_mem_nil (show j ∈ ([] : List Nat) from hj)).elim
      · exact (List.not_mem_nil (show j ∈ ([] : List Nat) from hj)).elim
      · exact (List.not_mem_nil (show j ∈ ([] : List Nat) from hj)).elim
      · exact (List.not_mem_nil (show j ∈ ([] : List Nat) from hj)).elim
      · exact (List.not_mem_nil (show j ∈ ([] : List Nat) from hj)).elim
  have hb3 : wsG L_lawc ad cA = wsG L_lawc ad3 cA := by
    refine wsG_congr (os := [3, 20, 21, 22, 23, 24]) (by decide +kernel) (fun o ho r => ?_) (fun o ho j hj => ?_)
    · rw [had]
      simp only [List.mem_cons, List.not_mem_nil, or_false] at ho
      rcases ho with rfl | rfl | rfl | rfl | rfl | rfl <;> rfl
    · simp only [List.mem_cons, List.not_mem_nil, or_false] at ho
      rcases ho with rfl | rfl | rfl | rfl | rfl | rfl
      · have hj : j ∈ ([20, 21, 22, 23, 24] : List Nat) := hj
        simp only [List.mem_cons, List.not_mem_nil, or_false] at hj
        rcases hj with rfl | rfl | rfl | rfl | rfl
        · rw [had]; rfl
        · rw [had]; rfl
        · rw [had]; rfl
        · rw [had]; rfl
        · rw [had]; rfl
      · exact (List.not_mem_nil (show j ∈ ([] : List Nat) from hj)).elim
      · exact (List.not_mem_nil (show j ∈ ([] : List Nat) from hj)).elim
      · exact (List.not_mem_nil (show j ∈ ([] : List Nat) from hj)).elim
      · exact (List.not_mem_nil (show j ∈ ([] : List Nat) from hj)).elim
      · exact (List.not_mem_nil (show j ∈ ([] : List Nat) from hj)).elim
  simp only [List.map_cons, List.map_nil, List.cons.injEq, and_true] at hj4
  have hb4 : wsG L_reader ad cA = wsG L_reader ad4 cA := by
    refine wsG_congr (os := [4, 5, 25, 26, 27, 28, 29]) (by decide +kernel) (fun o ho r => ?_) (fun o ho j hj => ?_)
    · rw [had]
      simp only [List.mem_cons, List.not_mem_nil, or_false] at ho
      rcases ho with rfl | rfl | rfl | rfl | rfl | rfl | rfl <;> rfl
    · simp only [List.mem_cons, List.not_mem_nil, or_false] at ho
      rcases ho with rfl | rfl | rfl | rfl | rfl | rfl | rfl
      · have hj : j ∈ ([1, 5] : List Nat) := hj
        simp only [List.mem_cons, List.not_mem_nil, or_false] at hj
        rcases hj with rfl | rfl
        · rw [had]; exact hq1.trans hj4.symm
        · rw [had]; rfl
      · have hj : j ∈ ([25, 26, 27, 28, 29] : List Nat) := hj
        simp only [List.mem_cons, List.not_mem_nil, or_false] at hj
        rcases hj with rfl | rfl | rfl | rfl | rfl
        · rw [had]; rfl
        · rw [had]; rfl
        · rw [had]; rfl
        · rw [had]; rfl
        · rw [had]; rfl
      · exact (List.not_mem_nil (show j ∈ ([] : List Nat) from hj)).elim
      · exact (List.not_mem_nil (show j ∈ ([] : List Nat) from hj)).elim
      · exact (List.not_mem_nil (show j ∈ ([] : List Nat) from hj)).elim
      · exact (List.not_mem_nil (show j ∈ ([] : List Nat) from hj)).elim
      · exact (List.not_mem_nil (show j ∈ ([] : List Nat) from hj)).elim
  simp only [List.map_cons, List.map_nil, List.cons.injEq, and_true] at hj6
  have hb6 : wsG L_steps ad cA = wsG L_steps ad6 cA := by
    refine wsG_congr (os := [6, 30, 31, 32, 33, 34, 35]) (by decide +kernel) (fun o ho r => ?_) (fun o ho j hj => ?_)
    · rw [had]
      simp only [List.mem_cons, List.not_mem_nil, or_false] at ho
      rcases ho with rfl | rfl | rfl | rfl | rfl | rfl | rfl <;> rfl
    · simp only [List.mem_cons, List.not_mem_nil, or_false] at ho
      rcases ho with rfl | rfl | rfl | rfl | rfl | rfl | rfl
      · have hj : j ∈ ([2, 3, 30, 31, 32, 33, 34, 35] : List Nat) := hj
        simp only [List.mem_cons, List.not_mem_nil, or_false] at hj
        rcases hj with rfl | rfl | rfl | rfl | rfl | rfl | rfl | rfl
        · rw [had]; exact hq2.trans hj6.1.symm
        · rw [had]; exact hq3.trans hj6.2.symm
        · rw [had]; rfl
        · rw [had]; rfl
        · rw [had]; rfl
        · rw [had]; rfl
        · rw [had]; rfl
        · rw [had]; rfl
      · exact (List.not_mem_nil (show j ∈ ([] : List Nat) from hj)).elim
      · exact (List.not_mem_nil (show j ∈ ([] : List Nat) from hj)).elim
      · exact (List.not_mem_nil (show j ∈ ([] : List Nat) from hj)).elim
      · exact (List.not_mem_nil (show j ∈ ([] : List Nat) from hj)).elim
      · exact (List.not_mem_nil (show j ∈ ([] : List Nat) from hj)).elim
      · exact (List.not_mem_nil (show j ∈ ([] : List Nat) from hj)).elim
  simp only [List.map_cons, List.map_nil, List.cons.injEq, and_true] at hj7
  have hb7 : wsG L_ways ad cA = wsG L_ways ad7 cA := by
    refine wsG_congr (os := [7, 36, 37, 38, 39, 40, 41]) (by decide +kernel) (fun o ho r => ?_) (fun o ho j hj => ?_)
    · rw [had]
      simp only [List.mem_cons, List.not_mem_nil, or_false] at ho
      rcases ho with rfl | rfl | rfl | rfl | rfl | rfl | rfl <;> rfl
    · simp only [List.mem_cons, List.not_mem_nil, or_false] at ho
      rcases ho with rfl | rfl | rfl | rfl | rfl | rfl | rfl
      · have hj : j ∈ ([2, 6, 36, 37, 38, 39, 40, 41] : List Nat) := hj
        simp only [List.mem_cons, List.not_mem_nil, or_false] at hj
        rcases hj with rfl | rfl | rfl | rfl | rfl | rfl | rfl | rfl
        · rw [had]; exact hq2.trans hj7.1.symm
        · rw [had]; exact hq6.trans hj7.2.symm
        · rw [had]; rfl
        · rw [had]; rfl
        · rw [had]; rfl
        · rw [had]; rfl
        · rw [had]; rfl
        · rw [had]; rfl
      · exact (List.not_mem_nil (show j ∈ ([] : List Nat) from hj)).elim
      · exact (List.not_mem_nil (show j ∈ ([] : List Nat) from hj)).elim
      · exact (List.not_mem_nil (show j ∈ ([] : List Nat) from hj)).elim
      · exact (List.not_mem_nil (show j ∈ ([] : List Nat) from hj)).elim
      · exact (List.not_mem_nil (show j ∈ ([] : List Nat) from hj)).elim
      · exact (List.not_mem_nil (show j ∈ ([] : List Nat) from hj)).elim
  simp only [List.map_cons, List.map_nil, List.cons.injEq, and_true] at hj8
  have hb8 : wsG L_newWords ad cA = wsG L_newWords ad8 cA := by
    refine wsG_congr (os := [8, 42, 43, 44, 45]) (by decide +kernel) (fun o ho r => ?_) (fun o ho j hj => ?_)
    · rw [had]
      simp only [List.mem_cons, List.not_mem_nil, or_false] at ho
      rcases ho with rfl | rfl | rfl | rfl | rfl <;> rfl
    · simp only [List.mem_cons, List.not_mem_nil, or_false] at ho
      rcases ho with rfl | rfl | rfl | rfl | rfl
      · have hj : j ∈ ([2, 6, 7, 42, 43, 44, 45] : List Nat) := hj
        simp only [List.mem_cons, List.not_mem_nil, or_false] at hj
        rcases hj with rfl | rfl | rfl | rfl | rfl | rfl | rfl
        · rw [had]; exact hq2.trans hj8.1.symm
        · rw [had]; exact hq6.trans hj8.2.1.symm
        · rw [had]; exact hq7.trans hj8.2.2.symm
        · rw [had]; rfl
        · rw [had]; rfl
        · rw [had]; rfl
        · rw [had]; rfl
      · exact (List.not_mem_nil (show j ∈ ([] : List Nat) from hj)).elim
      · exact (List.not_mem_nil (show j ∈ ([] : List Nat) from hj)).elim
      · exact (List.not_mem_nil (show j ∈ ([] : List Nat) from hj)).elim
      · exact (List.not_mem_nil (show j ∈ ([] : List Nat) from hj)).elim
  simp only [List.map_cons, List.map_nil, List.cons.injEq, and_true] at hj9
  have hb9 : wsG L_spelling ad cA = wsG L_spelling ad9 cA := by
    refine wsG_congr (os := [9, 46, 47]) (by decide +kernel) (fun o ho r => ?_) (fun o ho j hj => ?_)
    · rw [had]
      simp only [List.mem_cons, List.not_mem_nil, or_false] at ho
      rcases ho with rfl | rfl | rfl <;> rfl
    · simp only [List.mem_cons, List.not_mem_nil, or_false] at ho
      rcases ho with rfl | rfl | rfl
      · have hj : j ∈ ([2, 1, 46, 47] : List Nat) := hj
        simp only [List.mem_cons, List.not_mem_nil, or_false] at hj
        rcases hj with rfl | rfl | rfl | rfl
        · rw [had]; exact hq2.trans hj9.1.symm
        · rw [had]; exact hq1.trans hj9.2.symm
        · rw [had]; rfl
        · rw [had]; rfl
      · exact (List.not_mem_nil (show j ∈ ([] : List Nat) from hj)).elim
      · exact (List.not_mem_nil (show j ∈ ([] : List Nat) from hj)).elim
  simp only [List.map_cons, List.map_nil, List.cons.injEq, and_true] at hj10
  have hb10 : wsG L_told ad cA = wsG L_told ad10 cA := by
    refine wsG_congr (os := [10, 48, 49, 50, 51, 52, 53]) (by decide +kernel) (fun o ho r => ?_) (fun o ho j hj => ?_)
    · rw [had]
      simp only [List.mem_cons, List.not_mem_nil, or_false] at ho
      rcases ho with rfl | rfl | rfl | rfl | rfl | rfl | rfl <;> rfl
    · simp only [List.mem_cons, List.not_mem_nil, or_false] at ho
      rcases ho with rfl | rfl | rfl | rfl | rfl | rfl | rfl
      · have hj : j ∈ ([2, 1, 6, 9, 48, 49, 50, 51, 52, 53] : List Nat) := hj
        simp only [List.mem_cons, List.not_mem_nil, or_false] at hj
        rcases hj with rfl | rfl | rfl | rfl | rfl | rfl | rfl | rfl | rfl | rfl
        · rw [had]; exact hq2.trans hj10.1.symm
        · rw [had]; exact hq1.trans hj10.2.1.symm
        · rw [had]; exact hq6.trans hj10.2.2.1.symm
        · rw [had]; exact hq9.trans hj10.2.2.2.symm
        · rw [had]; rfl
        · rw [had]; rfl
        · rw [had]; rfl
        · rw [had]; rfl
        · rw [had]; rfl
        · rw [had]; rfl
      · exact (List.not_mem_nil (show j ∈ ([] : List Nat) from hj)).elim
      · exact (List.not_mem_nil (show j ∈ ([] : List Nat) from hj)).elim
      · exact (List.not_mem_nil (show j ∈ ([] : List Nat) from hj)).elim
      · exact (List.not_mem_nil (show j ∈ ([] : List Nat) from hj)).elim
      · exact (List.not_mem_nil (show j ∈ ([] : List Nat) from hj)).elim
      · exact (List.not_mem_nil (show j ∈ ([] : List Nat) from hj)).elim
  simp only [List.map_cons, List.map_nil, List.cons.injEq, and_true] at hj11
  have hb11 : wsG L_squares ad cA = wsG L_squares ad11 cA := by
    refine wsG_congr (os := [11, 54, 55, 56, 57]) (by decide +kernel) (fun o ho r => ?_) (fun o ho j hj => ?_)
    · rw [had]
      simp only [List.mem_cons, List.not_mem_nil, or_false] at ho
      rcases ho with rfl | rfl | rfl | rfl | rfl <;> rfl
    · simp only [List.mem_cons, List.not_mem_nil, or_false] at ho
      rcases ho with rfl | rfl | rfl | rfl | rfl
      · have hj : j ∈ ([2, 54, 55, 56, 57] : List Nat) := hj
        simp only [List.mem_cons, List.not_mem_nil, or_false] at hj
        rcases hj with rfl | rfl | rfl | rfl | rfl
        · rw [had]; exact hq2.trans hj11.symm
        · rw [had]; rfl
        · rw [had]; rfl
        · rw [had]; rfl
        · rw [had]; rfl
      · exact (List.not_mem_nil (show j ∈ ([] : List Nat) from hj)).elim
      · exact (List.not_mem_nil (show j ∈ ([] : List Nat) from hj)).elim
      · exact (List.not_mem_nil (show j ∈ ([] : List Nat) from hj)).elim
      · exact (List.not_mem_nil (show j ∈ ([] : List Nat) from hj)).elim
  subst had
  refine kj_ret (ad := fun x r => if x = 0 then h0 else if x ∈ ([1, 13] : List Nat) then ad1 x r else if x ∈ ([2, 14, 15, 16, 17, 18, 19] : List Nat) then ad2 x r else if x ∈ ([3, 20, 21, 22, 23, 24] : List Nat) then ad3 x r else if x ∈ ([4, 5, 25, 26, 27, 28, 29] : List Nat) then ad4 x r else if x ∈ ([6, 30, 31, 32, 33, 34, 35] : List Nat) then ad6 x r else if x ∈ ([7, 36, 37, 38, 39, 40, 41] : List Nat) then ad7 x r else if x ∈ ([8, 42, 43, 44, 45] : List Nat) then ad8 x r else if x ∈ ([9, 46, 47] : List Nat) then ad9 x r else if x ∈ ([10, 48, 49, 50, 51, 52, 53] : List Nat) then ad10 x r else if x ∈ ([11, 54, 55, 56, 57] : List Nat) then ad11 x r else 0) K hr dX10_init_179 rfl rfl ?_ rfl rfl
  exact wsG_cons2 rfl (by
    show (Sum.inr (10, [.ref (ad1 1 (-1)), .ref (ad2 2 (-1)), .ref (ad3 3 (-1)), .ref (ad4 4 (-1)), .ref (ad6 6 (-1)), .ref (ad7 7 (-1)), .ref (ad8 8 (-1)), .ref (ad9 9 (-1)), .ref (ad10 10 (-1)), .ref (ad11 11 (-1)), .int (Int32.ofInt (hI 0 10))]) : va_E) = _
    rw [hq1, hq2, hq3, hq4, hq6, hq7, hq8, hq9, hq10, hq11]
    rfl) (wsG_app2 (wsG_app2 (wsG_app2 (wsG_app2 (wsG_app2 (wsG_app2 (wsG_app2 (wsG_app2 (wsG_app2 (wsG_app2 wsG_nil hb1) hb2) hb3) hb4) hb6) hb7) hb8) hb9) hb10) hb11)

/-! constructors (printed by program) -/
theorem dX1_init_0 : decode cX1_init 0 = .ok (.aload_n 0, 1) := by decide +kernel
theorem dX1_init_1 : decode cX1_init 1 = .ok (.invokespecial 3, 3) := by decide +kernel
theorem dX1_init_4 : decode cX1_init 4 = .ok (.aload_n 0, 1) := by decide +kernel
theorem dX1_init_5 : decode cX1_init 5 = .ok (.new 9, 3) := by decide +kernel
theorem dX1_init_8 : decode cX1_init 8 = .ok (.dup, 1) := by decide +kernel
theorem dX1_init_9 : decode cX1_init 9 = .ok (.invokespecial 11, 3) := by decide +kernel
theorem dX1_init_12 : decode cX1_init 12 = .ok (.putfield 12, 3) := by decide +kernel
theorem dX1_init_15 : decode cX1_init 15 = .ok (.aload_n 0, 1) := by decide +kernel
theorem dX1_init_16 : decode cX1_init 16 = .ok (.aload_n 1, 1) := by decide +kernel
theorem dX1_init_17 : decode cX1_init 17 = .ok (.putfield 18, 3) := by decide +kernel
theorem dX1_init_20 : decode cX1_init 20 = .ok (.return_, 1) := by decide +kernel
def L_reader : List (Nat × Int) := (4, -1) :: ([] ++ L_out)
set_option maxHeartbeats 4000000 in
set_option maxRecDepth 100000 in
theorem k_reader {l : Launch} : CtorM l 2 6 475 M_Reader_init 4 (.inr (1, [.null, .null, .int (Int32.ofInt 0), .int (Int32.ofInt 0), .int (Int32.ofInt 0)])) [1] L_reader := by
  refine CtorM.of (by decide) rfl rfl (by decide) ?_
  intro as dC dI cA h0 p e s m below meth c ls A hlen K hr hin hl
  obtain ⟨a1, rfl⟩ : ∃ a1, as = [a1] := by
    match as, hlen with
    | [x1], _ => exact ⟨x1, rfl⟩
  have hl : lv_has ls 2 [(0, .ref h0), (1, .ref a1)] := hl
  refine kj_aload K dX1_init_0 rfl (lv_at hl 0 rfl) ?_
  refine kj_objInit K (tb_mem (i := 290) (by decide +kernel) rfl) (tb_mem (i := 161) (by decide +kernel) rfl) (tb_mem (i := 162) (by decide +kernel) rfl) hl.1 dX1_init_1 (Nat.le_of_ble_eq_true rfl) (Nat.le_of_ble_eq_true rfl) ?_
  refine kj_aload K dX1_init_4 rfl (lv_at hl 0 rfl) ?_
  refine kc_new (fs := [.null, .null, .null, .null, .null, .int (Int32.ofInt 0), .int (Int32.ofInt 0), .int (Int32.ofInt 0), .int (Int32.ofInt 0), .int (Int32.ofInt 0)]) K dX1_init_5 cl_0 rfl (tb_mem (i := 291) (by decide +kernel) rfl) (tb_mem (i := 245) (by decide +kernel) rfl) (tb_mem (i := 136) (by decide +kernel) rfl) (fun ty h j hj => by have e := Option.some.inj ((h j hj).symm.trans (tyX0_ok j hj)); rw [e]; exact df_0 j hj) (Nat.le_of_ble_eq_true rfl) (Nat.le_of_ble_eq_true rfl) (fun q5 => ?_)
  refine kj_dup K dX1_init_8 ?_
  refine kc_call (as := []) K dX1_init_9 (k_out (l := l)) rfl rfl (tb_mem (i := 292) (by decide +kernel) rfl) (tb_mem (i := 247) (by decide +kernel) rfl) (tb_mem (i := 136) (by decide +kernel) rfl) (tb_mem (i := 248) (by decide +kernel) rfl) rfl rfl ⟨by decide, by decide, by decide +kernel⟩ hl.1 ⟨Nat.le_of_ble_eq_true rfl, Nat.le_of_ble_eq_true rfl⟩ ⟨Nat.le_of_ble_eq_true rfl, Nat.le_of_ble_eq_true rfl⟩ (Nat.le_of_ble_eq_true rfl) rfl (fun ad5 hq5 hj5 => ?_)
  refine kj_putF (fs' := [.null, .ref q5, .int (Int32.ofInt 0), .int (Int32.ofInt 0), .int (Int32.ofInt 0)]) (ty := _) K hin dX1_init_12 fl_Reader_12 rfl rfl rfl (tyX1_ok 1 (by decide)) rfl rfl (Nat.le_of_ble_eq_true rfl) rfl ?_
  refine kj_aload K dX1_init_15 rfl (lv_at hl 0 rfl) ?_
  refine kj_aload K dX1_init_16 rfl (lv_at hl 1 rfl) ?_
  refine kj_putF (fs' := [.ref a1, .ref q5, .int (Int32.ofInt 0), .int (Int32.ofInt 0), .int (Int32.ofInt 0)]) (ty := _) K hin dX1_init_17 fl_Reader_18 rfl rfl rfl (tyX1_ok 0 (by decide)) rfl rfl (Nat.le_of_ble_eq_true rfl) rfl ?_
  obtain ⟨ad, had⟩ : ∃ ad : Nat → Int → Nat, ad = (fun x r => if x = 4 then h0 else if x ∈ ([5, 25, 26, 27, 28, 29] : List Nat) then ad5 x r else if x = 1 then a1 else 0) := ⟨_, rfl⟩
  have hb5 : wsG L_out ad cA = wsG L_out ad5 cA := by
    refine wsG_congr (os := [5, 25, 26, 27, 28, 29]) (by decide +kernel) (fun o ho r => ?_) (fun o ho j hj => ?_)
    · rw [had]
      simp only [List.mem_cons, List.not_mem_nil, or_false] at ho
      rcases ho with rfl | rfl | rfl | rfl | rfl | rfl <;> rfl
    · simp only [List.mem_cons, List.not_mem_nil, or_false] at ho
      rcases ho with rfl | rfl | rfl | rfl | rfl | rfl
      · have hj : j ∈ ([25, 26, 27, 28, 29] : List Nat) := hj
        simp only [List.mem_cons, List.not_mem_nil, or_false] at hj
        rcases hj with rfl | rfl | rfl | rfl | rfl
        · rw [had]; rfl
        · rw [had]; rfl
        · rw [had]; rfl
        · rw [had]; rfl
        · rw [had]; rfl
      · exact (List.not_mem_nil (show j ∈ ([] : List Nat) from hj)).elim
      · exact (List.not_mem_nil (show j ∈ ([] : List Nat) from hj)).elim
      · exact (List.not_mem_nil (show j ∈ ([] : List Nat) from hj)).elim
      · exact (List.not_mem_nil (show j ∈ ([] : List Nat) from hj)).elim
      · exact (List.not_mem_nil (show j ∈ ([] : List Nat) from hj)).elim
  subst had
  refine kj_ret (ad := fun x r => if x = 4 then h0 else if x ∈ ([5, 25, 26, 27, 28, 29] : List Nat) then ad5 x r else if x = 1 then a1 else 0) K hr dX1_init_20 rfl rfl ?_ rfl rfl
  exact wsG_cons2 rfl (by
    show (Sum.inr (1, [.ref a1, .ref (ad5 5 (-1)), .int (Int32.ofInt (hI 4 2)), .int (Int32.ofInt (hI 4 3)), .int (Int32.ofInt (hI 4 4))]) : va_E) = _
    rw [hq5]
    rfl) (wsG_app2 wsG_nil hb5)
theorem dX5_init_0 : decode cX5_init 0 = .ok (.aload_n 0, 1) := by decide +kernel
theorem dX5_init_1 : decode cX5_init 1 = .ok (.invokespecial 3, 3) := by decide +kernel
theorem dX5_init_4 : decode cX5_init 4 = .ok (.aload_n 0, 1) := by decide +kernel
theorem dX5_init_5 : decode cX5_init 5 = .ok (.bipush 40, 2) := by decide +kernel
theorem dX5_init_7 : decode cX5_init 7 = .ok (.bipush 40, 2) := by decide +kernel
theorem dX5_init_9 : decode cX5_init 9 = .ok (.multianewarray 9 2, 4) := by decide +kernel
theorem dX5_init_13 : decode cX5_init 13 = .ok (.putfield 11, 3) := by decide +kernel
theorem dX5_init_16 : decode cX5_init 16 = .ok (.aload_n 0, 1) := by decide +kernel
theorem dX5_init_17 : decode cX5_init 17 = .ok (.bipush 40, 2) := by decide +kernel
theorem dX5_init_19 : decode cX5_init 19 = .ok (.bipush 40, 2) := by decide +kernel
theorem dX5_init_21 : decode cX5_init 21 = .ok (.multianewarray 9 2, 4) := by decide +kernel
theorem dX5_init_25 : decode cX5_init 25 = .ok (.putfield 16, 3) := by decide +kernel
theorem dX5_init_28 : decode cX5_init 28 = .ok (.aload_n 0, 1) := by decide +kernel
theorem dX5_init_29 : decode cX5_init 29 = .ok (.bipush 40, 2) := by decide +kernel
theorem dX5_init_31 : decode cX5_init 31 = .ok (.bipush 40, 2) := by decide +kernel
theorem dX5_init_33 : decode cX5_init 33 = .ok (.multianewarray 9 2, 4) := by decide +kernel
theorem dX5_init_37 : decode cX5_init 37 = .ok (.putfield 19, 3) := by decide +kernel
theorem dX5_init_40 : decode cX5_init 40 = .ok (.aload_n 0, 1) := by decide +kernel
theorem dX5_init_41 : decode cX5_init 41 = .ok (.bipush 40, 2) := by decide +kernel
theorem dX5_init_43 : decode cX5_init 43 = .ok (.bipush 40, 2) := by decide +kernel
theorem dX5_init_45 : decode cX5_init 45 = .ok (.multianewarray 9 2, 4) := by decide +kernel
theorem dX5_init_49 : decode cX5_init 49 = .ok (.putfield 22, 3) := by decide +kernel
theorem dX5_init_52 : decode cX5_init 52 = .ok (.aload_n 0, 1) := by decide +kernel
theorem dX5_init_53 : decode cX5_init 53 = .ok (.bipush 40, 2) := by decide +kernel
theorem dX5_init_55 : decode cX5_init 55 = .ok (.bipush 40, 2) := by decide +kernel
theorem dX5_init_57 : decode cX5_init 57 = .ok (.multianewarray 9 2, 4) := by decide +kernel
theorem dX5_init_61 : decode cX5_init 61 = .ok (.putfield 25, 3) := by decide +kernel
theorem dX5_init_64 : decode cX5_init 64 = .ok (.aload_n 0, 1) := by decide +kernel
theorem dX5_init_65 : decode cX5_init 65 = .ok (.bipush 40, 2) := by decide +kernel
theorem dX5_init_67 : decode cX5_init 67 = .ok (.newarray .long, 2) := by decide +kernel
theorem dX5_init_69 : decode cX5_init 69 = .ok (.putfield 28, 3) := by decide +kernel
theorem dX5_init_72 : decode cX5_init 72 = .ok (.aload_n 0, 1) := by decide +kernel
theorem dX5_init_73 : decode cX5_init 73 = .ok (.iconst (-1), 1) := by decide +kernel
theorem dX5_init_74 : decode cX5_init 74 = .ok (.putfield 32, 3) := by decide +kernel
theorem dX5_init_77 : decode cX5_init 77 = .ok (.aload_n 0, 1) := by decide +kernel
theorem dX5_init_78 : decode cX5_init 78 = .ok (.iconst (-1), 1) := by decide +kernel
theorem dX5_init_79 : decode cX5_init 79 = .ok (.putfield 36, 3) := by decide +kernel
theorem dX5_init_82 : decode cX5_init 82 = .ok (.aload_n 0, 1) := by decide +kernel
theorem dX5_init_83 : decode cX5_init 83 = .ok (.aload_n 1, 1) := by decide +kernel
theorem dX5_init_84 : decode cX5_init 84 = .ok (.putfield 39, 3) := by decide +kernel
theorem dX5_init_87 : decode cX5_init 87 = .ok (.aload_n 0, 1) := by decide +kernel
theorem dX5_init_88 : decode cX5_init 88 = .ok (.aload_n 2, 1) := by decide +kernel
theorem dX5_init_89 : decode cX5_init 89 = .ok (.putfield 43, 3) := by decide +kernel
theorem dX5_init_92 : decode cX5_init 92 = .ok (.return_, 1) := by decide +kernel
def L_steps : List (Nat × Int) := (6, -1) :: (((((([] ++ ((30, -1) :: rowsL 30 40)) ++ ((31, -1) :: rowsL 31 40)) ++ ((32, -1) :: rowsL 32 40)) ++ ((33, -1) :: rowsL 33 40)) ++ ((34, -1) :: rowsL 34 40)) ++ [(35, -1)])
set_option maxHeartbeats 4000000 in
set_option maxRecDepth 100000 in
theorem k_steps {l : Launch} : CtorM l 1 206 8240 M_Steps_init 6 (.inr (5, [.null, .null, .null, .null, .null, .null, .null, .null, .int (Int32.ofInt 0), .int (Int32.ofInt 0), .int (Int32.ofInt 0)])) [2, 3] L_steps := by
  refine CtorM.of (by decide) rfl rfl (by decide) ?_
  intro as dC dI cA h0 p e s m below meth c ls A hlen K hr hin hl
  obtain ⟨a1, a2, rfl⟩ : ∃ a1 a2, as = [a1, a2] := by
    match as, hlen with
    | [x1, x2], _ => exact ⟨x1, x2, rfl⟩
  have hl : lv_has ls 3 [(0, .ref h0), (1, .ref a1), (2, .ref a2)] := hl
  refine kj_aload K dX5_init_0 rfl (lv_at hl 0 rfl) ?_
  refine kj_objInit K (tb_mem (i := 317) (by decide +kernel) rfl) (tb_mem (i := 161) (by decide +kernel) rfl) (tb_mem (i := 162) (by decide +kernel) rfl) hl.1 dX5_init_1 (Nat.le_of_ble_eq_true rfl) (Nat.le_of_ble_eq_true rfl) ?_
  refine kj_aload K dX5_init_4 rfl (lv_at hl 0 rfl) ?_
  refine kj_bipush (v := Int32.ofInt (40)) K dX5_init_5 rfl ?_
  refine kj_bipush (v := Int32.ofInt (40)) K dX5_init_7 rfl ?_
  refine kc_mna (N' := 40) (K' := 40) K dX5_init_9 (tb_mem (i := 318) (by decide +kernel) rfl) (tb_mem (i := 180) (by decide +kernel) rfl) (by decide) (by decide) (by decide) (by decide) (by decide) (by decide) (by decide) (Nat.le_of_ble_eq_true rfl) (Nat.le_of_ble_eq_true rfl) (fun q30 => ?_)
  refine kj_putF (fs' := [.null, .null, .ref q30, .null, .null, .null, .null, .null, .int (Int32.ofInt 0), .int (Int32.ofInt 0), .int (Int32.ofInt 0)]) (ty := _) K hin dX5_init_13 fl_Steps_11 rfl rfl rfl (tyX5_ok 2 (by decide)) rfl rfl (Nat.le_of_ble_eq_true rfl) rfl ?_
  refine kj_aload K dX5_init_16 rfl (lv_at hl 0 rfl) ?_
  refine kj_bipush (v := Int32.ofInt (40)) K dX5_init_17 rfl ?_
  refine kj_bipush (v := Int32.ofInt (40)) K dX5_init_19 rfl ?_
  refine kc_mna (N' := 40) (K' := 40) K dX5_init_21 (tb_mem (i := 318) (by decide +kernel) rfl) (tb_mem (i := 180) (by decide +kernel) rfl) (by decide) (by decide) (by decide) (by decide) (by decide) (by decide) (by decide) (Nat.le_of_ble_eq_true rfl) (Nat.le_of_ble_eq_true rfl) (fun q31 => ?_)
  refine kj_putF (fs' := [.null, .null, .ref q30, .ref q31, .null, .null, .null, .null, .int (Int32.ofInt 0), .int (Int32.ofInt 0), .int (Int32.ofInt 0)]) (ty := _) K hin dX5_init_25 fl_Steps_16 rfl rfl rfl (tyX5_ok 3 (by decide)) rfl rfl (Nat.le_of_ble_eq_true rfl) rfl ?_
  refine kj_aload K dX5_init_28 rfl (lv_at hl 0 rfl) ?_
  refine kj_bipush (v := Int32.ofInt (40)) K dX5_init_29 rfl ?_
  refine kj_bipush (v := Int32.ofInt (40)) K dX5_init_31 rfl ?_
  refine kc_mna (N' := 40) (K' := 40) K dX5_init_33 (tb_mem (i := 318) (by decide +kernel) rfl) (tb_mem (i := 180) (by decide +kernel) rfl) (by decide) (by decide) (by decide) (by decide) (by decide) (by decide) (by decide) (Nat.le_of_ble_eq_true rfl) (Nat.le_of_ble_eq_true rfl) (fun q32 => ?_)
  refine kj_putF (fs' := [.null, .null, .ref q30, .ref q31, .ref q32, .null, .null, .null, .int (Int32.ofInt 0), .int (Int32.ofInt 0), .int (Int32.ofInt 0)]) (ty := _) K hin dX5_init_37 fl_Steps_19 rfl rfl rfl (tyX5_ok 4 (by decide)) rfl rfl (Nat.le_of_ble_eq_true rfl) rfl ?_
  refine kj_aload K dX5_init_40 rfl (lv_at hl 0 rfl) ?_
  refine kj_bipush (v := Int32.ofInt (40)) K dX5_init_41 rfl ?_
  refine kj_bipush (v := Int32.ofInt (40)) K dX5_init_43 rfl ?_
  refine kc_mna (N' := 40) (K' := 40) K dX5_init_45 (tb_mem (i := 318) (by decide +kernel) rfl) (tb_mem (i := 180) (by decide +kernel) rfl) (by decide) (by decide) (by decide) (by decide) (by decide) (by decide) (by decide) (Nat.le_of_ble_eq_true rfl) (Nat.le_of_ble_eq_true rfl) (fun q33 => ?_)
  refine kj_putF (fs' := [.null, .null, .ref q30, .ref q31, .ref q32, .ref q33, .null, .null, .int (Int32.ofInt 0), .int (Int32.ofInt 0), .int (Int32.ofInt 0)]) (ty := _) K hin dX5_init_49 fl_Steps_22 rfl rfl rfl (tyX5_ok 5 (by decide)) rfl rfl (Nat.le_of_ble_eq_true rfl) rfl ?_
  refine kj_aload K dX5_init_52 rfl (lv_at hl 0 rfl) ?_
  refine kj_bipush (v := Int32.ofInt (40)) K dX5_init_53 rfl ?_
  refine kj_bipush (v := Int32.ofInt (40)) K dX5_init_55 rfl ?_
  refine kc_mna (N' := 40) (K' := 40) K dX5_init_57 (tb_mem (i := 318) (by decide +kernel) rfl) (tb_mem (i := 180) (by decide +kernel) rfl) (by decide) (by decide) (by decide) (by decide) (by decide) (by decide) (by decide) (Nat.le_of_ble_eq_true rfl) (Nat.le_of_ble_eq_true rfl) (fun q34 => ?_)
  refine kj_putF (fs' := [.null, .null, .ref q30, .ref q31, .ref q32, .ref q33, .ref q34, .null, .int (Int32.ofInt 0), .int (Int32.ofInt 0), .int (Int32.ofInt 0)]) (ty := _) K hin dX5_init_61 fl_Steps_25 rfl rfl rfl (tyX5_ok 6 (by decide)) rfl rfl (Nat.le_of_ble_eq_true rfl) rfl ?_
  refine kj_aload K dX5_init_64 rfl (lv_at hl 0 rfl) ?_
  refine kj_bipush (v := Int32.ofInt (40)) K dX5_init_65 rfl ?_
  refine kc_newa (a0 := (40, .inr (.inl (fun _ => 0)))) (N := 40) K dX5_init_67 (tb_mem (i := 242) (by decide +kernel) rfl) (k_f3 K.2.2.2.2.2.2.1) (fun _ => rfl) (by decide) (by decide) (by decide) (Nat.le_of_ble_eq_true rfl) (Nat.le_of_ble_eq_true rfl) (fun q35 => ?_)
  refine kj_putF (fs' := [.null, .null, .ref q30, .ref q31, .ref q32, .ref q33, .ref q34, .ref q35, .int (Int32.ofInt 0), .int (Int32.ofInt 0), .int (Int32.ofInt 0)]) (ty := _) K hin dX5_init_69 fl_Steps_28 rfl rfl rfl (tyX5_ok 7 (by decide)) rfl rfl (Nat.le_of_ble_eq_true rfl) rfl ?_
  refine kj_aload K dX5_init_72 rfl (lv_at hl 0 rfl) ?_
  refine kj_iconst (v := Int32.ofInt (-1)) K dX5_init_73 rfl ?_
  refine kj_put (fs' := [.null, .null, .ref q30, .ref q31, .ref q32, .ref q33, .ref q34, .ref q35, .int (Int32.ofInt (-1)), .int (Int32.ofInt 0), .int (Int32.ofInt 0)]) K dX5_init_74 fp_Steps_32 rfl rfl (Nat.le_of_ble_eq_true rfl) rfl ?_
  refine kj_aload K dX5_init_77 rfl (lv_at hl 0 rfl) ?_
  refine kj_iconst (v := Int32.ofInt (-1)) K dX5_init_78 rfl ?_
  refine kj_put (fs' := [.null, .null, .ref q30, .ref q31, .ref q32, .ref q33, .ref q34, .ref q35, .int (Int32.ofInt (-1)), .int (Int32.ofInt (-1)), .int (Int32.ofInt 0)]) K dX5_init_79 fp_Steps_36 rfl rfl (Nat.le_of_ble_eq_true rfl) rfl ?_
  refine kj_aload K dX5_init_82 rfl (lv_at hl 0 rfl) ?_
  refine kj_aload K dX5_init_83 rfl (lv_at hl 1 rfl) ?_
  refine kj_putF (fs' := [.ref a1, .null, .ref q30, .ref q31, .ref q32, .ref q33, .ref q34, .ref q35, .int (Int32.ofInt (-1)), .int (Int32.ofInt (-1)), .int (Int32.ofInt 0)]) (ty := _) K hin dX5_init_84 fl_Steps_39 rfl rfl rfl (tyX5_ok 0 (by decide)) rfl rfl (Nat.le_of_ble_eq_true rfl) rfl ?_
  refine kj_aload K dX5_init_87 rfl (lv_at hl 0 rfl) ?_
  refine kj_aload K dX5_init_88 rfl (lv_at hl 2 rfl) ?_
  refine kj_putF (fs' := [.ref a1, .ref a2, .ref q30, .ref q31, .ref q32, .ref q33, .ref q34, .ref q35, .int (Int32.ofInt (-1)), .int (Int32.ofInt (-1)), .int (Int32.ofInt 0)]) (ty := _) K hin dX5_init_89 fl_Steps_43 rfl rfl rfl (tyX5_ok 1 (by decide)) rfl rfl (Nat.le_of_ble_eq_true rfl) rfl ?_
  obtain ⟨ad, had⟩ : ∃ ad : Nat → Int → Nat, ad = (fun x r => if x = 6 then h0 else if x = 30 then (if r = -1 then q30 else q30 + 1 + r.toNat) else if x = 31 then (if r = -1 then q31 else q31 + 1 + r.toNat) else if x = 32 then (if r = -1 then q32 else q32 + 1 + r.toNat) else if x = 33 then (if r = -1 then q33 else q33 + 1 + r.toNat) else if x = 34 then (if r = -1 then q34 else q34 + 1 + r.toNat) else if x = 35 then q35 else if x = 2 then a1 else if x = 3 then a2 else 0) := ⟨_, rfl⟩
  have hr30 : ∀ i : Nat, ad 30 (i : Int) = q30 + 1 + i := fun i => by
    rw [had]
    show (if (i : Int) = -1 then q30 else q30 + 1 + (i : Int).toNat) = _
    rw [if_neg (by omega)]
    rfl
  have hr31 : ∀ i : Nat, ad 31 (i : Int) = q31 + 1 + i := fun i => by
    rw [had]
    show (if (i : Int) = -1 then q31 else q31 + 1 + (i : Int).toNat) = _
    rw [if_neg (by omega)]
    rfl
  have hr32 : ∀ i : Nat, ad 32 (i : Int) = q32 + 1 + i := fun i => by
    rw [had]
    show (if (i : Int) = -1 then q32 else q32 + 1 + (i : Int).toNat) = _
    rw [if_neg (by omega)]
    rfl
  have hr33 : ∀ i : Nat, ad 33 (i : Int) = q33 + 1 + i := fun i => by
    rw [had]
    show (if (i : Int) = -1 then q33 else q33 + 1 + (i : Int).toNat) = _
    rw [if_neg (by omega)]
    rfl
  have hr34 : ∀ i : Nat, ad 34 (i : Int) = q34 + 1 + i := fun i => by
    rw [had]
    show (if (i : Int) = -1 then q34 else q34 + 1 + (i : Int).toNat) = _
    rw [if_neg (by omega)]
    rfl
  subst had
  refine kj_ret (ad := fun x r => if x = 6 then h0 else if x = 30 then (if r = -1 then q30 else q30 + 1 + r.toNat) else if x = 31 then (if r = -1 then q31 else q31 + 1 + r.toNat) else if x = 32 then (if r = -1 then q32 else q32 + 1 + r.toNat) else if x = 33 then (if r = -1 then q33 else q33 + 1 + r.toNat) else if x = 34 then (if r = -1 then q34 else q34 + 1 + r.toNat) else if x = 35 then q35 else if x = 2 then a1 else if x = 3 then a2 else 0) K hr dX5_init_92 rfl rfl ?_ rfl rfl
  exact wsG_cons2 rfl ((enc_obj sk_6).trans rfl) (wsG_app2 (wsG_app2 (wsG_app2 (wsG_app2 (wsG_app2 (wsG_app2 wsG_nil (wsG_rows sk_30 rfl hr30)) (wsG_rows sk_31 rfl hr31)) (wsG_rows sk_32 rfl hr32)) (wsG_rows sk_33 rfl hr33)) (wsG_rows sk_34 rfl hr34)) (wsG_one rfl rfl))
theorem dX8_init_0 : decode cX8_init 0 = .ok (.aload_n 0, 1) := by decide +kernel
theorem dX8_init_1 : decode cX8_init 1 = .ok (.invokespecial 3, 3) := by decide +kernel
theorem dX8_init_4 : decode cX8_init 4 = .ok (.aload_n 0, 1) := by decide +kernel
theorem dX8_init_5 : decode cX8_init 5 = .ok (.bipush 40, 2) := by decide +kernel
theorem dX8_init_7 : decode cX8_init 7 = .ok (.bipush 40, 2) := by decide +kernel
theorem dX8_init_9 : decode cX8_init 9 = .ok (.multianewarray 9 2, 4) := by decide +kernel
theorem dX8_init_13 : decode cX8_init 13 = .ok (.putfield 11, 3) := by decide +kernel
theorem dX8_init_16 : decode cX8_init 16 = .ok (.aload_n 0, 1) := by decide +kernel
theorem dX8_init_17 : decode cX8_init 17 = .ok (.bipush 40, 2) := by decide +kernel
theorem dX8_init_19 : decode cX8_init 19 = .ok (.newarray .long, 2) := by decide +kernel
theorem dX8_init_21 : decode cX8_init 21 = .ok (.putfield 16, 3) := by decide +kernel
theorem dX8_init_24 : decode cX8_init 24 = .ok (.aload_n 0, 1) := by decide +kernel
theorem dX8_init_25 : decode cX8_init 25 = .ok (.bipush 40, 2) := by decide +kernel
theorem dX8_init_27 : decode cX8_init 27 = .ok (.newarray .int, 2) := by decide +kernel
theorem dX8_init_29 : decode cX8_init 29 = .ok (.putfield 20, 3) := by decide +kernel
theorem dX8_init_32 : decode cX8_init 32 = .ok (.aload_n 0, 1) := by decide +kernel
theorem dX8_init_33 : decode cX8_init 33 = .ok (.bipush 40, 2) := by decide +kernel
theorem dX8_init_35 : decode cX8_init 35 = .ok (.newarray .long, 2) := by decide +kernel
theorem dX8_init_37 : decode cX8_init 37 = .ok (.putfield 24, 3) := by decide +kernel
theorem dX8_init_40 : decode cX8_init 40 = .ok (.aload_n 0, 1) := by decide +kernel
theorem dX8_init_41 : decode cX8_init 41 = .ok (.bipush 40, 2) := by decide +kernel
theorem dX8_init_43 : decode cX8_init 43 = .ok (.newarray .long, 2) := by decide +kernel
theorem dX8_init_45 : decode cX8_init 45 = .ok (.putfield 27, 3) := by decide +kernel
theorem dX8_init_48 : decode cX8_init 48 = .ok (.aload_n 0, 1) := by decide +kernel
theorem dX8_init_49 : decode cX8_init 49 = .ok (.bipush 40, 2) := by decide +kernel
theorem dX8_init_51 : decode cX8_init 51 = .ok (.newarray .boolean, 2) := by decide +kernel
theorem dX8_init_53 : decode cX8_init 53 = .ok (.putfield 30, 3) := by decide +kernel
theorem dX8_init_56 : decode cX8_init 56 = .ok (.aload_n 0, 1) := by decide +kernel
theorem dX8_init_57 : decode cX8_init 57 = .ok (.iconst (-1), 1) := by decide +kernel
theorem dX8_init_58 : decode cX8_init 58 = .ok (.putfield 34, 3) := by decide +kernel
theorem dX8_init_61 : decode cX8_init 61 = .ok (.aload_n 0, 1) := by decide +kernel
theorem dX8_init_62 : decode cX8_init 62 = .ok (.iconst (-1), 1) := by decide +kernel
theorem dX8_init_63 : decode cX8_init 63 = .ok (.putfield 38, 3) := by decide +kernel
theorem dX8_init_66 : decode cX8_init 66 = .ok (.aload_n 0, 1) := by decide +kernel
theorem dX8_init_67 : decode cX8_init 67 = .ok (.iconst (-1), 1) := by decide +kernel
theorem dX8_init_68 : decode cX8_init 68 = .ok (.putfield 41, 3) := by decide +kernel
theorem dX8_init_71 : decode cX8_init 71 = .ok (.aload_n 0, 1) := by decide +kernel
theorem dX8_init_72 : decode cX8_init 72 = .ok (.aload_n 1, 1) := by decide +kernel
theorem dX8_init_73 : decode cX8_init 73 = .ok (.putfield 44, 3) := by decide +kernel
theorem dX8_init_76 : decode cX8_init 76 = .ok (.aload_n 0, 1) := by decide +kernel
theorem dX8_init_77 : decode cX8_init 77 = .ok (.aload_n 2, 1) := by decide +kernel
theorem dX8_init_78 : decode cX8_init 78 = .ok (.putfield 48, 3) := by decide +kernel
theorem dX8_init_81 : decode cX8_init 81 = .ok (.return_, 1) := by decide +kernel
def L_ways : List (Nat × Int) := (7, -1) :: (((((([] ++ ((36, -1) :: rowsL 36 40)) ++ [(37, -1)]) ++ [(38, -1)]) ++ [(39, -1)]) ++ [(40, -1)]) ++ [(41, -1)])
set_option maxHeartbeats 4000000 in
set_option maxRecDepth 100000 in
theorem k_ways {l : Launch} : CtorM l 1 46 1840 M_Ways_init 7 (.inr (8, [.null, .null, .null, .null, .null, .null, .null, .null, .int (Int32.ofInt 0), .int (Int32.ofInt 0), .int (Int32.ofInt 0), .int (Int32.ofInt 0), .int (Int32.ofInt 0), .int (Int32.ofInt 0), .int (Int32.ofInt 0), .int (Int32.ofInt 0), .int (Int32.ofInt 0)])) [2, 6] L_ways := by
  refine CtorM.of (by decide) rfl rfl (by decide) ?_
  intro as dC dI cA h0 p e s m below meth c ls A hlen K hr hin hl
  obtain ⟨a1, a2, rfl⟩ : ∃ a1 a2, as = [a1, a2] := by
    match as, hlen with
    | [x1, x2], _ => exact ⟨x1, x2, rfl⟩
  have hl : lv_has ls 3 [(0, .ref h0), (1, .ref a1), (2, .ref a2)] := hl
  refine kj_aload K dX8_init_0 rfl (lv_at hl 0 rfl) ?_
  refine kj_objInit K (tb_mem (i := 361) (by decide +kernel) rfl) (tb_mem (i := 161) (by decide +kernel) rfl) (tb_mem (i := 162) (by decide +kernel) rfl) hl.1 dX8_init_1 (Nat.le_of_ble_eq_true rfl) (Nat.le_of_ble_eq_true rfl) ?_
  refine kj_aload K dX8_init_4 rfl (lv_at hl 0 rfl) ?_
  refine kj_bipush (v := Int32.ofInt (40)) K dX8_init_5 rfl ?_
  refine kj_bipush (v := Int32.ofInt (40)) K dX8_init_7 rfl ?_
  refine kc_mna (N' := 40) (K' := 40) K dX8_init_9 (tb_mem (i := 362) (by decide +kernel) rfl) (tb_mem (i := 180) (by decide +kernel) rfl) (by decide) (by decide) (by decide) (by decide) (by decide) (by decide) (by decide) (Nat.le_of_ble_eq_true rfl) (Nat.le_of_ble_eq_true rfl) (fun q36 => ?_)
  refine kj_putF (fs' := [.null, .null, .ref q36, .null, .null, .null, .null, .null, .int (Int32.ofInt 0), .int (Int32.ofInt 0), .int (Int32.ofInt 0), .int (Int32.ofInt 0), .int (Int32.ofInt 0), .int (Int32.ofInt 0), .int (Int32.ofInt 0), .int (Int32.ofInt 0), .int (Int32.ofInt 0)]) (ty := _) K hin dX8_init_13 fl_Ways_11 rfl rfl rfl (tyX8_ok 2 (by decide)) rfl rfl (Nat.le_of_ble_eq_true rfl) rfl ?_
  refine kj_aload K dX8_init_16 rfl (lv_at hl 0 rfl) ?_
  refine kj_bipush (v := Int32.ofInt (40)) K dX8_init_17 rfl ?_
  refine kc_newa (a0 := (40, .inr (.inl (fun _ => 0)))) (N := 40) K dX8_init_19 (tb_mem (i := 242) (by decide +kernel) rfl) (k_f3 K.2.2.2.2.2.2.1) (fun _ => rfl) (by decide) (by decide) (by decide) (Nat.le_of_ble_eq_true rfl) (Nat.le_of_ble_eq_true rfl) (fun q37 => ?_)
  refine kj_putF (fs' := [.null, .null, .ref q36, .ref q37, .null, .null, .null, .null, .int (Int32.ofInt 0), .int (Int32.ofInt 0), .int (Int32.ofInt 0), .int (Int32.ofInt 0), .int (Int32.ofInt 0), .int (Int32.ofInt 0), .int (Int32.ofInt 0), .int (Int32.ofInt 0), .int (Int32.ofInt 0)]) (ty := _) K hin dX8_init_21 fl_Ways_16 rfl rfl rfl (tyX8_ok 3 (by decide)) rfl rfl (Nat.le_of_ble_eq_true rfl) rfl ?_
  refine kj_aload K dX8_init_24 rfl (lv_at hl 0 rfl) ?_
  refine kj_bipush (v := Int32.ofInt (40)) K dX8_init_25 rfl ?_
  refine kc_newa (a0 := (40, .inl (fun _ => 0))) (N := 40) K dX8_init_27 (tb_mem (i := 180) (by decide +kernel) rfl) (k_f0 K.2.2.2.2.2.2.1) (fun _ => rfl) (by decide) (by decide) (by decide) (Nat.le_of_ble_eq_true rfl) (Nat.le_of_ble_eq_true rfl) (fun q38 => ?_)
  refine kj_putF (fs' := [.null, .null, .ref q36, .ref q37, .ref q38, .null, .null, .null, .int (Int32.ofInt 0), .int (Int32.ofInt 0), .int (Int32.ofInt 0), .int (Int32.ofInt 0), .int (Int32.ofInt 0), .int (Int32.ofInt 0), .int (Int32.ofInt 0), .int (Int32.ofInt 0), .int (Int32.ofInt 0)]) (ty := _) K hin dX8_init_29 fl_Ways_20 rfl rfl rfl (tyX8_ok 4 (by decide)) rfl rfl (Nat.le_of_ble_eq_true rfl) rfl ?_
  refine kj_aload K dX8_init_32 rfl (lv_at hl 0 rfl) ?_
  refine kj_bipush (v := Int32.ofInt (40)) K dX8_init_33 rfl ?_
  refine kc_newa (a0 := (40, .inr (.inl (fun _ => 0)))) (N := 40) K dX8_init_35 (tb_mem (i := 242) (by decide +kernel) rfl) (k_f3 K.2.2.2.2.2.2.1) (fun _ => rfl) (by decide) (by decide) (by decide) (Nat.le_of_ble_eq_true rfl) (Nat.le_of_ble_eq_true rfl) (fun q39 => ?_)
  refine kj_putF (fs' := [.null, .null, .ref q36, .ref q37, .ref q38, .ref q39, .null, .null, .int (Int32.ofInt 0), .int (Int32.ofInt 0), .int (Int32.ofInt 0), .int (Int32.ofInt 0), .int (Int32.ofInt 0), .int (Int32.ofInt 0), .int (Int32.ofInt 0), .int (Int32.ofInt 0), .int (Int32.ofInt 0)]) (ty := _) K hin dX8_init_37 fl_Ways_24 rfl rfl rfl (tyX8_ok 5 (by decide)) rfl rfl (Nat.le_of_ble_eq_true rfl) rfl ?_
  refine kj_aload K dX8_init_40 rfl (lv_at hl 0 rfl) ?_
  refine kj_bipush (v := Int32.ofInt (40)) K dX8_init_41 rfl ?_
  refine kc_newa (a0 := (40, .inr (.inl (fun _ => 0)))) (N := 40) K dX8_init_43 (tb_mem (i := 242) (by decide +kernel) rfl) (k_f3 K.2.2.2.2.2.2.1) (fun _ => rfl) (by decide) (by decide) (by decide) (Nat.le_of_ble_eq_true rfl) (Nat.le_of_ble_eq_true rfl) (fun q40 => ?_)
  refine kj_putF (fs' := [.null, .null, .ref q36, .ref q37, .ref q38, .ref q39, .ref q40, .null, .int (Int32.ofInt 0), .int (Int32.ofInt 0), .int (Int32.ofInt 0), .int (Int32.ofInt 0), .int (Int32.ofInt 0), .int (Int32.ofInt 0), .int (Int32.ofInt 0), .int (Int32.ofInt 0), .int (Int32.ofInt 0)]) (ty := _) K hin dX8_init_45 fl_Ways_27 rfl rfl rfl (tyX8_ok 6 (by decide)) rfl rfl (Nat.le_of_ble_eq_true rfl) rfl ?_
  refine kj_aload K dX8_init_48 rfl (lv_at hl 0 rfl) ?_
  refine kj_bipush (v := Int32.ofInt (40)) K dX8_init_49 rfl ?_
  refine kc_newa (a0 := (40, .inl (fun _ => 0))) (N := 40) K dX8_init_51 (tb_mem (i := 243) (by decide +kernel) rfl) (k_f2 K.2.2.2.2.2.2.1) (fun _ => rfl) (by decide) (by decide) (by decide) (Nat.le_of_ble_eq_true rfl) (Nat.le_of_ble_eq_true rfl) (fun q41 => ?_)
  refine kj_putF (fs' := [.null, .null, .ref q36, .ref q37, .ref q38, .ref q39, .ref q40, .ref q41, .int (Int32.ofInt 0), .int (Int32.ofInt 0), .int (Int32.ofInt 0), .int (Int32.ofInt 0), .int (Int32.ofInt 0), .int (Int32.ofInt 0), .int (Int32.ofInt 0), .int (Int32.ofInt 0), .int (Int32.ofInt 0)]) (ty := _) K hin dX8_init_53 fl_Ways_30 rfl rfl rfl (tyX8_ok 7 (by decide)) rfl rfl (Nat.le_of_ble_eq_true rfl) rfl ?_
  refine kj_aload K dX8_init_56 rfl (lv_at hl 0 rfl) ?_
  refine kj_iconst (v := Int32.ofInt (-1)) K dX8_init_57 rfl ?_
  refine kj_put (fs' := [.null, .null, .ref q36, .ref q37, .ref q38, .ref q39, .ref q40, .ref q41, .int (Int32.ofInt 0), .int (Int32.ofInt 0), .int (Int32.ofInt 0), .int (Int32.ofInt 0), .int (Int32.ofInt 0), .int (Int32.ofInt 0), .int (Int32.ofInt (-1)), .int (Int32.ofInt 0), .int (Int32.ofInt 0)]) K dX8_init_58 fp_Ways_34 rfl rfl (Nat.le_of_ble_eq_true rfl) rfl ?_
  refine kj_aload K dX8_init_61 rfl (lv_at hl 0 rfl) ?_
  refine kj_iconst (v := Int32.ofInt (-1)) K dX8_init_62 rfl ?_
  refine kj_put (fs' := [.null, .null, .ref q36, .ref q37, .ref q38, .ref q39, .ref q40, .ref q41, .int (Int32.ofInt 0), .int (Int32.ofInt 0), .int (Int32.ofInt 0), .int (Int32.ofInt 0), .int (Int32.ofInt 0), .int (Int32.ofInt 0), .int (Int32.ofInt (-1)), .int (Int32.ofInt (-1)), .int (Int32.ofInt 0)]) K dX8_init_63 fp_Ways_38 rfl rfl (Nat.le_of_ble_eq_true rfl) rfl ?_
  refine kj_aload K dX8_init_66 rfl (lv_at hl 0 rfl) ?_
  refine kj_iconst (v := Int32.ofInt (-1)) K dX8_init_67 rfl ?_
  refine kj_put (fs' := [.null, .null, .ref q36, .ref q37, .ref q38, .ref q39, .ref q40, .ref q41, .int (Int32.ofInt 0), .int (Int32.ofInt 0), .int (Int32.ofInt 0), .int (Int32.ofInt 0), .int (Int32.ofInt 0), .int (Int32.ofInt 0), .int (Int32.ofInt (-1)), .int (Int32.ofInt (-1)), .int (Int32.ofInt (-1))]) K dX8_init_68 fp_Ways_41 rfl rfl (Nat.le_of_ble_eq_true rfl) rfl ?_
  refine kj_aload K dX8_init_71 rfl (lv_at hl 0 rfl) ?_
  refine kj_aload K dX8_init_72 rfl (lv_at hl 1 rfl) ?_
  refine kj_putF (fs' := [.ref a1, .null, .ref q36, .ref q37, .ref q38, .ref q39, .ref q40, .ref q41, .int (Int32.ofInt 0), .int (Int32.ofInt 0), .int (Int32.ofInt 0), .int (Int32.ofInt 0), .int (Int32.ofInt 0), .int (Int32.ofInt 0), .int (Int32.ofInt (-1)), .int (Int32.ofInt (-1)), .int (Int32.ofInt (-1))]) (ty := _) K hin dX8_init_73 fl_Ways_44 rfl rfl rfl (tyX8_ok 0 (by decide)) rfl rfl (Nat.le_of_ble_eq_true rfl) rfl ?_
  refine kj_aload K dX8_init_76 rfl (lv_at hl 0 rfl) ?_
  refine kj_aload K dX8_init_77 rfl (lv_at hl 2 rfl) ?_
  refine kj_putF (fs' := [.ref a1, .ref a2, .ref q36, .ref q37, .ref q38, .ref q39, .ref q40, .ref q41, .int (Int32.ofInt 0), .int (Int32.ofInt 0), .int (Int32.ofInt 0), .int (Int32.ofInt 0), .int (Int32.ofInt 0), .int (Int32.ofInt 0), .int (Int32.ofInt (-1)), .int (Int32.ofInt (-1)), .int (Int32.ofInt (-1))]) (ty := _) K hin dX8_init_78 fl_Ways_48 rfl rfl rfl (tyX8_ok 1 (by decide)) rfl rfl (Nat.le_of_ble_eq_true rfl) rfl ?_
  obtain ⟨ad, had⟩ : ∃ ad : Nat → Int → Nat, ad = (fun x r => if x = 7 then h0 else if x = 36 then (if r = -1 then q36 else q36 + 1 + r.toNat) else if x = 37 then q37 else if x = 38 then q38 else if x = 39 then q39 else if x = 40 then q40 else if x = 41 then q41 else if x = 2 then a1 else if x = 6 then a2 else 0) := ⟨_, rfl⟩
  have hr36 : ∀ i : Nat, ad 36 (i : Int) = q36 + 1 + i := fun i => by
    rw [had]
    show (if (i : Int) = -1 then q36 else q36 + 1 + (i : Int).toNat) = _
    rw [if_neg (by omega)]
    rfl
  subst had
  refine kj_ret (ad := fun x r => if x = 7 then h0 else if x = 36 then (if r = -1 then q36 else q36 + 1 + r.toNat) else if x = 37 then q37 else if x = 38 then q38 else if x = 39 then q39 else if x = 40 then q40 else if x = 41 then q41 else if x = 2 then a1 else if x = 6 then a2 else 0) K hr dX8_init_81 rfl rfl ?_ rfl rfl
  exact wsG_cons2 rfl ((enc_obj sk_7).trans rfl) (wsG_app2 (wsG_app2 (wsG_app2 (wsG_app2 (wsG_app2 (wsG_app2 wsG_nil (wsG_rows sk_36 rfl hr36)) (wsG_one rfl rfl)) (wsG_one rfl rfl)) (wsG_one rfl rfl)) (wsG_one rfl rfl)) (wsG_one rfl rfl))

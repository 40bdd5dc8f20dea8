/-! constructors (printed by program) -/
theorem dX2_init_0 : decode cX2_init 0 = .ok (.aload_n 0, 1) := by decide +kernel
theorem dX2_init_1 : decode cX2_init 1 = .ok (.invokespecial 3, 3) := by decide +kernel
theorem dX2_init_4 : decode cX2_init 4 = .ok (.aload_n 0, 1) := by decide +kernel
theorem dX2_init_5 : decode cX2_init 5 = .ok (.ldc 11, 2) := by decide +kernel
theorem dX2_init_7 : decode cX2_init 7 = .ok (.newarray .int, 2) := by decide +kernel
theorem dX2_init_9 : decode cX2_init 9 = .ok (.putfield 12, 3) := by decide +kernel
theorem dX2_init_12 : decode cX2_init 12 = .ok (.aload_n 0, 1) := by decide +kernel
theorem dX2_init_13 : decode cX2_init 13 = .ok (.sipush 16000, 3) := by decide +kernel
theorem dX2_init_16 : decode cX2_init 16 = .ok (.newarray .int, 2) := by decide +kernel
theorem dX2_init_18 : decode cX2_init 18 = .ok (.putfield 16, 3) := by decide +kernel
theorem dX2_init_21 : decode cX2_init 21 = .ok (.aload_n 0, 1) := by decide +kernel
theorem dX2_init_22 : decode cX2_init 22 = .ok (.sipush 16000, 3) := by decide +kernel
theorem dX2_init_25 : decode cX2_init 25 = .ok (.newarray .long, 2) := by decide +kernel
theorem dX2_init_27 : decode cX2_init 27 = .ok (.putfield 19, 3) := by decide +kernel
theorem dX2_init_30 : decode cX2_init 30 = .ok (.aload_n 0, 1) := by decide +kernel
theorem dX2_init_31 : decode cX2_init 31 = .ok (.sipush 16000, 3) := by decide +kernel
theorem dX2_init_34 : decode cX2_init 34 = .ok (.newarray .long, 2) := by decide +kernel
theorem dX2_init_36 : decode cX2_init 36 = .ok (.putfield 23, 3) := by decide +kernel
theorem dX2_init_39 : decode cX2_init 39 = .ok (.aload_n 0, 1) := by decide +kernel
theorem dX2_init_40 : decode cX2_init 40 = .ok (.iconst (-1), 1) := by decide +kernel
theorem dX2_init_41 : decode cX2_init 41 = .ok (.putfield 26, 3) := by decide +kernel
theorem dX2_init_44 : decode cX2_init 44 = .ok (.aload_n 0, 1) := by decide +kernel
theorem dX2_init_45 : decode cX2_init 45 = .ok (.aload_n 1, 1) := by decide +kernel
theorem dX2_init_46 : decode cX2_init 46 = .ok (.putfield 30, 3) := by decide +kernel
theorem dX2_init_49 : decode cX2_init 49 = .ok (.aload_n 0, 1) := by decide +kernel
theorem dX2_init_50 : decode cX2_init 50 = .ok (.aload_n 2, 1) := by decide +kernel
theorem dX2_init_51 : decode cX2_init 51 = .ok (.putfield 34, 3) := by decide +kernel
theorem dX2_init_54 : decode cX2_init 54 = .ok (.aload_n 0, 1) := by decide +kernel
theorem dX2_init_55 : decode cX2_init 55 = .ok (.aload_n 3, 1) := by decide +kernel
theorem dX2_init_56 : decode cX2_init 56 = .ok (.putfield 38, 3) := by decide +kernel
theorem dX2_init_59 : decode cX2_init 59 = .ok (.return_, 1) := by decide +kernel
def L_newWords : List (Nat × Int) := (8, -1) :: (((([] ++ [(42, -1)]) ++ [(43, -1)]) ++ [(44, -1)]) ++ [(45, -1)])
set_option maxHeartbeats 4000000 in
set_option maxRecDepth 100000 in
theorem k_newWords {l : Launch} : CtorM l 1 4 80768 M_NewWords_init 8 (.inr (2, [.null, .null, .null, .null, .null, .null, .null, .int (Int32.ofInt 0), .int (Int32.ofInt 0), .int (Int32.ofInt 0), .long (Int64.ofInt 0), .int (Int32.ofInt 0)])) [2, 6, 7] L_newWords := by
  refine CtorM.of (by decide) rfl rfl (by decide) ?_
  intro as dC dI cA h0 p e s m below meth c ls A hlen K hr hin hl
  obtain ⟨a1, a2, a3, rfl⟩ : ∃ a1 a2 a3, as = [a1, a2, a3] := by
    match as, hlen with
    | [x1, x2, x3], _ => exact ⟨x1, x2, x3, rfl⟩
  have hl : lv_has ls 4 [(0, .ref h0), (1, .ref a1), (2, .ref a2), (3, .ref a3)] := hl
  refine kj_aload K dX2_init_0 rfl (lv_at hl 0 rfl) ?_
  refine kj_objInit K (tb_mem (i := 428) (by decide +kernel) rfl) (tb_mem (i := 161) (by decide +kernel) rfl) (tb_mem (i := 162) (by decide +kernel) rfl) hl.1 dX2_init_1 (Nat.le_of_ble_eq_true rfl) (Nat.le_of_ble_eq_true rfl) ?_
  refine kj_aload K dX2_init_4 rfl (lv_at hl 0 rfl) ?_
  refine kj_ldc (v := Int32.ofInt (32768)) K dX2_init_5 (tb_mem (i := 429) (by decide +kernel) rfl) ?_
  refine kc_newa (a0 := (32768, .inl (fun _ => 0))) (N := 32768) K dX2_init_7 (tb_mem (i := 180) (by decide +kernel) rfl) (k_f0 K.2.2.2.2.2.2.1) (fun _ => rfl) (by decide) (by decide) (by decide) (Nat.le_of_ble_eq_true rfl) (Nat.le_of_ble_eq_true rfl) (fun q42 => ?_)
  refine kj_putF (fs' := [.null, .null, .null, .ref q42, .null, .null, .null, .int (Int32.ofInt 0), .int (Int32.ofInt 0), .int (Int32.ofInt 0), .long (Int64.ofInt 0), .int (Int32.ofInt 0)]) (ty := _) K hin dX2_init_9 fl_NewWords_12 rfl rfl rfl (tyX2_ok 3 (by decide)) rfl rfl (Nat.le_of_ble_eq_true rfl) rfl ?_
  refine kj_aload K dX2_init_12 rfl (lv_at hl 0 rfl) ?_
  refine kj_sipush (v := Int32.ofInt (16000)) K dX2_init_13 rfl ?_
  refine kc_newa (a0 := (16000, .inl (fun _ => 0))) (N := 16000) K dX2_init_16 (tb_mem (i := 180) (by decide +kernel) rfl) (k_f0 K.2.2.2.2.2.2.1) (fun _ => rfl) (by decide) (by decide) (by decide) (Nat.le_of_ble_eq_true rfl) (Nat.le_of_ble_eq_true rfl) (fun q43 => ?_)
  refine kj_putF (fs' := [.null, .null, .null, .ref q42, .ref q43, .null, .null, .int (Int32.ofInt 0), .int (Int32.ofInt 0), .int (Int32.ofInt 0), .long (Int64.ofInt 0), .int (Int32.ofInt 0)]) (ty := _) K hin dX2_init_18 fl_NewWords_16 rfl rfl rfl (tyX2_ok 4 (by decide)) rfl rfl (Nat.le_of_ble_eq_true rfl) rfl ?_
  refine kj_aload K dX2_init_21 rfl (lv_at hl 0 rfl) ?_
  refine kj_sipush (v := Int32.ofInt (16000)) K dX2_init_22 rfl ?_
  refine kc_newa (a0 := (16000, .inr (.inl (fun _ => 0)))) (N := 16000) K dX2_init_25 (tb_mem (i := 242) (by decide +kernel) rfl) (k_f3 K.2.2.2.2.2.2.1) (fun _ => rfl) (by decide) (by decide) (by decide) (Nat.le_of_ble_eq_true rfl) (Nat.le_of_ble_eq_true rfl) (fun q44 => ?_)
  refine kj_putF (fs' := [.null, .null, .null, .ref q42, .ref q43, .ref q44, .null, .int (Int32.ofInt 0), .int (Int32.ofInt 0), .int (Int32.ofInt 0), .long (Int64.ofInt 0), .int (Int32.ofInt 0)]) (ty := _) K hin dX2_init_27 fl_NewWords_19 rfl rfl rfl (tyX2_ok 5 (by decide)) rfl rfl (Nat.le_of_ble_eq_true rfl) rfl ?_
  refine kj_aload K dX2_init_30 rfl (lv_at hl 0 rfl) ?_
  refine kj_sipush (v := Int32.ofInt (16000)) K dX2_init_31 rfl ?_
  refine kc_newa (a0 := (16000, .inr (.inl (fun _ => 0)))) (N := 16000) K dX2_init_34 (tb_mem (i := 242) (by decide +kernel) rfl) (k_f3 K.2.2.2.2.2.2.1) (fun _ => rfl) (by decide) (by decide) (by decide) (Nat.le_of_ble_eq_true rfl) (Nat.le_of_ble_eq_true rfl) (fun q45 => ?_)
  refine kj_putF (fs' := [.null, .null, .null, .ref q42, .ref q43, .ref q44, .ref q45, .int (Int32.ofInt 0), .int (Int32.ofInt 0), .int (Int32.ofInt 0), .long (Int64.ofInt 0), .int (Int32.ofInt 0)]) (ty := _) K hin dX2_init_36 fl_NewWords_23 rfl rfl rfl (tyX2_ok 6 (by decide)) rfl rfl (Nat.le_of_ble_eq_true rfl) rfl ?_
  refine kj_aload K dX2_init_39 rfl (lv_at hl 0 rfl) ?_
  refine kj_iconst (v := Int32.ofInt (-1)) K dX2_init_40 rfl ?_
  refine kj_put (fs' := [.null, .null, .null, .ref q42, .ref q43, .ref q44, .ref q45, .int (Int32.ofInt 0), .int (Int32.ofInt 0), .int (Int32.ofInt 0), .long (Int64.ofInt 0), .int (Int32.ofInt (-1))]) K dX2_init_41 fp_NewWords_26 rfl rfl (Nat.le_of_ble_eq_true rfl) rfl ?_
  refine kj_aload K dX2_init_44 rfl (lv_at hl 0 rfl) ?_
  refine kj_aload K dX2_init_45 rfl (lv_at hl 1 rfl) ?_
  refine kj_putF (fs' := [.ref a1, .null, .null, .ref q42, .ref q43, .ref q44, .ref q45, .int (Int32.ofInt 0), .int (Int32.ofInt 0), .int (Int32.ofInt 0), .long (Int64.ofInt 0), .int (Int32.ofInt (-1))]) (ty := _) K hin dX2_init_46 fl_NewWords_30 rfl rfl rfl (tyX2_ok 0 (by decide)) rfl rfl (Nat.le_of_ble_eq_true rfl) rfl ?_
  refine kj_aload K dX2_init_49 rfl (lv_at hl 0 rfl) ?_
  refine kj_aload K dX2_init_50 rfl (lv_at hl 2 rfl) ?_
  refine kj_putF (fs' := [.ref a1, .ref a2, .null, .ref q42, .ref q43, .ref q44, .ref q45, .int (Int32.ofInt 0), .int (Int32.ofInt 0), .int (Int32.ofInt 0), .long (Int64.ofInt 0), .int (Int32.ofInt (-1))]) (ty := _) K hin dX2_init_51 fl_NewWords_34 rfl rfl rfl (tyX2_ok 1 (by decide)) rfl rfl (Nat.le_of_ble_eq_true rfl) rfl ?_
  refine kj_aload K dX2_init_54 rfl (lv_at hl 0 rfl) ?_
  refine kj_aload K dX2_init_55 rfl (lv_at hl 3 rfl) ?_
  refine kj_putF (fs' := [.ref a1, .ref a2, .ref a3, .ref q42, .ref q43, .ref q44, .ref q45, .int (Int32.ofInt 0), .int (Int32.ofInt 0), .int (Int32.ofInt 0), .long (Int64.ofInt 0), .int (Int32.ofInt (-1))]) (ty := _) K hin dX2_init_56 fl_NewWords_38 rfl rfl rfl (tyX2_ok 2 (by decide)) rfl rfl (Nat.le_of_ble_eq_true rfl) rfl ?_
  obtain ⟨ad, had⟩ : ∃ ad : Nat → Int → Nat, ad = (fun x r => if x = 8 then h0 else if x = 42 then q42 else if x = 43 then q43 else if x = 44 then q44 else if x = 45 then q45 else if x = 2 then a1 else if x = 6 then a2 else if x = 7 then a3 else 0) := ⟨_, rfl⟩
  subst had
  refine kj_ret (ad := fun x r => if x = 8 then h0 else if x = 42 then q42 else if x = 43 then q43 else if x = 44 then q44 else if x = 45 then q45 else if x = 2 then a1 else if x = 6 then a2 else if x = 7 then a3 else 0) K hr dX2_init_59 rfl rfl ?_ rfl rfl
  exact wsG_cons2 rfl ((enc_obj sk_8).trans rfl) (wsG_app2 (wsG_app2 (wsG_app2 (wsG_app2 wsG_nil (wsG_one rfl rfl)) (wsG_one rfl rfl)) (wsG_one rfl rfl)) (wsG_one rfl rfl))
theorem dX3_init_0 : decode cX3_init 0 = .ok (.aload_n 0, 1) := by decide +kernel
theorem dX3_init_1 : decode cX3_init 1 = .ok (.invokespecial 3, 3) := by decide +kernel
theorem dX3_init_4 : decode cX3_init 4 = .ok (.aload_n 0, 1) := by decide +kernel
theorem dX3_init_5 : decode cX3_init 5 = .ok (.bipush 12, 2) := by decide +kernel
theorem dX3_init_7 : decode cX3_init 7 = .ok (.newarray .int, 2) := by decide +kernel
theorem dX3_init_9 : decode cX3_init 9 = .ok (.putfield 9, 3) := by decide +kernel
theorem dX3_init_12 : decode cX3_init 12 = .ok (.aload_n 0, 1) := by decide +kernel
theorem dX3_init_13 : decode cX3_init 13 = .ok (.bipush 9, 2) := by decide +kernel
theorem dX3_init_15 : decode cX3_init 15 = .ok (.newarray .int, 2) := by decide +kernel
theorem dX3_init_17 : decode cX3_init 17 = .ok (.putfield 15, 3) := by decide +kernel
theorem dX3_init_20 : decode cX3_init 20 = .ok (.aload_n 0, 1) := by decide +kernel
theorem dX3_init_21 : decode cX3_init 21 = .ok (.aload_n 1, 1) := by decide +kernel
theorem dX3_init_22 : decode cX3_init 22 = .ok (.putfield 18, 3) := by decide +kernel
theorem dX3_init_25 : decode cX3_init 25 = .ok (.aload_n 0, 1) := by decide +kernel
theorem dX3_init_26 : decode cX3_init 26 = .ok (.aload_n 2, 1) := by decide +kernel
theorem dX3_init_27 : decode cX3_init 27 = .ok (.putfield 22, 3) := by decide +kernel
theorem dX3_init_30 : decode cX3_init 30 = .ok (.return_, 1) := by decide +kernel
def L_spelling : List (Nat × Int) := (9, -1) :: (([] ++ [(46, -1)]) ++ [(47, -1)])
set_option maxHeartbeats 4000000 in
set_option maxRecDepth 100000 in
theorem k_spelling {l : Launch} : CtorM l 1 2 21 M_Spelling_init 9 (.inr (3, [.null, .null, .null, .null, .int (Int32.ofInt 0), .int (Int32.ofInt 0), .int (Int32.ofInt 0)])) [2, 1] L_spelling := by
  refine CtorM.of (by decide) rfl rfl (by decide) ?_
  intro as dC dI cA h0 p e s m below meth c ls A hlen K hr hin hl
  obtain ⟨a1, a2, rfl⟩ : ∃ a1 a2, as = [a1, a2] := by
    match as, hlen with
    | [x1, x2], _ => exact ⟨x1, x2, rfl⟩
  have hl : lv_has ls 3 [(0, .ref h0), (1, .ref a1), (2, .ref a2)] := hl
  refine kj_aload K dX3_init_0 rfl (lv_at hl 0 rfl) ?_
  refine kj_objInit K (tb_mem (i := 475) (by decide +kernel) rfl) (tb_mem (i := 161) (by decide +kernel) rfl) (tb_mem (i := 162) (by decide +kernel) rfl) hl.1 dX3_init_1 (Nat.le_of_ble_eq_true rfl) (Nat.le_of_ble_eq_true rfl) ?_
  refine kj_aload K dX3_init_4 rfl (lv_at hl 0 rfl) ?_
  refine kj_bipush (v := Int32.ofInt (12)) K dX3_init_5 rfl ?_
  refine kc_newa (a0 := (12, .inl (fun _ => 0))) (N := 12) K dX3_init_7 (tb_mem (i := 180) (by decide +kernel) rfl) (k_f0 K.2.2.2.2.2.2.1) (fun _ => rfl) (by decide) (by decide) (by decide) (Nat.le_of_ble_eq_true rfl) (Nat.le_of_ble_eq_true rfl) (fun q46 => ?_)
  refine kj_putF (fs' := [.null, .null, .ref q46, .null, .int (Int32.ofInt 0), .int (Int32.ofInt 0), .int (Int32.ofInt 0)]) (ty := _) K hin dX3_init_9 fl_Spelling_9 rfl rfl rfl (tyX3_ok 2 (by decide)) rfl rfl (Nat.le_of_ble_eq_true rfl) rfl ?_
  refine kj_aload K dX3_init_12 rfl (lv_at hl 0 rfl) ?_
  refine kj_bipush (v := Int32.ofInt (9)) K dX3_init_13 rfl ?_
  refine kc_newa (a0 := (9, .inl (fun _ => 0))) (N := 9) K dX3_init_15 (tb_mem (i := 180) (by decide +kernel) rfl) (k_f0 K.2.2.2.2.2.2.1) (fun _ => rfl) (by decide) (by decide) (by decide) (Nat.le_of_ble_eq_true rfl) (Nat.le_of_ble_eq_true rfl) (fun q47 => ?_)
  refine kj_putF (fs' := [.null, .null, .ref q46, .ref q47, .int (Int32.ofInt 0), .int (Int32.ofInt 0), .int (Int32.ofInt 0)]) (ty := _) K hin dX3_init_17 fl_Spelling_15 rfl rfl rfl (tyX3_ok 3 (by decide)) rfl rfl (Nat.le_of_ble_eq_true rfl) rfl ?_
  refine kj_aload K dX3_init_20 rfl (lv_at hl 0 rfl) ?_
  refine kj_aload K dX3_init_21 rfl (lv_at hl 1 rfl) ?_
  refine kj_putF (fs' := [.ref a1, .null, .ref q46, .ref q47, .int (Int32.ofInt 0), .int (Int32.ofInt 0), .int (Int32.ofInt 0)]) (ty := _) K hin dX3_init_22 fl_Spelling_18 rfl rfl rfl (tyX3_ok 0 (by decide)) rfl rfl (Nat.le_of_ble_eq_true rfl) rfl ?_
  refine kj_aload K dX3_init_25 rfl (lv_at hl 0 rfl) ?_
  refine kj_aload K dX3_init_26 rfl (lv_at hl 2 rfl) ?_
  refine kj_putF (fs' := [.ref a1, .ref a2, .ref q46, .ref q47, .int (Int32.ofInt 0), .int (Int32.ofInt 0), .int (Int32.ofInt 0)]) (ty := _) K hin dX3_init_27 fl_Spelling_22 rfl rfl rfl (tyX3_ok 1 (by decide)) rfl rfl (Nat.le_of_ble_eq_true rfl) rfl ?_
  obtain ⟨ad, had⟩ : ∃ ad : Nat → Int → Nat, ad = (fun x r => if x = 9 then h0 else if x = 46 then q46 else if x = 47 then q47 else if x = 2 then a1 else if x = 1 then a2 else 0) := ⟨_, rfl⟩
  subst had
  refine kj_ret (ad := fun x r => if x = 9 then h0 else if x = 46 then q46 else if x = 47 then q47 else if x = 2 then a1 else if x = 1 then a2 else 0) K hr dX3_init_30 rfl rfl ?_ rfl rfl
  exact wsG_cons2 rfl ((enc_obj sk_9).trans rfl) (wsG_app2 (wsG_app2 wsG_nil (wsG_one rfl rfl)) (wsG_one rfl rfl))
theorem dX7_init_0 : decode cX7_init 0 = .ok (.aload_n 0, 1) := by decide +kernel
theorem dX7_init_1 : decode cX7_init 1 = .ok (.invokespecial 3, 3) := by decide +kernel
theorem dX7_init_4 : decode cX7_init 4 = .ok (.aload_n 0, 1) := by decide +kernel
theorem dX7_init_5 : decode cX7_init 5 = .ok (.bipush 14, 2) := by decide +kernel
theorem dX7_init_7 : decode cX7_init 7 = .ok (.newarray .int, 2) := by decide +kernel
theorem dX7_init_9 : decode cX7_init 9 = .ok (.putfield 9, 3) := by decide +kernel
theorem dX7_init_12 : decode cX7_init 12 = .ok (.aload_n 0, 1) := by decide +kernel
theorem dX7_init_13 : decode cX7_init 13 = .ok (.bipush 100, 2) := by decide +kernel
theorem dX7_init_15 : decode cX7_init 15 = .ok (.newarray .int, 2) := by decide +kernel
theorem dX7_init_17 : decode cX7_init 17 = .ok (.putfield 15, 3) := by decide +kernel
theorem dX7_init_20 : decode cX7_init 20 = .ok (.aload_n 0, 1) := by decide +kernel
theorem dX7_init_21 : decode cX7_init 21 = .ok (.sipush 10240, 3) := by decide +kernel
theorem dX7_init_24 : decode cX7_init 24 = .ok (.newarray .int, 2) := by decide +kernel
theorem dX7_init_26 : decode cX7_init 26 = .ok (.putfield 18, 3) := by decide +kernel
theorem dX7_init_29 : decode cX7_init 29 = .ok (.aload_n 0, 1) := by decide +kernel
theorem dX7_init_30 : decode cX7_init 30 = .ok (.bipush 12, 2) := by decide +kernel
theorem dX7_init_32 : decode cX7_init 32 = .ok (.newarray .int, 2) := by decide +kernel
theorem dX7_init_34 : decode cX7_init 34 = .ok (.putfield 21, 3) := by decide +kernel
theorem dX7_init_37 : decode cX7_init 37 = .ok (.aload_n 0, 1) := by decide +kernel
theorem dX7_init_38 : decode cX7_init 38 = .ok (.sipush 4096, 3) := by decide +kernel
theorem dX7_init_41 : decode cX7_init 41 = .ok (.newarray .int, 2) := by decide +kernel
theorem dX7_init_43 : decode cX7_init 43 = .ok (.putfield 24, 3) := by decide +kernel
theorem dX7_init_46 : decode cX7_init 46 = .ok (.aload_n 0, 1) := by decide +kernel
theorem dX7_init_47 : decode cX7_init 47 = .ok (.sipush 16384, 3) := by decide +kernel
theorem dX7_init_50 : decode cX7_init 50 = .ok (.newarray .boolean, 2) := by decide +kernel
theorem dX7_init_52 : decode cX7_init 52 = .ok (.putfield 27, 3) := by decide +kernel
theorem dX7_init_55 : decode cX7_init 55 = .ok (.aload_n 0, 1) := by decide +kernel
theorem dX7_init_56 : decode cX7_init 56 = .ok (.aload_n 1, 1) := by decide +kernel
theorem dX7_init_57 : decode cX7_init 57 = .ok (.putfield 31, 3) := by decide +kernel
theorem dX7_init_60 : decode cX7_init 60 = .ok (.aload_n 0, 1) := by decide +kernel
theorem dX7_init_61 : decode cX7_init 61 = .ok (.aload_n 2, 1) := by decide +kernel
theorem dX7_init_62 : decode cX7_init 62 = .ok (.putfield 35, 3) := by decide +kernel
theorem dX7_init_65 : decode cX7_init 65 = .ok (.aload_n 0, 1) := by decide +kernel
theorem dX7_init_66 : decode cX7_init 66 = .ok (.aload_n 3, 1) := by decide +kernel
theorem dX7_init_67 : decode cX7_init 67 = .ok (.putfield 39, 3) := by decide +kernel
theorem dX7_init_70 : decode cX7_init 70 = .ok (.aload_n 0, 1) := by decide +kernel
theorem dX7_init_71 : decode cX7_init 71 = .ok (.aload 4, 2) := by decide +kernel
theorem dX7_init_73 : decode cX7_init 73 = .ok (.putfield 43, 3) := by decide +kernel
theorem dX7_init_76 : decode cX7_init 76 = .ok (.return_, 1) := by decide +kernel
def L_told : List (Nat × Int) := (10, -1) :: (((((([] ++ [(48, -1)]) ++ [(49, -1)]) ++ [(50, -1)]) ++ [(51, -1)]) ++ [(52, -1)]) ++ [(53, -1)])
set_option maxHeartbeats 4000000 in
set_option maxRecDepth 100000 in
theorem k_told {l : Launch} : CtorM l 1 6 30846 M_Told_init 10 (.inr (7, [.null, .null, .null, .null, .null, .null, .null, .null, .null, .null, .int (Int32.ofInt 0), .int (Int32.ofInt 0)])) [2, 1, 6, 9] L_told := by
  refine CtorM.of (by decide) rfl rfl (by decide) ?_
  intro as dC dI cA h0 p e s m below meth c ls A hlen K hr hin hl
  obtain ⟨a1, a2, a3, a4, rfl⟩ : ∃ a1 a2 a3 a4, as = [a1, a2, a3, a4] := by
    match as, hlen with
    | [x1, x2, x3, x4], _ => exact ⟨x1, x2, x3, x4, rfl⟩
  have hl : lv_has ls 5 [(0, .ref h0), (1, .ref a1), (2, .ref a2), (3, .ref a3), (4, .ref a4)] := hl
  refine kj_aload K dX7_init_0 rfl (lv_at hl 0 rfl) ?_
  refine kj_objInit K (tb_mem (i := 506) (by decide +kernel) rfl) (tb_mem (i := 161) (by decide +kernel) rfl) (tb_mem (i := 162) (by decide +kernel) rfl) hl.1 dX7_init_1 (Nat.le_of_ble_eq_true rfl) (Nat.le_of_ble_eq_true rfl) ?_
  refine kj_aload K dX7_init_4 rfl (lv_at hl 0 rfl) ?_
  refine kj_bipush (v := Int32.ofInt (14)) K dX7_init_5 rfl ?_
  refine kc_newa (a0 := (14, .inl (fun _ => 0))) (N := 14) K dX7_init_7 (tb_mem (i := 180) (by decide +kernel) rfl) (k_f0 K.2.2.2.2.2.2.1) (fun _ => rfl) (by decide) (by decide) (by decide) (Nat.le_of_ble_eq_true rfl) (Nat.le_of_ble_eq_true rfl) (fun q48 => ?_)
  refine kj_putF (fs' := [.null, .null, .null, .null, .ref q48, .null, .null, .null, .null, .null, .int (Int32.ofInt 0), .int (Int32.ofInt 0)]) (ty := _) K hin dX7_init_9 fl_Told_9 rfl rfl rfl (tyX7_ok 4 (by decide)) rfl rfl (Nat.le_of_ble_eq_true rfl) rfl ?_
  refine kj_aload K dX7_init_12 rfl (lv_at hl 0 rfl) ?_
  refine kj_bipush (v := Int32.ofInt (100)) K dX7_init_13 rfl ?_
  refine kc_newa (a0 := (100, .inl (fun _ => 0))) (N := 100) K dX7_init_15 (tb_mem (i := 180) (by decide +kernel) rfl) (k_f0 K.2.2.2.2.2.2.1) (fun _ => rfl) (by decide) (by decide) (by decide) (Nat.le_of_ble_eq_true rfl) (Nat.le_of_ble_eq_true rfl) (fun q49 => ?_)
  refine kj_putF (fs' := [.null, .null, .null, .null, .ref q48, .ref q49, .null, .null, .null, .null, .int (Int32.ofInt 0), .int (Int32.ofInt 0)]) (ty := _) K hin dX7_init_17 fl_Told_15 rfl rfl rfl (tyX7_ok 5 (by decide)) rfl rfl (Nat.le_of_ble_eq_true rfl) rfl ?_
  refine kj_aload K dX7_init_20 rfl (lv_at hl 0 rfl) ?_
  refine kj_sipush (v := Int32.ofInt (10240)) K dX7_init_21 rfl ?_
  refine kc_newa (a0 := (10240, .inl (fun _ => 0))) (N := 10240) K dX7_init_24 (tb_mem (i := 180) (by decide +kernel) rfl) (k_f0 K.2.2.2.2.2.2.1) (fun _ => rfl) (by decide) (by decide) (by decide) (Nat.le_of_ble_eq_true rfl) (Nat.le_of_ble_eq_true rfl) (fun q50 => ?_)
  refine kj_putF (fs' := [.null, .null, .null, .null, .ref q48, .ref q49, .ref q50, .null, .null, .null, .int (Int32.ofInt 0), .int (Int32.ofInt 0)]) (ty := _) K hin dX7_init_26 fl_Told_18 rfl rfl rfl (tyX7_ok 6 (by decide)) rfl rfl (Nat.le_of_ble_eq_true rfl) rfl ?_
  refine kj_aload K dX7_init_29 rfl (lv_at hl 0 rfl) ?_
  refine kj_bipush (v := Int32.ofInt (12)) K dX7_init_30 rfl ?_
  refine kc_newa (a0 := (12, .inl (fun _ => 0))) (N := 12) K dX7_init_32 (tb_mem (i := 180) (by decide +kernel) rfl) (k_f0 K.2.2.2.2.2.2.1) (fun _ => rfl) (by decide) (by decide) (by decide) (Nat.le_of_ble_eq_true rfl) (Nat.le_of_ble_eq_true rfl) (fun q51 => ?_)
  refine kj_putF (fs' := [.null, .null, .null, .null, .ref q48, .ref q49, .ref q50, .ref q51, .null, .null, .int (Int32.ofInt 0), .int (Int32.ofInt 0)]) (ty := _) K hin dX7_init_34 fl_Told_21 rfl rfl rfl (tyX7_ok 7 (by decide)) rfl rfl (Nat.le_of_ble_eq_true rfl) rfl ?_
  refine kj_aload K dX7_init_37 rfl (lv_at hl 0 rfl) ?_
  refine kj_sipush (v := Int32.ofInt (4096)) K dX7_init_38 rfl ?_
  refine kc_newa (a0 := (4096, .inl (fun _ => 0))) (N := 4096) K dX7_init_41 (tb_mem (i := 180) (by decide +kernel) rfl) (k_f0 K.2.2.2.2.2.2.1) (fun _ => rfl) (by decide) (by decide) (by decide) (Nat.le_of_ble_eq_true rfl) (Nat.le_of_ble_eq_true rfl) (fun q52 => ?_)
  refine kj_putF (fs' := [.null, .null, .null, .null, .ref q48, .ref q49, .ref q50, .ref q51, .ref q52, .null, .int (Int32.ofInt 0), .int (Int32.ofInt 0)]) (ty := _) K hin dX7_init_43 fl_Told_24 rfl rfl rfl (tyX7_ok 8 (by decide)) rfl rfl (Nat.le_of_ble_eq_true rfl) rfl ?_
  refine kj_aload K dX7_init_46 rfl (lv_at hl 0 rfl) ?_
  refine kj_sipush (v := Int32.ofInt (16384)) K dX7_init_47 rfl ?_
  refine kc_newa (a0 := (16384, .inl (fun _ => 0))) (N := 16384) K dX7_init_50 (tb_mem (i := 243) (by decide +kernel) rfl) (k_f2 K.2.2.2.2.2.2.1) (fun _ => rfl) (by decide) (by decide) (by decide) (Nat.le_of_ble_eq_true rfl) (Nat.le_of_ble_eq_true rfl) (fun q53 => ?_)
  refine kj_putF (fs' := [.null, .null, .null, .null, .ref q48, .ref q49, .ref q50, .ref q51, .ref q52, .ref q53, .int (Int32.ofInt 0), .int (Int32.ofInt 0)]) (ty := _) K hin dX7_init_52 fl_Told_27 rfl rfl rfl (tyX7_ok 9 (by decide)) rfl rfl (Nat.le_of_ble_eq_true rfl) rfl ?_
  refine kj_aload K dX7_init_55 rfl (lv_at hl 0 rfl) ?_
  refine kj_aload K dX7_init_56 rfl (lv_at hl 1 rfl) ?_
  refine kj_putF (fs' := [.ref a1, .null, .null, .null, .ref q48, .ref q49, .ref q50, .ref q51, .ref q52, .ref q53, .int (Int32.ofInt 0), .int (Int32.ofInt 0)]) (ty := _) K hin dX7_init_57 fl_Told_31 rfl rfl rfl (tyX7_ok 0 (by decide)) rfl rfl (Nat.le_of_ble_eq_true rfl) rfl ?_
  refine kj_aload K dX7_init_60 rfl (lv_at hl 0 rfl) ?_
  refine kj_aload K dX7_init_61 rfl (lv_at hl 2 rfl) ?_
  refine kj_putF (fs' := [.ref a1, .ref a2, .null, .null, .ref q48, .ref q49, .ref q50, .ref q51, .ref q52, .ref q53, .int (Int32.ofInt 0), .int (Int32.ofInt 0)]) (ty := _) K hin dX7_init_62 fl_Told_35 rfl rfl rfl (tyX7_ok 1 (by decide)) rfl rfl (Nat.le_of_ble_eq_true rfl) rfl ?_
  refine kj_aload K dX7_init_65 rfl (lv_at hl 0 rfl) ?_
  refine kj_aload K dX7_init_66 rfl (lv_at hl 3 rfl) ?_
  refine kj_putF (fs' := [.ref a1, .ref a2, .ref a3, .null, .ref q48, .ref q49, .ref q50, .ref q51, .ref q52, .ref q53, .int (Int32.ofInt 0), .int (Int32.ofInt 0)]) (ty := _) K hin dX7_init_67 fl_Told_39 rfl rfl rfl (tyX7_ok 2 (by decide)) rfl rfl (Nat.le_of_ble_eq_true rfl) rfl ?_
  refine kj_aload K dX7_init_70 rfl (lv_at hl 0 rfl) ?_
  refine kj_aload2 K dX7_init_71 (lv_at hl 4 rfl) ?_
  refine kj_putF (fs' := [.ref a1, .ref a2, .ref a3, .ref a4, .ref q48, .ref q49, .ref q50, .ref q51, .ref q52, .ref q53, .int (Int32.ofInt 0), .int (Int32.ofInt 0)]) (ty := _) K hin dX7_init_73 fl_Told_43 rfl rfl rfl (tyX7_ok 3 (by decide)) rfl rfl (Nat.le_of_ble_eq_true rfl) rfl ?_
  obtain ⟨ad, had⟩ : ∃ ad : Nat → Int → Nat, ad = (fun x r => if x = 10 then h0 else if x = 48 then q48 else if x = 49 then q49 else if x = 50 then q50 else if x = 51 then q51 else if x = 52 then q52 else if x = 53 then q53 else if x = 2 then a1 else if x = 1 then a2 else if x = 6 then a3 else if x = 9 then a4 else 0) := ⟨_, rfl⟩
  subst had
  refine kj_ret (ad := fun x r => if x = 10 then h0 else if x = 48 then q48 else if x = 49 then q49 else if x = 50 then q50 else if x = 51 then q51 else if x = 52 then q52 else if x = 53 then q53 else if x = 2 then a1 else if x = 1 then a2 else if x = 6 then a3 else if x = 9 then a4 else 0) K hr dX7_init_76 rfl rfl ?_ rfl rfl
  exact wsG_cons2 rfl ((enc_obj sk_10).trans rfl) (wsG_app2 (wsG_app2 (wsG_app2 (wsG_app2 (wsG_app2 (wsG_app2 wsG_nil (wsG_one rfl rfl)) (wsG_one rfl rfl)) (wsG_one rfl rfl)) (wsG_one rfl rfl)) (wsG_one rfl rfl)) (wsG_one rfl rfl))
theorem dX4_init_0 : decode cX4_init 0 = .ok (.aload_n 0, 1) := by decide +kernel
theorem dX4_init_1 : decode cX4_init 1 = .ok (.invokespecial 3, 3) := by decide +kernel
theorem dX4_init_4 : decode cX4_init 4 = .ok (.aload_n 0, 1) := by decide +kernel
theorem dX4_init_5 : decode cX4_init 5 = .ok (.bipush 104, 2) := by decide +kernel
theorem dX4_init_7 : decode cX4_init 7 = .ok (.newarray .long, 2) := by decide +kernel
theorem dX4_init_9 : decode cX4_init 9 = .ok (.putfield 9, 3) := by decide +kernel
theorem dX4_init_12 : decode cX4_init 12 = .ok (.aload_n 0, 1) := by decide +kernel
theorem dX4_init_13 : decode cX4_init 13 = .ok (.bipush 20, 2) := by decide +kernel
theorem dX4_init_15 : decode cX4_init 15 = .ok (.newarray .long, 2) := by decide +kernel
theorem dX4_init_17 : decode cX4_init 17 = .ok (.putfield 15, 3) := by decide +kernel
theorem dX4_init_20 : decode cX4_init 20 = .ok (.aload_n 0, 1) := by decide +kernel
theorem dX4_init_21 : decode cX4_init 21 = .ok (.iconst 4, 1) := by decide +kernel
theorem dX4_init_22 : decode cX4_init 22 = .ok (.newarray .int, 2) := by decide +kernel
theorem dX4_init_24 : decode cX4_init 24 = .ok (.putfield 18, 3) := by decide +kernel
theorem dX4_init_27 : decode cX4_init 27 = .ok (.aload_n 0, 1) := by decide +kernel
theorem dX4_init_28 : decode cX4_init 28 = .ok (.iconst 4, 1) := by decide +kernel
theorem dX4_init_29 : decode cX4_init 29 = .ok (.newarray .int, 2) := by decide +kernel
theorem dX4_init_31 : decode cX4_init 31 = .ok (.putfield 22, 3) := by decide +kernel
theorem dX4_init_34 : decode cX4_init 34 = .ok (.aload_n 0, 1) := by decide +kernel
theorem dX4_init_35 : decode cX4_init 35 = .ok (.iconst (-1), 1) := by decide +kernel
theorem dX4_init_36 : decode cX4_init 36 = .ok (.putfield 25, 3) := by decide +kernel
theorem dX4_init_39 : decode cX4_init 39 = .ok (.aload_n 0, 1) := by decide +kernel
theorem dX4_init_40 : decode cX4_init 40 = .ok (.aload_n 1, 1) := by decide +kernel
theorem dX4_init_41 : decode cX4_init 41 = .ok (.putfield 29, 3) := by decide +kernel
theorem dX4_init_44 : decode cX4_init 44 = .ok (.return_, 1) := by decide +kernel
def L_squares : List (Nat × Int) := (11, -1) :: (((([] ++ [(54, -1)]) ++ [(55, -1)]) ++ [(56, -1)]) ++ [(57, -1)])
set_option maxHeartbeats 4000000 in
set_option maxRecDepth 100000 in
theorem k_squares {l : Launch} : CtorM l 1 4 132 M_Squares_init 11 (.inr (4, [.null, .null, .null, .null, .null, .long (Int64.ofInt 0), .int (Int32.ofInt 0), .int (Int32.ofInt 0), .int (Int32.ofInt 0)])) [2] L_squares := by
  refine CtorM.of (by decide) rfl rfl (by decide) ?_
  intro as dC dI cA h0 p e s m below meth c ls A hlen K hr hin hl
  obtain ⟨a1, rfl⟩ : ∃ a1, as = [a1] := by
    match as, hlen with
    | [x1], _ => exact ⟨x1, rfl⟩
  have hl : lv_has ls 2 [(0, .ref h0), (1, .ref a1)] := hl
  refine kj_aload K dX4_init_0 rfl (lv_at hl 0 rfl) ?_
  refine kj_objInit K (tb_mem (i := 550) (by decide +kernel) rfl) (tb_mem (i := 161) (by decide +kernel) rfl) (tb_mem (i := 162) (by decide +kernel) rfl) hl.1 dX4_init_1 (Nat.le_of_ble_eq_true rfl) (Nat.le_of_ble_eq_true rfl) ?_
  refine kj_aload K dX4_init_4 rfl (lv_at hl 0 rfl) ?_
  refine kj_bipush (v := Int32.ofInt (104)) K dX4_init_5 rfl ?_
  refine kc_newa (a0 := (104, .inr (.inl (fun _ => 0)))) (N := 104) K dX4_init_7 (tb_mem (i := 242) (by decide +kernel) rfl) (k_f3 K.2.2.2.2.2.2.1) (fun _ => rfl) (by decide) (by decide) (by decide) (Nat.le_of_ble_eq_true rfl) (Nat.le_of_ble_eq_true rfl) (fun q54 => ?_)
  refine kj_putF (fs' := [.null, .ref q54, .null, .null, .null, .long (Int64.ofInt 0), .int (Int32.ofInt 0), .int (Int32.ofInt 0), .int (Int32.ofInt 0)]) (ty := _) K hin dX4_init_9 fl_Squares_9 rfl rfl rfl (tyX4_ok 1 (by decide)) rfl rfl (Nat.le_of_ble_eq_true rfl) rfl ?_
  refine kj_aload K dX4_init_12 rfl (lv_at hl 0 rfl) ?_
  refine kj_bipush (v := Int32.ofInt (20)) K dX4_init_13 rfl ?_
  refine kc_newa (a0 := (20, .inr (.inl (fun _ => 0)))) (N := 20) K dX4_init_15 (tb_mem (i := 242) (by decide +kernel) rfl) (k_f3 K.2.2.2.2.2.2.1) (fun _ => rfl) (by decide) (by decide) (by decide) (Nat.le_of_ble_eq_true rfl) (Nat.le_of_ble_eq_true rfl) (fun q55 => ?_)
  refine kj_putF (fs' := [.null, .ref q54, .ref q55, .null, .null, .long (Int64.ofInt 0), .int (Int32.ofInt 0), .int (Int32.ofInt 0), .int (Int32.ofInt 0)]) (ty := _) K hin dX4_init_17 fl_Squares_15 rfl rfl rfl (tyX4_ok 2 (by decide)) rfl rfl (Nat.le_of_ble_eq_true rfl) rfl ?_
  refine kj_aload K dX4_init_20 rfl (lv_at hl 0 rfl) ?_
  refine kj_iconst (v := Int32.ofInt (4)) K dX4_init_21 rfl ?_
  refine kc_newa (a0 := (4, .inl (fun _ => 0))) (N := 4) K dX4_init_22 (tb_mem (i := 180) (by decide +kernel) rfl) (k_f0 K.2.2.2.2.2.2.1) (fun _ => rfl) (by decide) (by decide) (by decide) (Nat.le_of_ble_eq_true rfl) (Nat.le_of_ble_eq_true rfl) (fun q56 => ?_)
  refine kj_putF (fs' := [.null, .ref q54, .ref q55, .ref q56, .null, .long (Int64.ofInt 0), .int (Int32.ofInt 0), .int (Int32.ofInt 0), .int (Int32.ofInt 0)]) (ty := _) K hin dX4_init_24 fl_Squares_18 rfl rfl rfl (tyX4_ok 3 (by decide)) rfl rfl (Nat.le_of_ble_eq_true rfl) rfl ?_
  refine kj_aload K dX4_init_27 rfl (lv_at hl 0 rfl) ?_
  refine kj_iconst (v := Int32.ofInt (4)) K dX4_init_28 rfl ?_
  refine kc_newa (a0 := (4, .inl (fun _ => 0))) (N := 4) K dX4_init_29 (tb_mem (i := 180) (by decide +kernel) rfl) (k_f0 K.2.2.2.2.2.2.1) (fun _ => rfl) (by decide) (by decide) (by decide) (Nat.le_of_ble_eq_true rfl) (Nat.le_of_ble_eq_true rfl) (fun q57 => ?_)
  refine kj_putF (fs' := [.null, .ref q54, .ref q55, .ref q56, .ref q57, .long (Int64.ofInt 0), .int (Int32.ofInt 0), .int (Int32.ofInt 0), .int (Int32.ofInt 0)]) (ty := _) K hin dX4_init_31 fl_Squares_22 rfl rfl rfl (tyX4_ok 4 (by decide)) rfl rfl (Nat.le_of_ble_eq_true rfl) rfl ?_
  refine kj_aload K dX4_init_34 rfl (lv_at hl 0 rfl) ?_
  refine kj_iconst (v := Int32.ofInt (-1)) K dX4_init_35 rfl ?_
  refine kj_put (fs' := [.null, .ref q54, .ref q55, .ref q56, .ref q57, .long (Int64.ofInt 0), .int (Int32.ofInt 0), .int (Int32.ofInt 0), .int (Int32.ofInt (-1))]) K dX4_init_36 fp_Squares_25 rfl rfl (Nat.le_of_ble_eq_true rfl) rfl ?_
  refine kj_aload K dX4_init_39 rfl (lv_at hl 0 rfl) ?_
  refine kj_aload K dX4_init_40 rfl (lv_at hl 1 rfl) ?_
  refine kj_putF (fs' := [.ref a1, .ref q54, .ref q55, .ref q56, .ref q57, .long (Int64.ofInt 0), .int (Int32.ofInt 0), .int (Int32.ofInt 0), .int (Int32.ofInt (-1))]) (ty := _) K hin dX4_init_41 fl_Squares_29 rfl rfl rfl (tyX4_ok 0 (by decide)) rfl rfl (Nat.le_of_ble_eq_true rfl) rfl ?_
  obtain ⟨ad, had⟩ : ∃ ad : Nat → Int → Nat, ad = (fun x r => if x = 11 then h0 else if x = 54 then q54 else if x = 55 then q55 else if x = 56 then q56 else if x = 57 then q57 else if x = 2 then a1 else 0) := ⟨_, rfl⟩
  subst had
  refine kj_ret (ad := fun x r => if x = 11 then h0 else if x = 54 then q54 else if x = 55 then q55 else if x = 56 then q56 else if x = 57 then q57 else if x = 2 then a1 else 0) K hr dX4_init_44 rfl rfl ?_ rfl rfl
  exact wsG_cons2 rfl ((enc_obj sk_11).trans rfl) (wsG_app2 (wsG_app2 (wsG_app2 (wsG_app2 wsG_nil (wsG_one rfl rfl)) (wsG_one rfl rfl)) (wsG_one rfl rfl)) (wsG_one rfl rfl))

/-! constructors (printed by program) -/
theorem df_0 : ∀ j, j < 10 → defaultValue (tyX0 j) = vp_V [.null, .null, .null, .null, .null, .int (Int32.ofInt 0), .int (Int32.ofInt 0), .int (Int32.ofInt 0), .int (Int32.ofInt 0), .int (Int32.ofInt 0)] j := by decide +kernel
theorem df_1 : ∀ j, j < 5 → defaultValue (tyX1 j) = vp_V [.null, .null, .int (Int32.ofInt 0), .int (Int32.ofInt 0), .int (Int32.ofInt 0)] j := by decide +kernel
theorem df_2 : ∀ j, j < 12 → defaultValue (tyX2 j) = vp_V [.null, .null, .null, .null, .null, .null, .null, .int (Int32.ofInt 0), .int (Int32.ofInt 0), .int (Int32.ofInt 0), .long (Int64.ofInt 0), .int (Int32.ofInt 0)] j := by decide +kernel
theorem df_3 : ∀ j, j < 7 → defaultValue (tyX3 j) = vp_V [.null, .null, .null, .null, .int (Int32.ofInt 0), .int (Int32.ofInt 0), .int (Int32.ofInt 0)] j := by decide +kernel
theorem df_4 : ∀ j, j < 9 → defaultValue (tyX4 j) = vp_V [.null, .null, .null, .null, .null, .long (Int64.ofInt 0), .int (Int32.ofInt 0), .int (Int32.ofInt 0), .int (Int32.ofInt 0)] j := by decide +kernel
theorem df_5 : ∀ j, j < 11 → defaultValue (tyX5 j) = vp_V [.null, .null, .null, .null, .null, .null, .null, .null, .int (Int32.ofInt 0), .int (Int32.ofInt 0), .int (Int32.ofInt 0)] j := by decide +kernel
theorem df_6 : ∀ j, j < 3 → defaultValue (tyX6 j) = vp_V [.null, .int (Int32.ofInt 0), .int (Int32.ofInt 0)] j := by decide +kernel
theorem df_7 : ∀ j, j < 12 → defaultValue (tyX7 j) = vp_V [.null, .null, .null, .null, .null, .null, .null, .null, .null, .null, .int (Int32.ofInt 0), .int (Int32.ofInt 0)] j := by decide +kernel
theorem df_8 : ∀ j, j < 17 → defaultValue (tyX8 j) = vp_V [.null, .null, .null, .null, .null, .null, .null, .null, .int (Int32.ofInt 0), .int (Int32.ofInt 0), .int (Int32.ofInt 0), .int (Int32.ofInt 0), .int (Int32.ofInt 0), .int (Int32.ofInt 0), .int (Int32.ofInt 0), .int (Int32.ofInt 0), .int (Int32.ofInt 0)] j := by decide +kernel
theorem df_9 : ∀ j, j < 10 → defaultValue (tyX9 j) = vp_V [.null, .null, .null, .null, .null, .null, .int (Int32.ofInt 0), .int (Int32.ofInt 0), .long (Int64.ofInt 0), .int (Int32.ofInt 0)] j := by decide +kernel
theorem df_10 : ∀ j, j < 11 → defaultValue (tyX10 j) = vp_V [.null, .null, .null, .null, .null, .null, .null, .null, .null, .null, .int (Int32.ofInt 0)] j := by decide +kernel
theorem df_11 : ∀ j, j < 54 → defaultValue (tyX11 j) = vp_V [.int (Int32.ofInt 0), .int (Int32.ofInt 0), .int (Int32.ofInt 0), .null, .null, .null, .null, .null, .null, .int (Int32.ofInt 0), .null, .int (Int32.ofInt 0), .int (Int32.ofInt 0), .int (Int32.ofInt 0), .int (Int32.ofInt 0), .int (Int32.ofInt 0), .int (Int32.ofInt 0), .int (Int32.ofInt 0), .int (Int32.ofInt 0), .int (Int32.ofInt 0), .int (Int32.ofInt 0), .null, .null, .null, .null, .null, .null, .null, .null, .null, .null, .null, .null, .null, .null, .null, .null, .null, .null, .null, .null, .int (Int32.ofInt 0), .int (Int32.ofInt 0), .int (Int32.ofInt 0), .null, .null, .null, .null, .null, .null, .null, .null, .null, .int (Int32.ofInt 0)] j := by decide +kernel
theorem dX6_init_0 : decode cX6_init 0 = .ok (.aload_n 0, 1) := by decide +kernel
theorem dX6_init_1 : decode cX6_init 1 = .ok (.invokespecial 3, 3) := by decide +kernel
theorem dX6_init_4 : decode cX6_init 4 = .ok (.aload_n 0, 1) := by decide +kernel
theorem dX6_init_5 : decode cX6_init 5 = .ok (.sipush 200, 3) := by decide +kernel
theorem dX6_init_8 : decode cX6_init 8 = .ok (.newarray .int, 2) := by decide +kernel
theorem dX6_init_10 : decode cX6_init 10 = .ok (.putfield 11, 3) := by decide +kernel
theorem dX6_init_13 : decode cX6_init 13 = .ok (.return_, 1) := by decide +kernel
def L_tape : List (Nat × Int) := (1, -1) :: ([] ++ [(13, -1)])
set_option maxHeartbeats 4000000 in
set_option maxRecDepth 100000 in
theorem k_tape {l : Launch} : CtorM l 1 1 200 M_Tape_init 1 (.inr (6, [.null, .int (Int32.ofInt 0), .int (Int32.ofInt 0)])) [] L_tape := by
  refine CtorM.of (by decide) rfl rfl (by decide) ?_
  intro as dC dI cA h0 p e s m below meth c ls A hlen K hr hin hl
  have has : as = [] := List.length_eq_zero_iff.mp hlen
  subst has
  have hl : lv_has ls 1 [(0, .ref h0)] := hl
  refine kj_aload K dX6_init_0 rfl (lv_at hl 0 rfl) ?_
  refine kj_objInit K (tb_mem (i := 168) (by decide +kernel) rfl) (tb_mem (i := 161) (by decide +kernel) rfl) (tb_mem (i := 162) (by decide +kernel) rfl) hl.1 dX6_init_1 (Nat.le_of_ble_eq_true rfl) (Nat.le_of_ble_eq_true rfl) ?_
  refine kj_aload K dX6_init_4 rfl (lv_at hl 0 rfl) ?_
  refine kj_sipush (v := Int32.ofInt (200)) K dX6_init_5 rfl ?_
  refine kc_newa (a0 := (200, .inl (fun _ => 0))) (N := 200) K dX6_init_8 (tb_mem (i := 180) (by decide +kernel) rfl) (k_f0 K.2.2.2.2.2.2.1) (fun _ => rfl) (by decide) (by decide) (by decide) (Nat.le_of_ble_eq_true rfl) (Nat.le_of_ble_eq_true rfl) (fun q13 => ?_)
  refine kj_putF (fs' := [.ref q13, .int (Int32.ofInt 0), .int (Int32.ofInt 0)]) (ty := _) K hin dX6_init_10 fl_Tape_11 rfl rfl rfl (tyX6_ok 0 (by decide)) rfl rfl (Nat.le_of_ble_eq_true rfl) rfl ?_
  obtain ⟨ad, had⟩ : ∃ ad : Nat → Int → Nat, ad = (fun x r => if x = 1 then h0 else if x = 13 then q13 else 0) := ⟨_, rfl⟩
  subst had
  refine kj_ret (ad := fun x r => if x = 1 then h0 else if x = 13 then q13 else 0) K hr dX6_init_13 rfl rfl ?_ rfl rfl
  exact wsG_cons2 rfl ((enc_obj sk_1).trans rfl) (wsG_app2 wsG_nil (wsG_one rfl rfl))
theorem dX9_init_0 : decode cX9_init 0 = .ok (.aload_n 0, 1) := by decide +kernel
theorem dX9_init_1 : decode cX9_init 1 = .ok (.invokespecial 3, 3) := by decide +kernel
theorem dX9_init_4 : decode cX9_init 4 = .ok (.aload_n 0, 1) := by decide +kernel
theorem dX9_init_5 : decode cX9_init 5 = .ok (.bipush 40, 2) := by decide +kernel
theorem dX9_init_7 : decode cX9_init 7 = .ok (.bipush 8, 2) := by decide +kernel
theorem dX9_init_9 : decode cX9_init 9 = .ok (.multianewarray 9 2, 4) := by decide +kernel
theorem dX9_init_13 : decode cX9_init 13 = .ok (.putfield 11, 3) := by decide +kernel
theorem dX9_init_16 : decode cX9_init 16 = .ok (.aload_n 0, 1) := by decide +kernel
theorem dX9_init_17 : decode cX9_init 17 = .ok (.bipush 40, 2) := by decide +kernel
theorem dX9_init_19 : decode cX9_init 19 = .ok (.newarray .int, 2) := by decide +kernel
theorem dX9_init_21 : decode cX9_init 21 = .ok (.putfield 16, 3) := by decide +kernel
theorem dX9_init_24 : decode cX9_init 24 = .ok (.aload_n 0, 1) := by decide +kernel
theorem dX9_init_25 : decode cX9_init 25 = .ok (.bipush 40, 2) := by decide +kernel
theorem dX9_init_27 : decode cX9_init 27 = .ok (.newarray .long, 2) := by decide +kernel
theorem dX9_init_29 : decode cX9_init 29 = .ok (.putfield 20, 3) := by decide +kernel
theorem dX9_init_32 : decode cX9_init 32 = .ok (.aload_n 0, 1) := by decide +kernel
theorem dX9_init_33 : decode cX9_init 33 = .ok (.bipush 40, 2) := by decide +kernel
theorem dX9_init_35 : decode cX9_init 35 = .ok (.newarray .int, 2) := by decide +kernel
theorem dX9_init_37 : decode cX9_init 37 = .ok (.putfield 24, 3) := by decide +kernel
theorem dX9_init_40 : decode cX9_init 40 = .ok (.aload_n 0, 1) := by decide +kernel
theorem dX9_init_41 : decode cX9_init 41 = .ok (.bipush 40, 2) := by decide +kernel
theorem dX9_init_43 : decode cX9_init 43 = .ok (.newarray .int, 2) := by decide +kernel
theorem dX9_init_45 : decode cX9_init 45 = .ok (.putfield 27, 3) := by decide +kernel
theorem dX9_init_48 : decode cX9_init 48 = .ok (.aload_n 0, 1) := by decide +kernel
theorem dX9_init_49 : decode cX9_init 49 = .ok (.bipush 40, 2) := by decide +kernel
theorem dX9_init_51 : decode cX9_init 51 = .ok (.newarray .boolean, 2) := by decide +kernel
theorem dX9_init_53 : decode cX9_init 53 = .ok (.putfield 30, 3) := by decide +kernel
theorem dX9_init_56 : decode cX9_init 56 = .ok (.aload_n 0, 1) := by decide +kernel
theorem dX9_init_57 : decode cX9_init 57 = .ok (.iconst (-1), 1) := by decide +kernel
theorem dX9_init_58 : decode cX9_init 58 = .ok (.putfield 34, 3) := by decide +kernel
theorem dX9_init_61 : decode cX9_init 61 = .ok (.return_, 1) := by decide +kernel
def L_words : List (Nat × Int) := (2, -1) :: (((((([] ++ ((14, -1) :: rowsL 14 40)) ++ [(15, -1)]) ++ [(16, -1)]) ++ [(17, -1)]) ++ [(18, -1)]) ++ [(19, -1)])
set_option maxHeartbeats 4000000 in
set_option maxRecDepth 100000 in
theorem k_words {l : Launch} : CtorM l 1 46 560 M_Words_init 2 (.inr (9, [.null, .null, .null, .null, .null, .null, .int (Int32.ofInt 0), .int (Int32.ofInt 0), .long (Int64.ofInt 0), .int (Int32.ofInt 0)])) [] L_words := by
  refine CtorM.of (by decide) rfl rfl (by decide) ?_
  intro as dC dI cA h0 p e s m below meth c ls A hlen K hr hin hl
  have has : as = [] := List.length_eq_zero_iff.mp hlen
  subst has
  have hl : lv_has ls 1 [(0, .ref h0)] := hl
  refine kj_aload K dX9_init_0 rfl (lv_at hl 0 rfl) ?_
  refine kj_objInit K (tb_mem (i := 186) (by decide +kernel) rfl) (tb_mem (i := 161) (by decide +kernel) rfl) (tb_mem (i := 162) (by decide +kernel) rfl) hl.1 dX9_init_1 (Nat.le_of_ble_eq_true rfl) (Nat.le_of_ble_eq_true rfl) ?_
  refine kj_aload K dX9_init_4 rfl (lv_at hl 0 rfl) ?_
  refine kj_bipush (v := Int32.ofInt (40)) K dX9_init_5 rfl ?_
  refine kj_bipush (v := Int32.ofInt (8)) K dX9_init_7 rfl ?_
  refine kc_mna (N' := 40) (K' := 8) K dX9_init_9 (tb_mem (i := 187) (by decide +kernel) rfl) (tb_mem (i := 180) (by decide +kernel) rfl) (by decide) (by decide) (by decide) (by decide) (by decide) (by decide) (by decide) (Nat.le_of_ble_eq_true rfl) (Nat.le_of_ble_eq_true rfl) (fun q14 => ?_)
  refine kj_putF (fs' := [.ref q14, .null, .null, .null, .null, .null, .int (Int32.ofInt 0), .int (Int32.ofInt 0), .long (Int64.ofInt 0), .int (Int32.ofInt 0)]) (ty := _) K hin dX9_init_13 fl_Words_11 rfl rfl rfl (tyX9_ok 0 (by decide)) rfl rfl (Nat.le_of_ble_eq_true rfl) rfl ?_
  refine kj_aload K dX9_init_16 rfl (lv_at hl 0 rfl) ?_
  refine kj_bipush (v := Int32.ofInt (40)) K dX9_init_17 rfl ?_
  refine kc_newa (a0 := (40, .inl (fun _ => 0))) (N := 40) K dX9_init_19 (tb_mem (i := 180) (by decide +kernel) rfl) (k_f0 K.2.2.2.2.2.2.1) (fun _ => rfl) (by decide) (by decide) (by decide) (Nat.le_of_ble_eq_true rfl) (Nat.le_of_ble_eq_true rfl) (fun q15 => ?_)
  refine kj_putF (fs' := [.ref q14, .ref q15, .null, .null, .null, .null, .int (Int32.ofInt 0), .int (Int32.ofInt 0), .long (Int64.ofInt 0), .int (Int32.ofInt 0)]) (ty := _) K hin dX9_init_21 fl_Words_16 rfl rfl rfl (tyX9_ok 1 (by decide)) rfl rfl (Nat.le_of_ble_eq_true rfl) rfl ?_
  refine kj_aload K dX9_init_24 rfl (lv_at hl 0 rfl) ?_
  refine kj_bipush (v := Int32.ofInt (40)) K dX9_init_25 rfl ?_
  refine kc_newa (a0 := (40, .inr (.inl (fun _ => 0)))) (N := 40) K dX9_init_27 (tb_mem (i := 242) (by decide +kernel) rfl) (k_f3 K.2.2.2.2.2.2.1) (fun _ => rfl) (by decide) (by decide) (by decide) (Nat.le_of_ble_eq_true rfl) (Nat.le_of_ble_eq_true rfl) (fun q16 => ?_)
  refine kj_putF (fs' := [.ref q14, .ref q15, .ref q16, .null, .null, .null, .int (Int32.ofInt 0), .int (Int32.ofInt 0), .long (Int64.ofInt 0), .int (Int32.ofInt 0)]) (ty := _) K hin dX9_init_29 fl_Words_20 rfl rfl rfl (tyX9_ok 2 (by decide)) rfl rfl (Nat.le_of_ble_eq_true rfl) rfl ?_
  refine kj_aload K dX9_init_32 rfl (lv_at hl 0 rfl) ?_
  refine kj_bipush (v := Int32.ofInt (40)) K dX9_init_33 rfl ?_
  refine kc_newa (a0 := (40, .inl (fun _ => 0))) (N := 40) K dX9_init_35 (tb_mem (i := 180) (by decide +kernel) rfl) (k_f0 K.2.2.2.2.2.2.1) (fun _ => rfl) (by decide) (by decide) (by decide) (Nat.le_of_ble_eq_true rfl) (Nat.le_of_ble_eq_true rfl) (fun q17 => ?_)
  refine kj_putF (fs' := [.ref q14, .ref q15, .ref q16, .ref q17, .null, .null, .int (Int32.ofInt 0), .int (Int32.ofInt 0), .long (Int64.ofInt 0), .int (Int32.ofInt 0)]) (ty := _) K hin dX9_init_37 fl_Words_24 rfl rfl rfl (tyX9_ok 3 (by decide)) rfl rfl (Nat.le_of_ble_eq_true rfl) rfl ?_
  refine kj_aload K dX9_init_40 rfl (lv_at hl 0 rfl) ?_
  refine kj_bipush (v := Int32.ofInt (40)) K dX9_init_41 rfl ?_
  refine kc_newa (a0 := (40, .inl (fun _ => 0))) (N := 40) K dX9_init_43 (tb_mem (i := 180) (by decide +kernel) rfl) (k_f0 K.2.2.2.2.2.2.1) (fun _ => rfl) (by decide) (by decide) (by decide) (Nat.le_of_ble_eq_true rfl) (Nat.le_of_ble_eq_true rfl) (fun q18 => ?_)
  refine kj_putF (fs' := [.ref q14, .ref q15, .ref q16, .ref q17, .ref q18, .null, .int (Int32.ofInt 0), .int (Int32.ofInt 0), .long (Int64.ofInt 0), .int (Int32.ofInt 0)]) (ty := _) K hin dX9_init_45 fl_Words_27 rfl rfl rfl (tyX9_ok 4 (by decide)) rfl rfl (Nat.le_of_ble_eq_true rfl) rfl ?_
  refine kj_aload K dX9_init_48 rfl (lv_at hl 0 rfl) ?_
  refine kj_bipush (v := Int32.ofInt (40)) K dX9_init_49 rfl ?_
  refine kc_newa (a0 := (40, .inl (fun _ => 0))) (N := 40) K dX9_init_51 (tb_mem (i := 243) (by decide +kernel) rfl) (k_f2 K.2.2.2.2.2.2.1) (fun _ => rfl) (by decide) (by decide) (by decide) (Nat.le_of_ble_eq_true rfl) (Nat.le_of_ble_eq_true rfl) (fun q19 => ?_)
  refine kj_putF (fs' := [.ref q14, .ref q15, .ref q16, .ref q17, .ref q18, .ref q19, .int (Int32.ofInt 0), .int (Int32.ofInt 0), .long (Int64.ofInt 0), .int (Int32.ofInt 0)]) (ty := _) K hin dX9_init_53 fl_Words_30 rfl rfl rfl (tyX9_ok 5 (by decide)) rfl rfl (Nat.le_of_ble_eq_true rfl) rfl ?_
  refine kj_aload K dX9_init_56 rfl (lv_at hl 0 rfl) ?_
  refine kj_iconst (v := Int32.ofInt (-1)) K dX9_init_57 rfl ?_
  refine kj_put (fs' := [.ref q14, .ref q15, .ref q16, .ref q17, .ref q18, .ref q19, .int (Int32.ofInt 0), .int (Int32.ofInt (-1)), .long (Int64.ofInt 0), .int (Int32.ofInt 0)]) K dX9_init_58 fp_Words_34 rfl rfl (Nat.le_of_ble_eq_true rfl) rfl ?_
  obtain ⟨ad, had⟩ : ∃ ad : Nat → Int → Nat, ad = (fun x r => if x = 2 then h0 else if x = 14 then (if r = -1 then q14 else q14 + 1 + r.toNat) else if x = 15 then q15 else if x = 16 then q16 else if x = 17 then q17 else if x = 18 then q18 else if x = 19 then q19 else 0) := ⟨_, rfl⟩
  have hr14 : ∀ i : Nat, ad 14 (i : Int) = q14 + 1 + i := fun i => by
    rw [had]
    show (if (i : Int) = -1 then q14 else q14 + 1 + (i : Int).toNat) = _
    rw [if_neg (by omega)]
    rfl
  subst had
  refine kj_ret (ad := fun x r => if x = 2 then h0 else if x = 14 then (if r = -1 then q14 else q14 + 1 + r.toNat) else if x = 15 then q15 else if x = 16 then q16 else if x = 17 then q17 else if x = 18 then q18 else if x = 19 then q19 else 0) K hr dX9_init_61 rfl rfl ?_ rfl rfl
  exact wsG_cons2 rfl ((enc_obj sk_2).trans rfl) (wsG_app2 (wsG_app2 (wsG_app2 (wsG_app2 (wsG_app2 (wsG_app2 wsG_nil (wsG_rows sk_14 rfl hr14)) (wsG_one rfl rfl)) (wsG_one rfl rfl)) (wsG_one rfl rfl)) (wsG_one rfl rfl)) (wsG_one rfl rfl))
theorem dX0_init_0 : decode cX0_init 0 = .ok (.aload_n 0, 1) := by decide +kernel
theorem dX0_init_1 : decode cX0_init 1 = .ok (.invokespecial 3, 3) := by decide +kernel
theorem dX0_init_4 : decode cX0_init 4 = .ok (.aload_n 0, 1) := by decide +kernel
theorem dX0_init_5 : decode cX0_init 5 = .ok (.sipush 400, 3) := by decide +kernel
theorem dX0_init_8 : decode cX0_init 8 = .ok (.newarray .int, 2) := by decide +kernel
theorem dX0_init_10 : decode cX0_init 10 = .ok (.putfield 11, 3) := by decide +kernel
theorem dX0_init_13 : decode cX0_init 13 = .ok (.aload_n 0, 1) := by decide +kernel
theorem dX0_init_14 : decode cX0_init 14 = .ok (.bipush 12, 2) := by decide +kernel
theorem dX0_init_16 : decode cX0_init 16 = .ok (.newarray .int, 2) := by decide +kernel
theorem dX0_init_18 : decode cX0_init 18 = .ok (.putfield 15, 3) := by decide +kernel
theorem dX0_init_21 : decode cX0_init 21 = .ok (.aload_n 0, 1) := by decide +kernel
theorem dX0_init_22 : decode cX0_init 22 = .ok (.bipush 12, 2) := by decide +kernel
theorem dX0_init_24 : decode cX0_init 24 = .ok (.newarray .int, 2) := by decide +kernel
theorem dX0_init_26 : decode cX0_init 26 = .ok (.putfield 18, 3) := by decide +kernel
theorem dX0_init_29 : decode cX0_init 29 = .ok (.aload_n 0, 1) := by decide +kernel
theorem dX0_init_30 : decode cX0_init 30 = .ok (.bipush 9, 2) := by decide +kernel
theorem dX0_init_32 : decode cX0_init 32 = .ok (.newarray .int, 2) := by decide +kernel
theorem dX0_init_34 : decode cX0_init 34 = .ok (.putfield 21, 3) := by decide +kernel
theorem dX0_init_37 : decode cX0_init 37 = .ok (.aload_n 0, 1) := by decide +kernel
theorem dX0_init_38 : decode cX0_init 38 = .ok (.bipush 32, 2) := by decide +kernel
theorem dX0_init_40 : decode cX0_init 40 = .ok (.newarray .int, 2) := by decide +kernel
theorem dX0_init_42 : decode cX0_init 42 = .ok (.putfield 24, 3) := by decide +kernel
theorem dX0_init_45 : decode cX0_init 45 = .ok (.return_, 1) := by decide +kernel
def L_lawc : List (Nat × Int) := (3, -1) :: ((((([] ++ [(20, -1)]) ++ [(21, -1)]) ++ [(22, -1)]) ++ [(23, -1)]) ++ [(24, -1)])
set_option maxHeartbeats 4000000 in
set_option maxRecDepth 100000 in
theorem k_lawc {l : Launch} : CtorM l 1 5 465 M_LawCode_init 3 (.inr (0, [.null, .null, .null, .null, .null, .int (Int32.ofInt 0), .int (Int32.ofInt 0), .int (Int32.ofInt 0), .int (Int32.ofInt 0), .int (Int32.ofInt 0)])) [] L_lawc := by
  refine CtorM.of (by decide) rfl rfl (by decide) ?_
  intro as dC dI cA h0 p e s m below meth c ls A hlen K hr hin hl
  have has : as = [] := List.length_eq_zero_iff.mp hlen
  subst has
  have hl : lv_has ls 1 [(0, .ref h0)] := hl
  refine kj_aload K dX0_init_0 rfl (lv_at hl 0 rfl) ?_
  refine kj_objInit K (tb_mem (i := 249) (by decide +kernel) rfl) (tb_mem (i := 161) (by decide +kernel) rfl) (tb_mem (i := 162) (by decide +kernel) rfl) hl.1 dX0_init_1 (Nat.le_of_ble_eq_true rfl) (Nat.le_of_ble_eq_true rfl) ?_
  refine kj_aload K dX0_init_4 rfl (lv_at hl 0 rfl) ?_
  refine kj_sipush (v := Int32.ofInt (400)) K dX0_init_5 rfl ?_
  refine kc_newa (a0 := (400, .inl (fun _ => 0))) (N := 400) K dX0_init_8 (tb_mem (i := 180) (by decide +kernel) rfl) (k_f0 K.2.2.2.2.2.2.1) (fun _ => rfl) (by decide) (by decide) (by decide) (Nat.le_of_ble_eq_true rfl) (Nat.le_of_ble_eq_true rfl) (fun q20 => ?_)
  refine kj_putF (fs' := [.ref q20, .null, .null, .null, .null, .int (Int32.ofInt 0), .int (Int32.ofInt 0), .int (Int32.ofInt 0), .int (Int32.ofInt 0), .int (Int32.ofInt 0)]) (ty := _) K hin dX0_init_10 fl_LawCode_11 rfl rfl rfl (tyX0_ok 0 (by decide)) rfl rfl (Nat.le_of_ble_eq_true rfl) rfl ?_
  refine kj_aload K dX0_init_13 rfl (lv_at hl 0 rfl) ?_
  refine kj_bipush (v := Int32.ofInt (12)) K dX0_init_14 rfl ?_
  refine kc_newa (a0 := (12, .inl (fun _ => 0))) (N := 12) K dX0_init_16 (tb_mem (i := 180) (by decide +kernel) rfl) (k_f0 K.2.2.2.2.2.2.1) (fun _ => rfl) (by decide) (by decide) (by decide) (Nat.le_of_ble_eq_true rfl) (Nat.le_of_ble_eq_true rfl) (fun q21 => ?_)
  refine kj_putF (fs' := [.ref q20, .ref q21, .null, .null, .null, .int (Int32.ofInt 0), .int (Int32.ofInt 0), .int (Int32.ofInt 0), .int (Int32.ofInt 0), .int (Int32.ofInt 0)]) (ty := _) K hin dX0_init_18 fl_LawCode_15 rfl rfl rfl (tyX0_ok 1 (by decide)) rfl rfl (Nat.le_of_ble_eq_true rfl) rfl ?_
  refine kj_aload K dX0_init_21 rfl (lv_at hl 0 rfl) ?_
  refine kj_bipush (v := Int32.ofInt (12)) K dX0_init_22 rfl ?_
  refine kc_newa (a0 := (12, .inl (fun _ => 0))) (N := 12) K dX0_init_24 (tb_mem (i := 180) (by decide +kernel) rfl) (k_f0 K.2.2.2.2.2.2.1) (fun _ => rfl) (by decide) (by decide) (by decide) (Nat.le_of_ble_eq_true rfl) (Nat.le_of_ble_eq_true rfl) (fun q22 => ?_)
  refine kj_putF (fs' := [.ref q20, .ref q21, .ref q22, .null, .null, .int (Int32.ofInt 0), .int (Int32.ofInt 0), .int (Int32.ofInt 0), .int (Int32.ofInt 0), .int (Int32.ofInt 0)]) (ty := _) K hin dX0_init_26 fl_LawCode_18 rfl rfl rfl (tyX0_ok 2 (by decide)) rfl rfl (Nat.le_of_ble_eq_true rfl) rfl ?_
  refine kj_aload K dX0_init_29 rfl (lv_at hl 0 rfl) ?_
  refine kj_bipush (v := Int32.ofInt (9)) K dX0_init_30 rfl ?_
  refine kc_newa (a0 := (9, .inl (fun _ => 0))) (N := 9) K dX0_init_32 (tb_mem (i := 180) (by decide +kernel) rfl) (k_f0 K.2.2.2.2.2.2.1) (fun _ => rfl) (by decide) (by decide) (by decide) (Nat.le_of_ble_eq_true rfl) (Nat.le_of_ble_eq_true rfl) (fun q23 => ?_)
  refine kj_putF (fs' := [.ref q20, .ref q21, .ref q22, .ref q23, .null, .int (Int32.ofInt 0), .int (Int32.ofInt 0), .int (Int32.ofInt 0), .int (Int32.ofInt 0), .int (Int32.ofInt 0)]) (ty := _) K hin dX0_init_34 fl_LawCode_21 rfl rfl rfl (tyX0_ok 3 (by decide)) rfl rfl (Nat.le_of_ble_eq_true rfl) rfl ?_
  refine kj_aload K dX0_init_37 rfl (lv_at hl 0 rfl) ?_
  refine kj_bipush (v := Int32.ofInt (32)) K dX0_init_38 rfl ?_
  refine kc_newa (a0 := (32, .inl (fun _ => 0))) (N := 32) K dX0_init_40 (tb_mem (i := 180) (by decide +kernel) rfl) (k_f0 K.2.2.2.2.2.2.1) (fun _ => rfl) (by decide) (by decide) (by decide) (Nat.le_of_ble_eq_true rfl) (Nat.le_of_ble_eq_true rfl) (fun q24 => ?_)
  refine kj_putF (fs' := [.ref q20, .ref q21, .ref q22, .ref q23, .ref q24, .int (Int32.ofInt 0), .int (Int32.ofInt 0), .int (Int32.ofInt 0), .int (Int32.ofInt 0), .int (Int32.ofInt 0)]) (ty := _) K hin dX0_init_42 fl_LawCode_24 rfl rfl rfl (tyX0_ok 4 (by decide)) rfl rfl (Nat.le_of_ble_eq_true rfl) rfl ?_
  obtain ⟨ad, had⟩ : ∃ ad : Nat → Int → Nat, ad = (fun x r => if x = 3 then h0 else if x = 20 then q20 else if x = 21 then q21 else if x = 22 then q22 else if x = 23 then q23 else if x = 24 then q24 else 0) := ⟨_, rfl⟩
  subst had
  refine kj_ret (ad := fun x r => if x = 3 then h0 else if x = 20 then q20 else if x = 21 then q21 else if x = 22 then q22 else if x = 23 then q23 else if x = 24 then q24 else 0) K hr dX0_init_45 rfl rfl ?_ rfl rfl
  exact wsG_cons2 rfl ((enc_obj sk_3).trans rfl) (wsG_app2 (wsG_app2 (wsG_app2 (wsG_app2 (wsG_app2 wsG_nil (wsG_one rfl rfl)) (wsG_one rfl rfl)) (wsG_one rfl rfl)) (wsG_one rfl rfl)) (wsG_one rfl rfl))
def L_out : List (Nat × Int) := (5, -1) :: ((((([] ++ [(25, -1)]) ++ [(26, -1)]) ++ [(27, -1)]) ++ [(28, -1)]) ++ [(29, -1)])
set_option maxHeartbeats 4000000 in
set_option maxRecDepth 100000 in
theorem k_out {l : Launch} : CtorM l 1 5 465 M_LawCode_init 5 (.inr (0, [.null, .null, .null, .null, .null, .int (Int32.ofInt 0), .int (Int32.ofInt 0), .int (Int32.ofInt 0), .int (Int32.ofInt 0), .int (Int32.ofInt 0)])) [] L_out := by
  refine CtorM.of (by decide) rfl rfl (by decide) ?_
  intro as dC dI cA h0 p e s m below meth c ls A hlen K hr hin hl
  have has : as = [] := List.length_eq_zero_iff.mp hlen
  subst has
  have hl : lv_has ls 1 [(0, .ref h0)] := hl
  refine kj_aload K dX0_init_0 rfl (lv_at hl 0 rfl) ?_
  refine kj_objInit K (tb_mem (i := 249) (by decide +kernel) rfl) (tb_mem (i := 161) (by decide +kernel) rfl) (tb_mem (i := 162) (by decide +kernel) rfl) hl.1 dX0_init_1 (Nat.le_of_ble_eq_true rfl) (Nat.le_of_ble_eq_true rfl) ?_
  refine kj_aload K dX0_init_4 rfl (lv_at hl 0 rfl) ?_
  refine kj_sipush (v := Int32.ofInt (400)) K dX0_init_5 rfl ?_
  refine kc_newa (a0 := (400, .inl (fun _ => 0))) (N := 400) K dX0_init_8 (tb_mem (i := 180) (by decide +kernel) rfl) (k_f0 K.2.2.2.2.2.2.1) (fun _ => rfl) (by decide) (by decide) (by decide) (Nat.le_of_ble_eq_true rfl) (Nat.le_of_ble_eq_true rfl) (fun q25 => ?_)
  refine kj_putF (fs' := [.ref q25, .null, .null, .null, .null, .int (Int32.ofInt 0), .int (Int32.ofInt 0), .int (Int32.ofInt 0), .int (Int32.ofInt 0), .int (Int32.ofInt 0)]) (ty := _) K hin dX0_init_10 fl_LawCode_11 rfl rfl rfl (tyX0_ok 0 (by decide)) rfl rfl (Nat.le_of_ble_eq_true rfl) rfl ?_
  refine kj_aload K dX0_init_13 rfl (lv_at hl 0 rfl) ?_
  refine kj_bipush (v := Int32.ofInt (12)) K dX0_init_14 rfl ?_
  refine kc_newa (a0 := (12, .inl (fun _ => 0))) (N := 12) K dX0_init_16 (tb_mem (i := 180) (by decide +kernel) rfl) (k_f0 K.2.2.2.2.2.2.1) (fun _ => rfl) (by decide) (by decide) (by decide) (Nat.le_of_ble_eq_true rfl) (Nat.le_of_ble_eq_true rfl) (fun q26 => ?_)
  refine kj_putF (fs' := [.ref q25, .ref q26, .null, .null, .null, .int (Int32.ofInt 0), .int (Int32.ofInt 0), .int (Int32.ofInt 0), .int (Int32.ofInt 0), .int (Int32.ofInt 0)]) (ty := _) K hin dX0_init_18 fl_LawCode_15 rfl rfl rfl (tyX0_ok 1 (by decide)) rfl rfl (Nat.le_of_ble_eq_true rfl) rfl ?_
  refine kj_aload K dX0_init_21 rfl (lv_at hl 0 rfl) ?_
  refine kj_bipush (v := Int32.ofInt (12)) K dX0_init_22 rfl ?_
  refine kc_newa (a0 := (12, .inl (fun _ => 0))) (N := 12) K dX0_init_24 (tb_mem (i := 180) (by decide +kernel) rfl) (k_f0 K.2.2.2.2.2.2.1) (fun _ => rfl) (by decide) (by decide) (by decide) (Nat.le_of_ble_eq_true rfl) (Nat.le_of_ble_eq_true rfl) (fun q27 => ?_)
  refine kj_putF (fs' := [.ref q25, .ref q26, .ref q27, .null, .null, .int (Int32.ofInt 0), .int (Int32.ofInt 0), .int (Int32.ofInt 0), .int (Int32.ofInt 0), .int (Int32.ofInt 0)]) (ty := _) K hin dX0_init_26 fl_LawCode_18 rfl rfl rfl (tyX0_ok 2 (by decide)) rfl rfl (Nat.le_of_ble_eq_true rfl) rfl ?_
  refine kj_aload K dX0_init_29 rfl (lv_at hl 0 rfl) ?_
  refine kj_bipush (v := Int32.ofInt (9)) K dX0_init_30 rfl ?_
  refine kc_newa (a0 := (9, .inl (fun _ => 0))) (N := 9) K dX0_init_32 (tb_mem (i := 180) (by decide +kernel) rfl) (k_f0 K.2.2.2.2.2.2.1) (fun _ => rfl) (by decide) (by decide) (by decide) (Nat.le_of_ble_eq_true rfl) (Nat.le_of_ble_eq_true rfl) (fun q28 => ?_)
  refine kj_putF (fs' := [.ref q25, .ref q26, .ref q27, .ref q28, .null, .int (Int32.ofInt 0), .int (Int32.ofInt 0), .int (Int32.ofInt 0), .int (Int32.ofInt 0), .int (Int32.ofInt 0)]) (ty := _) K hin dX0_init_34 fl_LawCode_21 rfl rfl rfl (tyX0_ok 3 (by decide)) rfl rfl (Nat.le_of_ble_eq_true rfl) rfl ?_
  refine kj_aload K dX0_init_37 rfl (lv_at hl 0 rfl) ?_
  refine kj_bipush (v := Int32.ofInt (32)) K dX0_init_38 rfl ?_
  refine kc_newa (a0 := (32, .inl (fun _ => 0))) (N := 32) K dX0_init_40 (tb_mem (i := 180) (by decide +kernel) rfl) (k_f0 K.2.2.2.2.2.2.1) (fun _ => rfl) (by decide) (by decide) (by decide) (Nat.le_of_ble_eq_true rfl) (Nat.le_of_ble_eq_true rfl) (fun q29 => ?_)
  refine kj_putF (fs' := [.ref q25, .ref q26, .ref q27, .ref q28, .ref q29, .int (Int32.ofInt 0), .int (Int32.ofInt 0), .int (Int32.ofInt 0), .int (Int32.ofInt 0), .int (Int32.ofInt 0)]) (ty := _) K hin dX0_init_42 fl_LawCode_24 rfl rfl rfl (tyX0_ok 4 (by decide)) rfl rfl (Nat.le_of_ble_eq_true rfl) rfl ?_
  obtain ⟨ad, had⟩ : ∃ ad : Nat → Int → Nat, ad = (fun x r => if x = 5 then h0 else if x = 25 then q25 else if x = 26 then q26 else if x = 27 then q27 else if x = 28 then q28 else if x = 29 then q29 else 0) := ⟨_, rfl⟩
  subst had
  refine kj_ret (ad := fun x r => if x = 5 then h0 else if x = 25 then q25 else if x = 26 then q26 else if x = 27 then q27 else if x = 28 then q28 else if x = 29 then q29 else 0) K hr dX0_init_45 rfl rfl ?_ rfl rfl
  exact wsG_cons2 rfl ((enc_obj sk_5).trans rfl) (wsG_app2 (wsG_app2 (wsG_app2 (wsG_app2 (wsG_app2 wsG_nil (wsG_one rfl rfl)) (wsG_one rfl rfl)) (wsG_one rfl rfl)) (wsG_one rfl rfl)) (wsG_one rfl rfl))

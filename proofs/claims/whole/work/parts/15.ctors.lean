def I_X4_init_1 (M : Mm) : Mm := (upd2 (upd2 (upd2 (rowW (upd2 (rowW (upd2 (rowW (upd2 (rowW (upd2 (rowW M 2 (fun _ => 0)) 1 0 2) 3 (fun _ => 0)) 1 1 3) 4 (fun _ => 0)) 1 2 4) 5 (fun _ => 0)) 1 3 5) 6 (fun _ => 0)) 1 4 6) 1 6 200) 1 7 100)
set_option maxRecDepth 20000 in
set_option maxHeartbeats 4000000 in
theorem TI_X4_init_1 (b : Bs) (M : Mm) : CnI yX4_init cX4_init 1 1 5 64 b 2 M [.ref (b.1 + 1)] 7 (I_X4_init_1 M) := by
  refine CnI_of rfl rfl (Nat.le_of_ble_eq_true rfl) (fun g hC hin => ?_)
  replace hC : Cok g b RX4 cX4_init 1 1 none := hC
  show Y g b 1 _ 0 [(0, .ref (b.1 + 1))] [] 2 M 5 64
  unfold I_X4_init_1
  refine y_aload_n hC dX4_init_0 rfl 0 rfl ?_
  refine y_objInit hC dX4_init_1 rfl ⟨mg tw35 rfl, mg tw28 rfl, mg tw29 rfl⟩ (by decide) (Nat.le_of_ble_eq_true rfl) ?_
  refine y_aload_n hC dX4_init_4 rfl 0 rfl ?_
  refine y_bipush hC dX4_init_5 rfl rfl ?_
  refine y_newI (L := 8) (kc := 4) (ks := 56) hC dX4_init_7 rfl kai rfl (by decide) rfl (by decide) ?_
  refine y_putF (v := 2) hC hin dX4_init_9 rfl fqX4_9 rfl (by decide) rfl rfl rfl ?_
  refine y_aload_n hC dX4_init_12 rfl 0 rfl ?_
  refine y_bipush hC dX4_init_13 rfl rfl ?_
  refine y_newI (L := 8) (kc := 3) (ks := 48) hC dX4_init_15 rfl kai rfl (by decide) rfl (by decide) ?_
  refine y_putF (v := 3) hC hin dX4_init_17 rfl fqX4_15 rfl (by decide) rfl rfl rfl ?_
  refine y_aload_n hC dX4_init_20 rfl 0 rfl ?_
  refine y_bipush hC dX4_init_21 rfl rfl ?_
  refine y_newI (L := 8) (kc := 2) (ks := 40) hC dX4_init_23 rfl kai rfl (by decide) rfl (by decide) ?_
  refine y_putF (v := 4) hC hin dX4_init_25 rfl fqX4_18 rfl (by decide) rfl rfl rfl ?_
  refine y_aload_n hC dX4_init_28 rfl 0 rfl ?_
  refine y_bipush hC dX4_init_29 rfl rfl ?_
  refine y_newI (L := 8) (kc := 1) (ks := 32) hC dX4_init_31 rfl kai rfl (by decide) rfl (by decide) ?_
  refine y_putF (v := 5) hC hin dX4_init_33 rfl fqX4_21 rfl (by decide) rfl rfl rfl ?_
  refine y_aload_n hC dX4_init_36 rfl 0 rfl ?_
  refine y_bipush hC dX4_init_37 rfl rfl ?_
  refine y_newI (L := 32) (kc := 0) (ks := 0) hC dX4_init_39 rfl kai rfl (by decide) rfl (by decide) ?_
  refine y_putF (v := 6) hC hin dX4_init_41 rfl fqX4_24 rfl (by decide) rfl rfl rfl ?_
  refine y_aload_n hC dX4_init_44 rfl 0 rfl ?_
  refine y_sipush hC dX4_init_45 rfl rfl ?_
  refine y_put (v := 200) hC dX4_init_48 rfl fpX4_27 rfl (by decide) rfl rfl rfl ?_
  refine y_aload_n hC dX4_init_51 rfl 0 rfl ?_
  refine y_bipush hC dX4_init_52 rfl rfl ?_
  refine y_put (v := 100) hC dX4_init_54 rfl fpX4_31 rfl (by decide) rfl rfl rfl ?_
  exact y_return hC dX4_init_57
def I_X10_init_7 (M : Mm) : Mm := (upd2 (rowW M 8 (fun _ => 0)) 7 0 8)
set_option maxRecDepth 20000 in
set_option maxHeartbeats 4000000 in
theorem TI_X10_init_7 (b : Bs) (M : Mm) : CnI yX10_init cX10_init 1 1 1 220 b 8 M [.ref (b.1 + 7)] 9 (I_X10_init_7 M) := by
  refine CnI_of rfl rfl (Nat.le_of_ble_eq_true rfl) (fun g hC hin => ?_)
  replace hC : Cok g b RX10 cX10_init 1 1 none := hC
  show Y g b 1 _ 0 [(0, .ref (b.1 + 7))] [] 8 M 1 220
  unfold I_X10_init_7
  refine y_aload_n hC dX10_init_0 rfl 0 rfl ?_
  refine y_objInit hC dX10_init_1 rfl ⟨mg tw74 rfl, mg tw28 rfl, mg tw29 rfl⟩ (by decide) (Nat.le_of_ble_eq_true rfl) ?_
  refine y_aload_n hC dX10_init_4 rfl 0 rfl ?_
  refine y_sipush hC dX10_init_5 rfl rfl ?_
  refine y_newI (L := 220) (kc := 0) (ks := 0) hC dX10_init_8 rfl kai rfl (by decide) rfl (by decide) ?_
  refine y_putF (v := 8) hC hin dX10_init_10 rfl fqX10_9 rfl (by decide) rfl rfl rfl ?_
  exact y_return hC dX10_init_13
def I_X9_init_9 (M : Mm) : Mm := (upd2 (upd2 (upd2 (rowW (upd2 (rowW (upd2 (rowW (upd2 (rowW M 10 (fun _ => 0)) 9 0 10) 11 (fun _ => 0)) 9 1 11) 12 (fun _ => 0)) 9 2 12) 13 (fun _ => 0)) 9 3 13) 9 5 1) 9 6 (-1))
set_option maxRecDepth 20000 in
set_option maxHeartbeats 4000000 in
theorem TI_X9_init_9 (b : Bs) (M : Mm) : CnI yX9_init cX9_init 1 1 4 600 b 10 M [.ref (b.1 + 9)] 14 (I_X9_init_9 M) := by
  refine CnI_of rfl rfl (Nat.le_of_ble_eq_true rfl) (fun g hC hin => ?_)
  replace hC : Cok g b RX9 cX9_init 1 1 none := hC
  show Y g b 1 _ 0 [(0, .ref (b.1 + 9))] [] 10 M 4 600
  unfold I_X9_init_9
  refine y_aload_n hC dX9_init_0 rfl 0 rfl ?_
  refine y_objInit hC dX9_init_1 rfl ⟨mg tw88 rfl, mg tw28 rfl, mg tw29 rfl⟩ (by decide) (Nat.le_of_ble_eq_true rfl) ?_
  refine y_aload_n hC dX9_init_4 rfl 0 rfl ?_
  refine y_sipush hC dX9_init_5 rfl rfl ?_
  refine y_newI (L := 150) (kc := 3) (ks := 450) hC dX9_init_8 rfl kai rfl (by decide) rfl (by decide) ?_
  refine y_putF (v := 10) hC hin dX9_init_10 rfl fqX9_9 rfl (by decide) rfl rfl rfl ?_
  refine y_aload_n hC dX9_init_13 rfl 0 rfl ?_
  refine y_sipush hC dX9_init_14 rfl rfl ?_
  refine y_newI (L := 150) (kc := 2) (ks := 300) hC dX9_init_17 rfl kai rfl (by decide) rfl (by decide) ?_
  refine y_putF (v := 11) hC hin dX9_init_19 rfl fqX9_15 rfl (by decide) rfl rfl rfl ?_
  refine y_aload_n hC dX9_init_22 rfl 0 rfl ?_
  refine y_sipush hC dX9_init_23 rfl rfl ?_
  refine y_newI (L := 150) (kc := 1) (ks := 150) hC dX9_init_26 rfl kai rfl (by decide) rfl (by decide) ?_
  refine y_putF (v := 12) hC hin dX9_init_28 rfl fqX9_18 rfl (by decide) rfl rfl rfl ?_
  refine y_aload_n hC dX9_init_31 rfl 0 rfl ?_
  refine y_sipush hC dX9_init_32 rfl rfl ?_
  refine y_newI (L := 150) (kc := 0) (ks := 0) hC dX9_init_35 rfl kai rfl (by decide) rfl (by decide) ?_
  refine y_putF (v := 13) hC hin dX9_init_37 rfl fqX9_21 rfl (by decide) rfl rfl rfl ?_
  refine y_aload_n hC dX9_init_40 rfl 0 rfl ?_
  refine y_iconst hC dX9_init_41 rfl ?_
  refine y_put (v := 1) hC dX9_init_42 rfl fpX9_24 rfl (by decide) rfl rfl rfl ?_
  refine y_aload_n hC dX9_init_45 rfl 0 rfl ?_
  refine y_iconst hC dX9_init_46 rfl ?_
  refine y_put (v := (-1)) hC dX9_init_47 rfl fpX9_28 rfl (by decide) rfl rfl rfl ?_
  exact y_return hC dX9_init_50
def I_X3_init_14 (M : Mm) : Mm := (upd2 (upd2 (upd2 (upd2 (rowW (upd2 (rowW M 15 (fun _ => 0)) 14 2 15) 16 (fun _ => 0)) 14 3 16) 14 5 (-1)) 14 0 1) 14 1 9)
set_option maxRecDepth 20000 in
set_option maxHeartbeats 4000000 in
theorem TI_X3_init_14 (b : Bs) (M : Mm) : CnI yX3_init cX3_init 3 1 2 300 b 15 M [.ref (b.1 + 14), .ref (b.1 + 1), .ref (b.1 + 9)] 17 (I_X3_init_14 M) := by
  refine CnI_of rfl rfl (Nat.le_of_ble_eq_true rfl) (fun g hC hin => ?_)
  replace hC : Cok g b RX3 cX3_init 3 1 none := hC
  show Y g b 3 _ 0 [(0, .ref (b.1 + 14)), (1, .ref (b.1 + 1)), (2, .ref (b.1 + 9))] [] 15 M 2 300
  unfold I_X3_init_14
  refine y_aload_n hC dX3_init_0 rfl 0 rfl ?_
  refine y_objInit hC dX3_init_1 rfl ⟨mg tw122 rfl, mg tw28 rfl, mg tw29 rfl⟩ (by decide) (Nat.le_of_ble_eq_true rfl) ?_
  refine y_aload_n hC dX3_init_4 rfl 0 rfl ?_
  refine y_sipush hC dX3_init_5 rfl rfl ?_
  refine y_newI (L := 150) (kc := 1) (ks := 150) hC dX3_init_8 rfl kai rfl (by decide) rfl (by decide) ?_
  refine y_putF (v := 15) hC hin dX3_init_10 rfl fqX3_9 rfl (by decide) rfl rfl rfl ?_
  refine y_aload_n hC dX3_init_13 rfl 0 rfl ?_
  refine y_sipush hC dX3_init_14 rfl rfl ?_
  refine y_newI (L := 150) (kc := 0) (ks := 0) hC dX3_init_17 rfl kai rfl (by decide) rfl (by decide) ?_
  refine y_putF (v := 16) hC hin dX3_init_19 rfl fqX3_15 rfl (by decide) rfl rfl rfl ?_
  refine y_aload_n hC dX3_init_22 rfl 0 rfl ?_
  refine y_iconst hC dX3_init_23 rfl ?_
  refine y_put (v := (-1)) hC dX3_init_24 rfl fpX3_18 rfl (by decide) rfl rfl rfl ?_
  refine y_aload_n hC dX3_init_27 rfl 0 rfl ?_
  refine y_aload_n hC dX3_init_28 rfl 1 rfl ?_
  refine y_putF (v := 1) hC hin dX3_init_29 rfl fqX3_22 rfl (by decide) rfl rfl rfl ?_
  refine y_aload_n hC dX3_init_32 rfl 0 rfl ?_
  refine y_aload_n hC dX3_init_33 rfl 2 rfl ?_
  refine y_putF (v := 9) hC hin dX3_init_34 rfl fqX3_26 rfl (by decide) rfl rfl rfl ?_
  exact y_return hC dX3_init_37
def I_X0_init_20 (M : Mm) : Mm := (upd2 (rowW (upd2 (rowW (upd2 (rowW (upd2 (rowW (upd2 (rowW M 21 (fun _ => 0)) 20 0 21) 22 (fun _ => 0)) 20 1 22) 23 (fun _ => 0)) 20 2 23) 24 (fun _ => 0)) 20 3 24) 25 (fun _ => 0)) 20 4 25)
set_option maxRecDepth 20000 in
set_option maxHeartbeats 4000000 in
theorem TI_X0_init_20 (b : Bs) (M : Mm) : CnI yX0_init cX0_init 1 1 5 442 b 21 M [.ref (b.1 + 20)] 26 (I_X0_init_20 M) := by
  refine CnI_of rfl rfl (Nat.le_of_ble_eq_true rfl) (fun g hC hin => ?_)
  replace hC : Cok g b RX0 cX0_init 1 1 none := hC
  show Y g b 1 _ 0 [(0, .ref (b.1 + 20))] [] 21 M 5 442
  unfold I_X0_init_20
  refine y_aload_n hC dX0_init_0 rfl 0 rfl ?_
  refine y_objInit hC dX0_init_1 rfl ⟨mg tw155 rfl, mg tw28 rfl, mg tw29 rfl⟩ (by decide) (Nat.le_of_ble_eq_true rfl) ?_
  refine y_aload_n hC dX0_init_4 rfl 0 rfl ?_
  refine y_sipush hC dX0_init_5 rfl rfl ?_
  refine y_newI (L := 200) (kc := 4) (ks := 242) hC dX0_init_8 rfl kai rfl (by decide) rfl (by decide) ?_
  refine y_putF (v := 21) hC hin dX0_init_10 rfl fqX0_9 rfl (by decide) rfl rfl rfl ?_
  refine y_aload_n hC dX0_init_13 rfl 0 rfl ?_
  refine y_sipush hC dX0_init_14 rfl rfl ?_
  refine y_newI (L := 200) (kc := 3) (ks := 42) hC dX0_init_17 rfl kai rfl (by decide) rfl (by decide) ?_
  refine y_putF (v := 22) hC hin dX0_init_19 rfl fqX0_15 rfl (by decide) rfl rfl rfl ?_
  refine y_aload_n hC dX0_init_22 rfl 0 rfl ?_
  refine y_bipush hC dX0_init_23 rfl rfl ?_
  refine y_newI (L := 14) (kc := 2) (ks := 28) hC dX0_init_25 rfl kai rfl (by decide) rfl (by decide) ?_
  refine y_putF (v := 23) hC hin dX0_init_27 rfl fqX0_18 rfl (by decide) rfl rfl rfl ?_
  refine y_aload_n hC dX0_init_30 rfl 0 rfl ?_
  refine y_bipush hC dX0_init_31 rfl rfl ?_
  refine y_newI (L := 14) (kc := 1) (ks := 14) hC dX0_init_33 rfl kai rfl (by decide) rfl (by decide) ?_
  refine y_putF (v := 24) hC hin dX0_init_35 rfl fqX0_21 rfl (by decide) rfl rfl rfl ?_
  refine y_aload_n hC dX0_init_38 rfl 0 rfl ?_
  refine y_bipush hC dX0_init_39 rfl rfl ?_
  refine y_newI (L := 14) (kc := 0) (ks := 0) hC dX0_init_41 rfl kai rfl (by decide) rfl (by decide) ?_
  refine y_putF (v := 25) hC hin dX0_init_43 rfl fqX0_24 rfl (by decide) rfl rfl rfl ?_
  exact y_return hC dX0_init_46
def I_X0_init_26 (M : Mm) : Mm := (upd2 (rowW (upd2 (rowW (upd2 (rowW (upd2 (rowW (upd2 (rowW M 27 (fun _ => 0)) 26 0 27) 28 (fun _ => 0)) 26 1 28) 29 (fun _ => 0)) 26 2 29) 30 (fun _ => 0)) 26 3 30) 31 (fun _ => 0)) 26 4 31)
set_option maxRecDepth 20000 in
set_option maxHeartbeats 4000000 in
theorem TI_X0_init_26 (b : Bs) (M : Mm) : CnI yX0_init cX0_init 1 1 5 442 b 27 M [.ref (b.1 + 26)] 32 (I_X0_init_26 M) := by
  refine CnI_of rfl rfl (Nat.le_of_ble_eq_true rfl) (fun g hC hin => ?_)
  replace hC : Cok g b RX0 cX0_init 1 1 none := hC
  show Y g b 1 _ 0 [(0, .ref (b.1 + 26))] [] 27 M 5 442
  unfold I_X0_init_26
  refine y_aload_n hC dX0_init_0 rfl 0 rfl ?_
  refine y_objInit hC dX0_init_1 rfl ⟨mg tw155 rfl, mg tw28 rfl, mg tw29 rfl⟩ (by decide) (Nat.le_of_ble_eq_true rfl) ?_
  refine y_aload_n hC dX0_init_4 rfl 0 rfl ?_
  refine y_sipush hC dX0_init_5 rfl rfl ?_
  refine y_newI (L := 200) (kc := 4) (ks := 242) hC dX0_init_8 rfl kai rfl (by decide) rfl (by decide) ?_
  refine y_putF (v := 27) hC hin dX0_init_10 rfl fqX0_9 rfl (by decide) rfl rfl rfl ?_
  refine y_aload_n hC dX0_init_13 rfl 0 rfl ?_
  refine y_sipush hC dX0_init_14 rfl rfl ?_
  refine y_newI (L := 200) (kc := 3) (ks := 42) hC dX0_init_17 rfl kai rfl (by decide) rfl (by decide) ?_
  refine y_putF (v := 28) hC hin dX0_init_19 rfl fqX0_15 rfl (by decide) rfl rfl rfl ?_
  refine y_aload_n hC dX0_init_22 rfl 0 rfl ?_
  refine y_bipush hC dX0_init_23 rfl rfl ?_
  refine y_newI (L := 14) (kc := 2) (ks := 28) hC dX0_init_25 rfl kai rfl (by decide) rfl (by decide) ?_
  refine y_putF (v := 29) hC hin dX0_init_27 rfl fqX0_18 rfl (by decide) rfl rfl rfl ?_
  refine y_aload_n hC dX0_init_30 rfl 0 rfl ?_
  refine y_bipush hC dX0_init_31 rfl rfl ?_
  refine y_newI (L := 14) (kc := 1) (ks := 14) hC dX0_init_33 rfl kai rfl (by decide) rfl (by decide) ?_
  refine y_putF (v := 30) hC hin dX0_init_35 rfl fqX0_21 rfl (by decide) rfl rfl rfl ?_
  refine y_aload_n hC dX0_init_38 rfl 0 rfl ?_
  refine y_bipush hC dX0_init_39 rfl rfl ?_
  refine y_newI (L := 14) (kc := 0) (ks := 0) hC dX0_init_41 rfl kai rfl (by decide) rfl (by decide) ?_
  refine y_putF (v := 31) hC hin dX0_init_43 rfl fqX0_24 rfl (by decide) rfl rfl rfl ?_
  exact y_return hC dX0_init_46
def I_X7_init_17 (M : Mm) : Mm := (upd2 (upd2 (I_X0_init_26 (rowW (upd2 (I_X0_init_20 (rowW (upd2 (rowW (upd2 (rowW M 18 (fun _ => 0)) 17 1 18) 19 (fun _ => 0)) 17 2 19) 20 (dflO 0))) 17 3 20) 26 (dflO 0))) 17 4 26) 17 0 1)
set_option maxRecDepth 20000 in
set_option maxHeartbeats 4000000 in
theorem TI_X7_init_17 (b : Bs) (M : Mm) : CnI yX7_init cX7_init 2 2 14 934 b 18 M [.ref (b.1 + 17), .ref (b.1 + 1)] 32 (I_X7_init_17 M) := by
  refine CnI_of rfl rfl (Nat.le_of_ble_eq_true rfl) (fun g hC hin => ?_)
  replace hC : Cok g b RX7 cX7_init 2 2 none := hC
  show Y g b 2 _ 0 [(0, .ref (b.1 + 17)), (1, .ref (b.1 + 1))] [] 18 M 14 934
  unfold I_X7_init_17
  refine y_aload_n hC dX7_init_0 rfl 0 rfl ?_
  refine y_objInit hC dX7_init_1 rfl ⟨mg tw149 rfl, mg tw28 rfl, mg tw29 rfl⟩ (by decide) (Nat.le_of_ble_eq_true rfl) ?_
  refine y_aload_n hC dX7_init_4 rfl 0 rfl ?_
  refine y_bipush hC dX7_init_5 rfl rfl ?_
  refine y_newI (L := 10) (kc := 13) (ks := 924) hC dX7_init_7 rfl kai rfl (by decide) rfl (by decide) ?_
  refine y_putF (v := 18) hC hin dX7_init_9 rfl fqX7_9 rfl (by decide) rfl rfl rfl ?_
  refine y_aload_n hC dX7_init_12 rfl 0 rfl ?_
  refine y_bipush hC dX7_init_13 rfl rfl ?_
  refine y_newI (L := 24) (kc := 12) (ks := 900) hC dX7_init_15 rfl kai rfl (by decide) rfl (by decide) ?_
  refine y_putF (v := 19) hC hin dX7_init_17 rfl fqX7_15 rfl (by decide) rfl rfl rfl ?_
  refine y_aload_n hC dX7_init_20 rfl 0 rfl ?_
  refine y_new (kc := 11) (ks := 892) hC dX7_init_21 rfl clsX0 rfl ⟨mg tw150 rfl, mg tw151 rfl, mg tw7 rfl⟩ (dfX0 b) ?_
  refine y_dup hC dX7_init_24 rfl rfl ?_
  refine y_init (k := 20) (As := []) (rest := [.ref (b.1 + 20), .ref (b.1 + 17)]) (kc := 6) (ks := 450) hC dX7_init_25 rfl (TI_X0_init_20 b _) iiX7_20 rfl rfl (Nat.le_of_ble_eq_true rfl) (by decide) (by decide) ?_
  refine y_put (v := 20) hC dX7_init_28 rfl fpX7_21 rfl (by decide) rfl rfl rfl ?_
  refine y_aload_n hC dX7_init_31 rfl 0 rfl ?_
  refine y_new (kc := 5) (ks := 442) hC dX7_init_32 rfl clsX0 rfl ⟨mg tw150 rfl, mg tw151 rfl, mg tw7 rfl⟩ (dfX0 b) ?_
  refine y_dup hC dX7_init_35 rfl rfl ?_
  refine y_init (k := 26) (As := []) (rest := [.ref (b.1 + 26), .ref (b.1 + 17)]) (kc := 0) (ks := 0) hC dX7_init_36 rfl (TI_X0_init_26 b _) iiX7_20 rfl rfl (Nat.le_of_ble_eq_true rfl) (by decide) (by decide) ?_
  refine y_put (v := 26) hC dX7_init_39 rfl fpX7_25 rfl (by decide) rfl rfl rfl ?_
  refine y_aload_n hC dX7_init_42 rfl 0 rfl ?_
  refine y_aload_n hC dX7_init_43 rfl 1 rfl ?_
  refine y_putF (v := 1) hC hin dX7_init_44 rfl fqX7_28 rfl (by decide) rfl rfl rfl ?_
  exact y_return hC dX7_init_47
def I_X2_init_32 (M : Mm) : Mm := (upd2 (upd2 (rowW M 33 (fun _ => 0)) 32 0 33) 32 1 26)
set_option maxRecDepth 20000 in
set_option maxHeartbeats 4000000 in
theorem TI_X2_init_32 (b : Bs) (M : Mm) : CnI yX2_init cX2_init 2 1 1 200 b 33 M [.ref (b.1 + 32), .ref (b.1 + 26)] 34 (I_X2_init_32 M) := by
  refine CnI_of rfl rfl (Nat.le_of_ble_eq_true rfl) (fun g hC hin => ?_)
  replace hC : Cok g b RX2 cX2_init 2 1 none := hC
  show Y g b 2 _ 0 [(0, .ref (b.1 + 32)), (1, .ref (b.1 + 26))] [] 33 M 1 200
  unfold I_X2_init_32
  refine y_aload_n hC dX2_init_0 rfl 0 rfl ?_
  refine y_objInit hC dX2_init_1 rfl ⟨mg tw215 rfl, mg tw28 rfl, mg tw29 rfl⟩ (by decide) (Nat.le_of_ble_eq_true rfl) ?_
  refine y_aload_n hC dX2_init_4 rfl 0 rfl ?_
  refine y_sipush hC dX2_init_5 rfl rfl ?_
  refine y_newI (L := 200) (kc := 0) (ks := 0) hC dX2_init_8 rfl kai rfl (by decide) rfl (by decide) ?_
  refine y_putF (v := 33) hC hin dX2_init_10 rfl fqX2_9 rfl (by decide) rfl rfl rfl ?_
  refine y_aload_n hC dX2_init_13 rfl 0 rfl ?_
  refine y_aload_n hC dX2_init_14 rfl 1 rfl ?_
  refine y_put (v := 26) hC dX2_init_15 rfl fpX2_15 rfl (by decide) rfl rfl rfl ?_
  exact y_return hC dX2_init_18
def I_X5_init_34 (M : Mm) : Mm := (upd2 (upd2 (upd2 (rowW (upd2 (rowW (upd2 (rowW (upd2 (rowW (upd2 (rowW (upd2 (rowW (upd2 (rowW (upd2 (rowW M 35 (fun _ => 0)) 34 2 35) 36 (fun _ => 0)) 34 3 36) 37 (fun _ => 0)) 34 4 37) 38 (fun _ => 0)) 34 5 38) 39 (fun _ => 0)) 34 6 39) 40 (fun _ => 0)) 34 7 40) 41 (fun _ => 0)) 34 8 41) 42 (fun _ => 0)) 34 9 42) 34 0 1) 34 1 17)
set_option maxRecDepth 20000 in
set_option maxHeartbeats 4000000 in
theorem TI_X5_init_34 (b : Bs) (M : Mm) : CnI yX5_init cX5_init 3 1 8 177 b 35 M [.ref (b.1 + 34), .ref (b.1 + 1), .ref (b.1 + 17)] 43 (I_X5_init_34 M) := by
  refine CnI_of rfl rfl (Nat.le_of_ble_eq_true rfl) (fun g hC hin => ?_)
  replace hC : Cok g b RX5 cX5_init 3 1 none := hC
  show Y g b 3 _ 0 [(0, .ref (b.1 + 34)), (1, .ref (b.1 + 1)), (2, .ref (b.1 + 17))] [] 35 M 8 177
  unfold I_X5_init_34
  refine y_aload_n hC dX5_init_0 rfl 0 rfl ?_
  refine y_objInit hC dX5_init_1 rfl ⟨mg tw240 rfl, mg tw28 rfl, mg tw29 rfl⟩ (by decide) (Nat.le_of_ble_eq_true rfl) ?_
  refine y_aload_n hC dX5_init_4 rfl 0 rfl ?_
  refine y_bipush hC dX5_init_5 rfl rfl ?_
  refine y_newI (L := 12) (kc := 7) (ks := 165) hC dX5_init_7 rfl kai rfl (by decide) rfl (by decide) ?_
  refine y_putF (v := 35) hC hin dX5_init_9 rfl fqX5_9 rfl (by decide) rfl rfl rfl ?_
  refine y_aload_n hC dX5_init_12 rfl 0 rfl ?_
  refine y_bipush hC dX5_init_13 rfl rfl ?_
  refine y_newI (L := 12) (kc := 6) (ks := 153) hC dX5_init_15 rfl kai rfl (by decide) rfl (by decide) ?_
  refine y_putF (v := 36) hC hin dX5_init_17 rfl fqX5_15 rfl (by decide) rfl rfl rfl ?_
  refine y_aload_n hC dX5_init_20 rfl 0 rfl ?_
  refine y_bipush hC dX5_init_21 rfl rfl ?_
  refine y_newI (L := 108) (kc := 5) (ks := 45) hC dX5_init_23 rfl kai rfl (by decide) rfl (by decide) ?_
  refine y_putF (v := 37) hC hin dX5_init_25 rfl fqX5_18 rfl (by decide) rfl rfl rfl ?_
  refine y_aload_n hC dX5_init_28 rfl 0 rfl ?_
  refine y_bipush hC dX5_init_29 rfl rfl ?_
  refine y_newI (L := 12) (kc := 4) (ks := 33) hC dX5_init_31 rfl kai rfl (by decide) rfl (by decide) ?_
  refine y_putF (v := 38) hC hin dX5_init_33 rfl fqX5_21 rfl (by decide) rfl rfl rfl ?_
  refine y_aload_n hC dX5_init_36 rfl 0 rfl ?_
  refine y_iconst hC dX5_init_37 rfl ?_
  refine y_newI (L := 3) (kc := 3) (ks := 30) hC dX5_init_38 rfl kai rfl (by decide) rfl (by decide) ?_
  refine y_putF (v := 39) hC hin dX5_init_40 rfl fqX5_24 rfl (by decide) rfl rfl rfl ?_
  refine y_aload_n hC dX5_init_43 rfl 0 rfl ?_
  refine y_bipush hC dX5_init_44 rfl rfl ?_
  refine y_newZ (L := 12) (kc := 2) (ks := 18) hC dX5_init_46 rfl kaz rfl (by decide) rfl (by decide) ?_
  refine y_putF (v := 40) hC hin dX5_init_48 rfl fqX5_27 rfl (by decide) rfl rfl rfl ?_
  refine y_aload_n hC dX5_init_51 rfl 0 rfl ?_
  refine y_bipush hC dX5_init_52 rfl rfl ?_
  refine y_newL (L := 9) (kc := 1) (ks := 9) hC dX5_init_54 rfl kal rfl (by decide) rfl (by decide) ?_
  refine y_put (v := 41) hC dX5_init_56 rfl fpX5_31 rfl (by decide) rfl rfl rfl ?_
  refine y_aload_n hC dX5_init_59 rfl 0 rfl ?_
  refine y_bipush hC dX5_init_60 rfl rfl ?_
  refine y_newL (L := 9) (kc := 0) (ks := 0) hC dX5_init_62 rfl kal rfl (by decide) rfl (by decide) ?_
  refine y_put (v := 42) hC dX5_init_64 rfl fpX5_35 rfl (by decide) rfl rfl rfl ?_
  refine y_aload_n hC dX5_init_67 rfl 0 rfl ?_
  refine y_aload_n hC dX5_init_68 rfl 1 rfl ?_
  refine y_putF (v := 1) hC hin dX5_init_69 rfl fqX5_38 rfl (by decide) rfl rfl rfl ?_
  refine y_aload_n hC dX5_init_72 rfl 0 rfl ?_
  refine y_aload_n hC dX5_init_73 rfl 2 rfl ?_
  refine y_putF (v := 17) hC hin dX5_init_74 rfl fqX5_42 rfl (by decide) rfl rfl rfl ?_
  exact y_return hC dX5_init_77
def I_X1_init_43 (M : Mm) : Mm := (upd2 (upd2 (upd2 (rowW (upd2 (rowW (upd2 (rowW (upd2 (rowW (upd2 (rowW (upd2 (rowW (upd2 (rowW (upd2 (rowW M 44 (fun _ => 0)) 43 2 44) 45 (fun _ => 0)) 43 3 45) 46 (fun _ => 0)) 43 4 46) 47 (fun _ => 0)) 43 5 47) 48 (fun _ => 0)) 43 6 48) 49 (fun _ => 0)) 43 7 49) 50 (fun _ => 0)) 43 8 50) 51 (fun _ => 0)) 43 9 51) 43 0 1) 43 1 17)
set_option maxRecDepth 20000 in
set_option maxHeartbeats 4000000 in
theorem TI_X1_init_43 (b : Bs) (M : Mm) : CnI yX1_init cX1_init 3 1 8 1564 b 44 M [.ref (b.1 + 43), .ref (b.1 + 1), .ref (b.1 + 17)] 52 (I_X1_init_43 M) := by
  refine CnI_of rfl rfl (Nat.le_of_ble_eq_true rfl) (fun g hC hin => ?_)
  replace hC : Cok g b RX1 cX1_init 3 1 none := hC
  show Y g b 3 _ 0 [(0, .ref (b.1 + 43)), (1, .ref (b.1 + 1)), (2, .ref (b.1 + 17))] [] 44 M 8 1564
  unfold I_X1_init_43
  refine y_aload_n hC dX1_init_0 rfl 0 rfl ?_
  refine y_objInit hC dX1_init_1 rfl ⟨mg tw294 rfl, mg tw28 rfl, mg tw29 rfl⟩ (by decide) (Nat.le_of_ble_eq_true rfl) ?_
  refine y_aload_n hC dX1_init_4 rfl 0 rfl ?_
  refine y_iconst hC dX1_init_5 rfl ?_
  refine y_newI (L := 4) (kc := 7) (ks := 1560) hC dX1_init_6 rfl kai rfl (by decide) rfl (by decide) ?_
  refine y_putF (v := 44) hC hin dX1_init_8 rfl fqX1_11 rfl (by decide) rfl rfl rfl ?_
  refine y_aload_n hC dX1_init_11 rfl 0 rfl ?_
  refine y_sipush hC dX1_init_12 rfl rfl ?_
  refine y_newI (L := 1344) (kc := 6) (ks := 216) hC dX1_init_15 rfl kai rfl (by decide) rfl (by decide) ?_
  refine y_putF (v := 45) hC hin dX1_init_17 rfl fqX1_15 rfl (by decide) rfl rfl rfl ?_
  refine y_aload_n hC dX1_init_20 rfl 0 rfl ?_
  refine y_bipush hC dX1_init_21 rfl rfl ?_
  refine y_newZ (L := 84) (kc := 5) (ks := 132) hC dX1_init_23 rfl kaz rfl (by decide) rfl (by decide) ?_
  refine y_putF (v := 46) hC hin dX1_init_25 rfl fqX1_18 rfl (by decide) rfl rfl rfl ?_
  refine y_aload_n hC dX1_init_28 rfl 0 rfl ?_
  refine y_bipush hC dX1_init_29 rfl rfl ?_
  refine y_newI (L := 84) (kc := 4) (ks := 48) hC dX1_init_31 rfl kai rfl (by decide) rfl (by decide) ?_
  refine y_putF (v := 47) hC hin dX1_init_33 rfl fqX1_22 rfl (by decide) rfl rfl rfl ?_
  refine y_aload_n hC dX1_init_36 rfl 0 rfl ?_
  refine y_bipush hC dX1_init_37 rfl rfl ?_
  refine y_newI (L := 16) (kc := 3) (ks := 32) hC dX1_init_39 rfl kai rfl (by decide) rfl (by decide) ?_
  refine y_putF (v := 48) hC hin dX1_init_41 rfl fqX1_25 rfl (by decide) rfl rfl rfl ?_
  refine y_aload_n hC dX1_init_44 rfl 0 rfl ?_
  refine y_bipush hC dX1_init_45 rfl rfl ?_
  refine y_newI (L := 16) (kc := 2) (ks := 16) hC dX1_init_47 rfl kai rfl (by decide) rfl (by decide) ?_
  refine y_putF (v := 49) hC hin dX1_init_49 rfl fqX1_28 rfl (by decide) rfl rfl rfl ?_
  refine y_aload_n hC dX1_init_52 rfl 0 rfl ?_
  refine y_bipush hC dX1_init_53 rfl rfl ?_
  refine y_newI (L := 16) (kc := 1) (ks := 0) hC dX1_init_55 rfl kai rfl (by decide) rfl (by decide) ?_
  refine y_putF (v := 50) hC hin dX1_init_57 rfl fqX1_31 rfl (by decide) rfl rfl rfl ?_
  refine y_aload_n hC dX1_init_60 rfl 0 rfl ?_
  refine y_iconst hC dX1_init_61 rfl ?_
  refine y_newI (L := 0) (kc := 0) (ks := 0) hC dX1_init_62 rfl kai rfl (by decide) rfl (by decide) ?_
  refine y_put (v := 51) hC dX1_init_64 rfl fpX1_34 rfl (by decide) rfl rfl rfl ?_
  refine y_aload_n hC dX1_init_67 rfl 0 rfl ?_
  refine y_aload_n hC dX1_init_68 rfl 1 rfl ?_
  refine y_putF (v := 1) hC hin dX1_init_69 rfl fqX1_37 rfl (by decide) rfl rfl rfl ?_
  refine y_aload_n hC dX1_init_72 rfl 0 rfl ?_
  refine y_aload_n hC dX1_init_73 rfl 2 rfl ?_
  refine y_putF (v := 17) hC hin dX1_init_74 rfl fqX1_41 rfl (by decide) rfl rfl rfl ?_
  exact y_return hC dX1_init_77
def I_X6_init_52 (M : Mm) : Mm := (upd2 (upd2 (upd2 (rowW M 53 (fun _ => 0)) 52 2 53) 52 0 1) 52 1 17)
set_option maxRecDepth 20000 in
set_option maxHeartbeats 4000000 in
theorem TI_X6_init_52 (b : Bs) (M : Mm) : CnI yX6_init cX6_init 3 1 1 8 b 53 M [.ref (b.1 + 52), .ref (b.1 + 1), .ref (b.1 + 17)] 54 (I_X6_init_52 M) := by
  refine CnI_of rfl rfl (Nat.le_of_ble_eq_true rfl) (fun g hC hin => ?_)
  replace hC : Cok g b RX6 cX6_init 3 1 none := hC
  show Y g b 3 _ 0 [(0, .ref (b.1 + 52)), (1, .ref (b.1 + 1)), (2, .ref (b.1 + 17))] [] 53 M 1 8
  unfold I_X6_init_52
  refine y_aload_n hC dX6_init_0 rfl 0 rfl ?_
  refine y_objInit hC dX6_init_1 rfl ⟨mg tw347 rfl, mg tw28 rfl, mg tw29 rfl⟩ (by decide) (Nat.le_of_ble_eq_true rfl) ?_
  refine y_aload_n hC dX6_init_4 rfl 0 rfl ?_
  refine y_bipush hC dX6_init_5 rfl rfl ?_
  refine y_newI (L := 8) (kc := 0) (ks := 0) hC dX6_init_7 rfl kai rfl (by decide) rfl (by decide) ?_
  refine y_putF (v := 53) hC hin dX6_init_9 rfl fqX6_9 rfl (by decide) rfl rfl rfl ?_
  refine y_aload_n hC dX6_init_12 rfl 0 rfl ?_
  refine y_aload_n hC dX6_init_13 rfl 1 rfl ?_
  refine y_putF (v := 1) hC hin dX6_init_14 rfl fqX6_15 rfl (by decide) rfl rfl rfl ?_
  refine y_aload_n hC dX6_init_17 rfl 0 rfl ?_
  refine y_aload_n hC dX6_init_18 rfl 2 rfl ?_
  refine y_putF (v := 17) hC hin dX6_init_19 rfl fqX6_19 rfl (by decide) rfl rfl rfl ?_
  exact y_return hC dX6_init_22
def I_X11_init_0 (M : Mm) : Mm := (upd2 (I_X6_init_52 (rowW (upd2 (I_X1_init_43 (rowW (upd2 (I_X5_init_34 (rowW (upd2 (I_X2_init_32 (rowW (upd2 (I_X7_init_17 (rowW (upd2 (I_X3_init_14 (rowW (upd2 (I_X9_init_9 (rowW (upd2 (I_X10_init_7 (rowW (upd2 (I_X4_init_1 (rowW M 1 (dflO 4))) 0 0 1) 7 (dflO 9))) 0 1 7) 9 (dflO 8))) 0 2 9) 14 (dflO 3))) 0 3 14) 17 (dflO 7))) 0 4 17) 32 (dflO 2))) 0 5 32) 34 (dflO 5))) 0 6 34) 43 (dflO 1))) 0 7 43) 52 (dflO 6))) 0 8 52)
set_option maxRecDepth 20000 in
set_option maxHeartbeats 4000000 in
theorem TI_X11_init_0 (b : Bs) (M : Mm) : CnI yX11_init cX11_init 1 3 53 4142 b 1 M [.ref (b.1 + 0)] 54 (I_X11_init_0 M) := by
  refine CnI_of rfl rfl (Nat.le_of_ble_eq_true rfl) (fun g hC hin => ?_)
  replace hC : Cok g b RX11 cX11_init 1 3 none := hC
  show Y g b 1 _ 0 [(0, .ref (b.1 + 0))] [] 1 M 53 4142
  unfold I_X11_init_0
  refine y_aload_n hC dX11_init_0 rfl 0 rfl ?_
  refine y_objInit hC dX11_init_1 rfl ⟨mg tw27 rfl, mg tw28 rfl, mg tw29 rfl⟩ (by decide) (Nat.le_of_ble_eq_true rfl) ?_
  refine y_aload_n hC dX11_init_4 rfl 0 rfl ?_
  refine y_new (kc := 52) (ks := 4134) hC dX11_init_5 rfl clsX4 rfl ⟨mg tw30 rfl, mg tw31 rfl, mg tw2 rfl⟩ (dfX4 b) ?_
  refine y_dup hC dX11_init_8 rfl rfl ?_
  refine y_init (k := 1) (As := []) (rest := [.ref (b.1 + 1), .ref (b.1 + 0)]) (kc := 47) (ks := 4070) hC dX11_init_9 rfl (TI_X4_init_1 b _) iiX11_9 rfl rfl (Nat.le_of_ble_eq_true rfl) (by decide) (by decide) ?_
  refine y_putF (v := 1) hC hin dX11_init_12 rfl fqX11_10 rfl (by decide) rfl rfl rfl ?_
  refine y_aload_n hC dX11_init_15 rfl 0 rfl ?_
  refine y_new (kc := 46) (ks := 4068) hC dX11_init_16 rfl clsX10 rfl ⟨mg tw69 rfl, mg tw70 rfl, mg tw3 rfl⟩ (dfX10 b) ?_
  refine y_dup hC dX11_init_19 rfl rfl ?_
  refine y_init (k := 7) (As := []) (rest := [.ref (b.1 + 7), .ref (b.1 + 0)]) (kc := 45) (ks := 3848) hC dX11_init_20 rfl (TI_X10_init_7 b _) iiX11_18 rfl rfl (Nat.le_of_ble_eq_true rfl) (by decide) (by decide) ?_
  refine y_putF (v := 7) hC hin dX11_init_23 rfl fqX11_19 rfl (by decide) rfl rfl rfl ?_
  refine y_aload_n hC dX11_init_26 rfl 0 rfl ?_
  refine y_new (kc := 44) (ks := 3840) hC dX11_init_27 rfl clsX9 rfl ⟨mg tw83 rfl, mg tw84 rfl, mg tw4 rfl⟩ (dfX9 b) ?_
  refine y_dup hC dX11_init_30 rfl rfl ?_
  refine y_init (k := 9) (As := []) (rest := [.ref (b.1 + 9), .ref (b.1 + 0)]) (kc := 40) (ks := 3240) hC dX11_init_31 rfl (TI_X9_init_9 b _) iiX11_25 rfl rfl (Nat.le_of_ble_eq_true rfl) (by decide) (by decide) ?_
  refine y_putF (v := 9) hC hin dX11_init_34 rfl fqX11_26 rfl (by decide) rfl rfl rfl ?_
  refine y_aload_n hC dX11_init_37 rfl 0 rfl ?_
  refine y_new (kc := 39) (ks := 3234) hC dX11_init_38 rfl clsX3 rfl ⟨mg tw117 rfl, mg tw118 rfl, mg tw5 rfl⟩ (dfX3 b) ?_
  refine y_dup hC dX11_init_41 rfl rfl ?_
  refine y_aload_n hC dX11_init_42 rfl 0 rfl ?_
  refine y_getR (t := 1) hC dX11_init_43 rfl flX11_10 rfl (by decide) rfl ?_
  refine y_aload_n hC dX11_init_46 rfl 0 rfl ?_
  refine y_getR (t := 9) hC dX11_init_47 rfl flX11_26 rfl (by decide) rfl ?_
  refine y_init (k := 14) (As := [.ref (b.1 + 1), .ref (b.1 + 9)]) (rest := [.ref (b.1 + 14), .ref (b.1 + 0)]) (kc := 37) (ks := 2934) hC dX11_init_50 rfl (TI_X3_init_14 b _) iiX11_32 rfl rfl (Nat.le_of_ble_eq_true rfl) (by decide) (by decide) ?_
  refine y_putF (v := 14) hC hin dX11_init_53 rfl fqX11_35 rfl (by decide) rfl rfl rfl ?_
  refine y_aload_n hC dX11_init_56 rfl 0 rfl ?_
  refine y_new (kc := 36) (ks := 2928) hC dX11_init_57 rfl clsX7 rfl ⟨mg tw144 rfl, mg tw145 rfl, mg tw6 rfl⟩ (dfX7 b) ?_
  refine y_dup hC dX11_init_60 rfl rfl ?_
  refine y_aload_n hC dX11_init_61 rfl 0 rfl ?_
  refine y_getR (t := 1) hC dX11_init_62 rfl flX11_10 rfl (by decide) rfl ?_
  refine y_init (k := 17) (As := [.ref (b.1 + 1)]) (rest := [.ref (b.1 + 17), .ref (b.1 + 0)]) (kc := 22) (ks := 1994) hC dX11_init_65 rfl (TI_X7_init_17 b _) iiX11_41 rfl rfl (Nat.le_of_ble_eq_true rfl) (by decide) (by decide) ?_
  refine y_putF (v := 17) hC hin dX11_init_68 rfl fqX11_44 rfl (by decide) rfl rfl rfl ?_
  refine y_aload_n hC dX11_init_71 rfl 0 rfl ?_
  refine y_new (kc := 21) (ks := 1988) hC dX11_init_72 rfl clsX2 rfl ⟨mg tw210 rfl, mg tw211 rfl, mg tw8 rfl⟩ (dfX2 b) ?_
  refine y_dup hC dX11_init_75 rfl rfl ?_
  refine y_aload_n hC dX11_init_76 rfl 0 rfl ?_
  refine y_getR (t := 17) hC dX11_init_77 rfl flX11_44 rfl (by decide) rfl ?_
  refine y_getR (t := 26) hC dX11_init_80 rfl flX11_50 rfl (by decide) rfl ?_
  refine y_init (k := 32) (As := [.ref (b.1 + 26)]) (rest := [.ref (b.1 + 32), .ref (b.1 + 0)]) (kc := 20) (ks := 1788) hC dX11_init_83 rfl (TI_X2_init_32 b _) iiX11_54 rfl rfl (Nat.le_of_ble_eq_true rfl) (by decide) (by decide) ?_
  refine y_putF (v := 32) hC hin dX11_init_86 rfl fqX11_57 rfl (by decide) rfl rfl rfl ?_
  refine y_aload_n hC dX11_init_89 rfl 0 rfl ?_
  refine y_new (kc := 19) (ks := 1773) hC dX11_init_90 rfl clsX5 rfl ⟨mg tw235 rfl, mg tw236 rfl, mg tw9 rfl⟩ (dfX5 b) ?_
  refine y_dup hC dX11_init_93 rfl rfl ?_
  refine y_aload_n hC dX11_init_94 rfl 0 rfl ?_
  refine y_getR (t := 1) hC dX11_init_95 rfl flX11_10 rfl (by decide) rfl ?_
  refine y_aload_n hC dX11_init_98 rfl 0 rfl ?_
  refine y_getR (t := 17) hC dX11_init_99 rfl flX11_44 rfl (by decide) rfl ?_
  refine y_init (k := 34) (As := [.ref (b.1 + 1), .ref (b.1 + 17)]) (rest := [.ref (b.1 + 34), .ref (b.1 + 0)]) (kc := 11) (ks := 1596) hC dX11_init_102 rfl (TI_X5_init_34 b _) iiX11_63 rfl rfl (Nat.le_of_ble_eq_true rfl) (by decide) (by decide) ?_
  refine y_putF (v := 34) hC hin dX11_init_105 rfl fqX11_66 rfl (by decide) rfl rfl rfl ?_
  refine y_aload_n hC dX11_init_108 rfl 0 rfl ?_
  refine y_new (kc := 10) (ks := 1581) hC dX11_init_109 rfl clsX1 rfl ⟨mg tw289 rfl, mg tw290 rfl, mg tw10 rfl⟩ (dfX1 b) ?_
  refine y_dup hC dX11_init_112 rfl rfl ?_
  refine y_aload_n hC dX11_init_113 rfl 0 rfl ?_
  refine y_getR (t := 1) hC dX11_init_114 rfl flX11_10 rfl (by decide) rfl ?_
  refine y_aload_n hC dX11_init_117 rfl 0 rfl ?_
  refine y_getR (t := 17) hC dX11_init_118 rfl flX11_44 rfl (by decide) rfl ?_
  refine y_init (k := 43) (As := [.ref (b.1 + 1), .ref (b.1 + 17)]) (rest := [.ref (b.1 + 43), .ref (b.1 + 0)]) (kc := 2) (ks := 17) hC dX11_init_121 rfl (TI_X1_init_43 b _) iiX11_72 rfl rfl (Nat.le_of_ble_eq_true rfl) (by decide) (by decide) ?_
  refine y_putF (v := 43) hC hin dX11_init_124 rfl fqX11_73 rfl (by decide) rfl rfl rfl ?_
  refine y_aload_n hC dX11_init_127 rfl 0 rfl ?_
  refine y_new (kc := 1) (ks := 8) hC dX11_init_128 rfl clsX6 rfl ⟨mg tw342 rfl, mg tw343 rfl, mg tw11 rfl⟩ (dfX6 b) ?_
  refine y_dup hC dX11_init_131 rfl rfl ?_
  refine y_aload_n hC dX11_init_132 rfl 0 rfl ?_
  refine y_getR (t := 1) hC dX11_init_133 rfl flX11_10 rfl (by decide) rfl ?_
  refine y_aload_n hC dX11_init_136 rfl 0 rfl ?_
  refine y_getR (t := 17) hC dX11_init_137 rfl flX11_44 rfl (by decide) rfl ?_
  refine y_init (k := 52) (As := [.ref (b.1 + 1), .ref (b.1 + 17)]) (rest := [.ref (b.1 + 52), .ref (b.1 + 0)]) (kc := 0) (ks := 0) hC dX11_init_140 rfl (TI_X6_init_52 b _) iiX11_79 rfl rfl (Nat.le_of_ble_eq_true rfl) (by decide) (by decide) ?_
  refine y_putF (v := 52) hC hin dX11_init_143 rfl fqX11_80 rfl (by decide) rfl rfl rfl ?_
  exact y_return hC dX11_init_146
def I_X12_init_54 (M : Mm) : Mm := (upd2 (rowW (upd2 (rowW (upd2 (rowW (upd2 (rowW (upd2 (rowW (upd2 (rowW (upd2 (rowW (upd2 (rowW (upd2 (rowW (upd2 (rowW (upd2 (rowW (upd2 (rowW (upd2 (rowW (upd2 (rowW (upd2 (rowW (upd2 (rowW (upd2 (rowW (upd2 (rowW (upd2 (rowW (upd2 (rowW (upd2 (rowW (upd2 (rowW (upd2 (rowW (upd2 (rowW (upd2 (rowW (upd2 (rowW (upd2 (rowW (upd2 (rowW (upd2 (rowW (upd2 (rowW (upd2 (rowW (upd2 (rowW (upd2 (rowW (upd2 (rowW (upd2 (rowW (upd2 (rowW (upd2 (rowW (upd2 (rowW (upd2 (rowW (upd2 (upd2 (upd2 (upd2 (rowW M 55 (fun _ => 0)) 54 0 55) 54 3 200) 54 4 100) 54 6 1) 56 (fun _ => 0)) 54 7 56) 57 (fun _ => 0)) 54 8 57) 58 (fun _ => 0)) 54 9 58) 59 (fun _ => 0)) 54 10 59) 60 (fun _ => 0)) 54 11 60) 61 (fun _ => 0)) 54 12 61) 62 (fun _ => 0)) 54 13 62) 63 (fun _ => 0)) 54 15 63) 64 (fun _ => 0)) 54 16 64) 65 (fun _ => 0)) 54 17 65) 66 (fun _ => 0)) 54 18 66) 67 (fun _ => 0)) 54 19 67) 68 (fun _ => 0)) 54 20 68) 69 (fun _ => 0)) 54 21 69) 70 (fun _ => 0)) 54 22 70) 71 (fun _ => 0)) 54 23 71) 72 (fun _ => 0)) 54 24 72) 73 (fun _ => 0)) 54 25 73) 74 (fun _ => 0)) 54 26 74) 75 (fun _ => 0)) 54 36 75) 76 (fun _ => 0)) 54 46 76) 77 (fun _ => 0)) 54 47 77) 78 (fun _ => 0)) 54 49 78) 79 (fun _ => 0)) 54 50 79) 80 (fun _ => 0)) 54 51 80) 81 (fun _ => 0)) 54 52 81) 82 (fun _ => 0)) 54 53 82) 83 (fun _ => 0)) 54 54 83) 84 (fun _ => 0)) 54 58 84) 85 (fun _ => 0)) 54 59 85) 86 (fun _ => 0)) 54 60 86) 87 (fun _ => 0)) 54 61 87) 88 (fun _ => 0)) 54 62 88) 89 (fun _ => 0)) 54 64 89) 90 (fun _ => 0)) 54 65 90) 91 (fun _ => 0)) 54 66 91) 92 (fun _ => 0)) 54 67 92) 93 (fun _ => 0)) 54 71 93) 94 (fun _ => 0)) 54 72 94)
set_option maxRecDepth 20000 in
set_option maxHeartbeats 4000000 in
theorem TI_X12_init_54 (b : Bs) (M : Mm) : CnI yX12_init cX12_init 1 1 40 81966 b 55 M [.ref (b.1 + 54)] 95 (I_X12_init_54 M) := by
  refine CnI_of rfl rfl (Nat.le_of_ble_eq_true rfl) (fun g hC hin => ?_)
  replace hC : Cok g b RX12 cX12_init 1 1 none := hC
  show Y g b 1 _ 0 [(0, .ref (b.1 + 54))] [] 55 M 40 81966
  unfold I_X12_init_54
  refine y_aload_n hC dX12_init_0 rfl 0 rfl ?_
  refine y_objInit hC dX12_init_1 rfl ⟨mg tw1111 rfl, mg tw28 rfl, mg tw29 rfl⟩ (by decide) (Nat.le_of_ble_eq_true rfl) ?_
  refine y_aload_n hC dX12_init_4 rfl 0 rfl ?_
  refine y_sipush hC dX12_init_5 rfl rfl ?_
  refine y_newB (L := 220) (kc := 39) (ks := 81746) hC dX12_init_8 rfl kab rfl (by decide) rfl (by decide) ?_
  refine y_putF (v := 55) hC hin dX12_init_10 rfl fqX12_7 rfl (by decide) rfl rfl rfl ?_
  refine y_aload_n hC dX12_init_13 rfl 0 rfl ?_
  refine y_sipush hC dX12_init_14 rfl rfl ?_
  refine y_put (v := 200) hC dX12_init_17 rfl fpX12_13 rfl (by decide) rfl rfl rfl ?_
  refine y_aload_n hC dX12_init_20 rfl 0 rfl ?_
  refine y_bipush hC dX12_init_21 rfl rfl ?_
  refine y_put (v := 100) hC dX12_init_23 rfl fpX12_17 rfl (by decide) rfl rfl rfl ?_
  refine y_aload_n hC dX12_init_26 rfl 0 rfl ?_
  refine y_iconst hC dX12_init_27 rfl ?_
  refine y_put (v := 1) hC dX12_init_28 rfl fpX12_20 rfl (by decide) rfl rfl rfl ?_
  refine y_aload_n hC dX12_init_31 rfl 0 rfl ?_
  refine y_bipush hC dX12_init_32 rfl rfl ?_
  refine y_newI (L := 8) (kc := 38) (ks := 81738) hC dX12_init_34 rfl kai rfl (by decide) rfl (by decide) ?_
  refine y_putF (v := 56) hC hin dX12_init_36 rfl fqX12_23 rfl (by decide) rfl rfl rfl ?_
  refine y_aload_n hC dX12_init_39 rfl 0 rfl ?_
  refine y_bipush hC dX12_init_40 rfl rfl ?_
  refine y_newI (L := 8) (kc := 37) (ks := 81730) hC dX12_init_42 rfl kai rfl (by decide) rfl (by decide) ?_
  refine y_putF (v := 57) hC hin dX12_init_44 rfl fqX12_27 rfl (by decide) rfl rfl rfl ?_
  refine y_aload_n hC dX12_init_47 rfl 0 rfl ?_
  refine y_bipush hC dX12_init_48 rfl rfl ?_
  refine y_newI (L := 8) (kc := 36) (ks := 81722) hC dX12_init_50 rfl kai rfl (by decide) rfl (by decide) ?_
  refine y_putF (v := 58) hC hin dX12_init_52 rfl fqX12_30 rfl (by decide) rfl rfl rfl ?_
  refine y_aload_n hC dX12_init_55 rfl 0 rfl ?_
  refine y_bipush hC dX12_init_56 rfl rfl ?_
  refine y_newI (L := 8) (kc := 35) (ks := 81714) hC dX12_init_58 rfl kai rfl (by decide) rfl (by decide) ?_
  refine y_putF (v := 59) hC hin dX12_init_60 rfl fqX12_33 rfl (by decide) rfl rfl rfl ?_
  refine y_aload_n hC dX12_init_63 rfl 0 rfl ?_
  refine y_bipush hC dX12_init_64 rfl rfl ?_
  refine y_newI (L := 32) (kc := 34) (ks := 81682) hC dX12_init_66 rfl kai rfl (by decide) rfl (by decide) ?_
  refine y_putF (v := 60) hC hin dX12_init_68 rfl fqX12_36 rfl (by decide) rfl rfl rfl ?_
  refine y_aload_n hC dX12_init_71 rfl 0 rfl ?_
  refine y_sipush hC dX12_init_72 rfl rfl ?_
  refine y_newI (L := 150) (kc := 33) (ks := 81532) hC dX12_init_75 rfl kai rfl (by decide) rfl (by decide) ?_
  refine y_putF (v := 61) hC hin dX12_init_77 rfl fqX12_39 rfl (by decide) rfl rfl rfl ?_
  refine y_aload_n hC dX12_init_80 rfl 0 rfl ?_
  refine y_sipush hC dX12_init_81 rfl rfl ?_
  refine y_newI (L := 150) (kc := 32) (ks := 81382) hC dX12_init_84 rfl kai rfl (by decide) rfl (by decide) ?_
  refine y_putF (v := 62) hC hin dX12_init_86 rfl fqX12_42 rfl (by decide) rfl rfl rfl ?_
  refine y_aload_n hC dX12_init_89 rfl 0 rfl ?_
  refine y_bipush hC dX12_init_90 rfl rfl ?_
  refine y_newI (L := 14) (kc := 31) (ks := 81368) hC dX12_init_92 rfl kai rfl (by decide) rfl (by decide) ?_
  refine y_putF (v := 63) hC hin dX12_init_94 rfl fqX12_45 rfl (by decide) rfl rfl rfl ?_
  refine y_aload_n hC dX12_init_97 rfl 0 rfl ?_
  refine y_bipush hC dX12_init_98 rfl rfl ?_
  refine y_newI (L := 14) (kc := 30) (ks := 81354) hC dX12_init_100 rfl kai rfl (by decide) rfl (by decide) ?_
  refine y_putF (v := 64) hC hin dX12_init_102 rfl fqX12_48 rfl (by decide) rfl rfl rfl ?_
  refine y_aload_n hC dX12_init_105 rfl 0 rfl ?_
  refine y_bipush hC dX12_init_106 rfl rfl ?_
  refine y_newI (L := 14) (kc := 29) (ks := 81340) hC dX12_init_108 rfl kai rfl (by decide) rfl (by decide) ?_
  refine y_putF (v := 65) hC hin dX12_init_110 rfl fqX12_51 rfl (by decide) rfl rfl rfl ?_
  refine y_aload_n hC dX12_init_113 rfl 0 rfl ?_
  refine y_bipush hC dX12_init_114 rfl rfl ?_
  refine y_newI (L := 14) (kc := 28) (ks := 81326) hC dX12_init_116 rfl kai rfl (by decide) rfl (by decide) ?_
  refine y_putF (v := 66) hC hin dX12_init_118 rfl fqX12_54 rfl (by decide) rfl rfl rfl ?_
  refine y_aload_n hC dX12_init_121 rfl 0 rfl ?_
  refine y_sipush hC dX12_init_122 rfl rfl ?_
  refine y_newI (L := 200) (kc := 27) (ks := 81126) hC dX12_init_125 rfl kai rfl (by decide) rfl (by decide) ?_
  refine y_putF (v := 67) hC hin dX12_init_127 rfl fqX12_57 rfl (by decide) rfl rfl rfl ?_
  refine y_aload_n hC dX12_init_130 rfl 0 rfl ?_
  refine y_sipush hC dX12_init_131 rfl rfl ?_
  refine y_newI (L := 200) (kc := 26) (ks := 80926) hC dX12_init_134 rfl kai rfl (by decide) rfl (by decide) ?_
  refine y_putF (v := 68) hC hin dX12_init_136 rfl fqX12_60 rfl (by decide) rfl rfl rfl ?_
  refine y_aload_n hC dX12_init_139 rfl 0 rfl ?_
  refine y_bipush hC dX12_init_140 rfl rfl ?_
  refine y_newI (L := 14) (kc := 25) (ks := 80912) hC dX12_init_142 rfl kai rfl (by decide) rfl (by decide) ?_
  refine y_putF (v := 69) hC hin dX12_init_144 rfl fqX12_63 rfl (by decide) rfl rfl rfl ?_
  refine y_aload_n hC dX12_init_147 rfl 0 rfl ?_
  refine y_bipush hC dX12_init_148 rfl rfl ?_
  refine y_newI (L := 14) (kc := 24) (ks := 80898) hC dX12_init_150 rfl kai rfl (by decide) rfl (by decide) ?_
  refine y_putF (v := 70) hC hin dX12_init_152 rfl fqX12_66 rfl (by decide) rfl rfl rfl ?_
  refine y_aload_n hC dX12_init_155 rfl 0 rfl ?_
  refine y_bipush hC dX12_init_156 rfl rfl ?_
  refine y_newI (L := 14) (kc := 23) (ks := 80884) hC dX12_init_158 rfl kai rfl (by decide) rfl (by decide) ?_
  refine y_putF (v := 71) hC hin dX12_init_160 rfl fqX12_69 rfl (by decide) rfl rfl rfl ?_
  refine y_aload_n hC dX12_init_163 rfl 0 rfl ?_
  refine y_bipush hC dX12_init_164 rfl rfl ?_
  refine y_newI (L := 14) (kc := 22) (ks := 80870) hC dX12_init_166 rfl kai rfl (by decide) rfl (by decide) ?_
  refine y_putF (v := 72) hC hin dX12_init_168 rfl fqX12_72 rfl (by decide) rfl rfl rfl ?_
  refine y_aload_n hC dX12_init_171 rfl 0 rfl ?_
  refine y_sipush hC dX12_init_172 rfl rfl ?_
  refine y_newI (L := 200) (kc := 21) (ks := 80670) hC dX12_init_175 rfl kai rfl (by decide) rfl (by decide) ?_
  refine y_putF (v := 73) hC hin dX12_init_177 rfl fqX12_75 rfl (by decide) rfl rfl rfl ?_
  refine y_aload_n hC dX12_init_180 rfl 0 rfl ?_
  refine y_sipush hC dX12_init_181 rfl rfl ?_
  refine y_newI (L := 200) (kc := 20) (ks := 80470) hC dX12_init_184 rfl kai rfl (by decide) rfl (by decide) ?_
  refine y_putF (v := 74) hC hin dX12_init_186 rfl fqX12_78 rfl (by decide) rfl rfl rfl ?_
  refine y_aload_n hC dX12_init_189 rfl 0 rfl ?_
  refine y_sipush hC dX12_init_190 rfl rfl ?_
  refine y_newI (L := 240) (kc := 19) (ks := 80230) hC dX12_init_193 rfl kai rfl (by decide) rfl (by decide) ?_
  refine y_putF (v := 75) hC hin dX12_init_195 rfl fqX12_81 rfl (by decide) rfl rfl rfl ?_
  refine y_aload_n hC dX12_init_198 rfl 0 rfl ?_
  refine y_sipush hC dX12_init_199 rfl rfl ?_
  refine y_newI (L := 240) (kc := 18) (ks := 79990) hC dX12_init_202 rfl kai rfl (by decide) rfl (by decide) ?_
  refine y_putF (v := 76) hC hin dX12_init_204 rfl fqX12_84 rfl (by decide) rfl rfl rfl ?_
  refine y_aload_n hC dX12_init_207 rfl 0 rfl ?_
  refine y_sipush hC dX12_init_208 rfl rfl ?_
  refine y_newZ (L := 240) (kc := 17) (ks := 79750) hC dX12_init_211 rfl kaz rfl (by decide) rfl (by decide) ?_
  refine y_putF (v := 77) hC hin dX12_init_213 rfl fqX12_87 rfl (by decide) rfl rfl rfl ?_
  refine y_aload_n hC dX12_init_216 rfl 0 rfl ?_
  refine y_sipush hC dX12_init_217 rfl rfl ?_
  refine y_newI (L := 150) (kc := 16) (ks := 79600) hC dX12_init_220 rfl kai rfl (by decide) rfl (by decide) ?_
  refine y_putF (v := 78) hC hin dX12_init_222 rfl fqX12_91 rfl (by decide) rfl rfl rfl ?_
  refine y_aload_n hC dX12_init_225 rfl 0 rfl ?_
  refine y_sipush hC dX12_init_226 rfl rfl ?_
  refine y_newI (L := 150) (kc := 15) (ks := 79450) hC dX12_init_229 rfl kai rfl (by decide) rfl (by decide) ?_
  refine y_putF (v := 79) hC hin dX12_init_231 rfl fqX12_94 rfl (by decide) rfl rfl rfl ?_
  refine y_aload_n hC dX12_init_234 rfl 0 rfl ?_
  refine y_bipush hC dX12_init_235 rfl rfl ?_
  refine y_newI (L := 13) (kc := 14) (ks := 79437) hC dX12_init_237 rfl kai rfl (by decide) rfl (by decide) ?_
  refine y_putF (v := 80) hC hin dX12_init_239 rfl fqX12_97 rfl (by decide) rfl rfl rfl ?_
  refine y_aload_n hC dX12_init_242 rfl 0 rfl ?_
  refine y_bipush hC dX12_init_243 rfl rfl ?_
  refine y_newI (L := 13) (kc := 13) (ks := 79424) hC dX12_init_245 rfl kai rfl (by decide) rfl (by decide) ?_
  refine y_putF (v := 81) hC hin dX12_init_247 rfl fqX12_100 rfl (by decide) rfl rfl rfl ?_
  refine y_aload_n hC dX12_init_250 rfl 0 rfl ?_
  refine y_bipush hC dX12_init_251 rfl rfl ?_
  refine y_newL (L := 126) (kc := 12) (ks := 79298) hC dX12_init_253 rfl kal rfl (by decide) rfl (by decide) ?_
  refine y_putF (v := 82) hC hin dX12_init_255 rfl fqX12_103 rfl (by decide) rfl rfl rfl ?_
  refine y_aload_n hC dX12_init_258 rfl 0 rfl ?_
  refine y_bipush hC dX12_init_259 rfl rfl ?_
  refine y_newL (L := 126) (kc := 11) (ks := 79172) hC dX12_init_261 rfl kal rfl (by decide) rfl (by decide) ?_
  refine y_putF (v := 83) hC hin dX12_init_263 rfl fqX12_107 rfl (by decide) rfl rfl rfl ?_
  refine y_aload_n hC dX12_init_266 rfl 0 rfl ?_
  refine y_iconst hC dX12_init_267 rfl ?_
  refine y_newI (L := 4) (kc := 10) (ks := 79168) hC dX12_init_268 rfl kai rfl (by decide) rfl (by decide) ?_
  refine y_putF (v := 84) hC hin dX12_init_270 rfl fqX12_110 rfl (by decide) rfl rfl rfl ?_
  refine y_aload_n hC dX12_init_273 rfl 0 rfl ?_
  refine y_sipush hC dX12_init_274 rfl rfl ?_
  refine y_newI (L := 9680) (kc := 9) (ks := 69488) hC dX12_init_277 rfl kai rfl (by decide) rfl (by decide) ?_
  refine y_putF (v := 85) hC hin dX12_init_279 rfl fqX12_113 rfl (by decide) rfl rfl rfl ?_
  refine y_aload_n hC dX12_init_282 rfl 0 rfl ?_
  refine y_ldc (x := 68750) hC dX12_init_283 rfl kwX12_116 ?_
  refine y_newI (L := 68750) (kc := 8) (ks := 738) hC dX12_init_285 rfl kai rfl (by decide) rfl (by decide) ?_
  refine y_putF (v := 86) hC hin dX12_init_287 rfl fqX12_117 rfl (by decide) rfl rfl rfl ?_
  refine y_aload_n hC dX12_init_290 rfl 0 rfl ?_
  refine y_bipush hC dX12_init_291 rfl rfl ?_
  refine y_newI (L := 16) (kc := 7) (ks := 722) hC dX12_init_293 rfl kai rfl (by decide) rfl (by decide) ?_
  refine y_putF (v := 87) hC hin dX12_init_295 rfl fqX12_120 rfl (by decide) rfl rfl rfl ?_
  refine y_aload_n hC dX12_init_298 rfl 0 rfl ?_
  refine y_bipush hC dX12_init_299 rfl rfl ?_
  refine y_newI (L := 16) (kc := 6) (ks := 706) hC dX12_init_301 rfl kai rfl (by decide) rfl (by decide) ?_
  refine y_putF (v := 88) hC hin dX12_init_303 rfl fqX12_123 rfl (by decide) rfl rfl rfl ?_
  refine y_aload_n hC dX12_init_306 rfl 0 rfl ?_
  refine y_sipush hC dX12_init_307 rfl rfl ?_
  refine y_newZ (L := 374) (kc := 5) (ks := 332) hC dX12_init_310 rfl kaz rfl (by decide) rfl (by decide) ?_
  refine y_putF (v := 89) hC hin dX12_init_312 rfl fqX12_126 rfl (by decide) rfl rfl rfl ?_
  refine y_aload_n hC dX12_init_315 rfl 0 rfl ?_
  refine y_bipush hC dX12_init_316 rfl rfl ?_
  refine y_newI (L := 8) (kc := 4) (ks := 324) hC dX12_init_318 rfl kai rfl (by decide) rfl (by decide) ?_
  refine y_putF (v := 90) hC hin dX12_init_320 rfl fqX12_129 rfl (by decide) rfl rfl rfl ?_
  refine y_aload_n hC dX12_init_323 rfl 0 rfl ?_
  refine y_bipush hC dX12_init_324 rfl rfl ?_
  refine y_newI (L := 12) (kc := 3) (ks := 312) hC dX12_init_326 rfl kai rfl (by decide) rfl (by decide) ?_
  refine y_putF (v := 91) hC hin dX12_init_328 rfl fqX12_132 rfl (by decide) rfl rfl rfl ?_
  refine y_aload_n hC dX12_init_331 rfl 0 rfl ?_
  refine y_bipush hC dX12_init_332 rfl rfl ?_
  refine y_newI (L := 12) (kc := 2) (ks := 300) hC dX12_init_334 rfl kai rfl (by decide) rfl (by decide) ?_
  refine y_putF (v := 92) hC hin dX12_init_336 rfl fqX12_135 rfl (by decide) rfl rfl rfl ?_
  refine y_aload_n hC dX12_init_339 rfl 0 rfl ?_
  refine y_sipush hC dX12_init_340 rfl rfl ?_
  refine y_newI (L := 150) (kc := 1) (ks := 150) hC dX12_init_343 rfl kai rfl (by decide) rfl (by decide) ?_
  refine y_putF (v := 93) hC hin dX12_init_345 rfl fqX12_138 rfl (by decide) rfl rfl rfl ?_
  refine y_aload_n hC dX12_init_348 rfl 0 rfl ?_
  refine y_sipush hC dX12_init_349 rfl rfl ?_
  refine y_newI (L := 150) (kc := 0) (ks := 0) hC dX12_init_352 rfl kai rfl (by decide) rfl (by decide) ?_
  refine y_putF (v := 94) hC hin dX12_init_354 rfl fqX12_141 rfl (by decide) rfl rfl rfl ?_
  exact y_return hC dX12_init_357

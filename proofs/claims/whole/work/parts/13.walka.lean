set_option maxRecDepth 20000 in
set_option maxHeartbeats 4000000 in
theorem T_X0_clear (b : Bs) (o : Mm) (m : Mm) (c : Nat) (hc : CdK c) {r : Int} {m' : Mm} (h : F_X0_clear c m = some (r, m')) : Cn yX0_clear cX0_clear 1 none (0) 0 0 0 b (true, o) m [.ref (b.1 + c)] (F_X0_clear c m) := by
  refine Cn_of rfl (Nat.le_of_ble_eq_true rfl) (fun g hC hm => ?_)
  have hF := okR_some h
  generalize hQ : (fun (r : Int) (m' : Mm) => F_X0_clear c m = some (r, m')) = Q at hF ⊢
  clear hQ h
  replace hC : Cok g b RX0 cX0_clear 1 0 none := hC
  refine x_lv (lv' := [(0, .ref (b.1 + c))]) rfl ?_
  unfold F_X0_clear at hF
  refine x_aload_n hC dX0_clear_0 rfl 0 rfl ?_
  refine x_iconst hC dX0_clear_1 rfl ?_
  refine x_putI hC dX0_clear_2 rfl fpX0_27 hc.1 hc.2.1 hc.n0 rfl hc.2.2.1 hm (rgc 0 rfl) hc.lg hF (fun m1 hm1 hF => ?_)
  refine x_aload_n hC dX0_clear_5 rfl 0 rfl ?_
  refine x_iconst hC dX0_clear_6 rfl ?_
  refine x_putI hC dX0_clear_7 rfl fpX0_31 hc.1 hc.2.1 hc.n0 rfl hc.2.2.1 hm1 (rgc 0 rfl) hc.lg hF (fun m2 hm2 hF => ?_)
  refine x_aload_n hC dX0_clear_10 rfl 0 rfl ?_
  refine x_iconst hC dX0_clear_11 rfl ?_
  refine x_putZ hC dX0_clear_12 rfl fpX0_34 hc.1 hc.2.1 hc.n0 rfl hc.2.2.1 hm2 (Or.inl rfl) hc.lg hF (fun m3 hm3 hF => ?_)
  exact x_return hC dX0_clear_15 hm3 hF
set_option maxRecDepth 20000 in
set_option maxHeartbeats 4000000 in
theorem T_X0_add (b : Bs) (o : Mm) (m : Mm) (c : Nat) (hc : CdK c) (a1 : Int) (ha1 : inR a1) (a2 : Int) (ha2 : inR a2) {r : Int} {m' : Mm} (h : F_X0_add c a1 a2 m = some (r, m')) : Cn yX0_add cX0_add 3 (some .int) (0) 0 0 1 b (true, o) m [.ref (b.1 + c), iV a1, iV a2] (F_X0_add c a1 a2 m) := by
  refine Cn_of rfl (Nat.le_of_ble_eq_true rfl) (fun g hC hm => ?_)
  have hF := okR_some h
  generalize hQ : (fun (r : Int) (m' : Mm) => F_X0_add c a1 a2 m = some (r, m')) = Q at hF ⊢
  clear hQ h
  replace hC : Cok g b RX0 cX0_add 3 0 (some .int) := hC
  refine x_lv (lv' := [(0, .ref (b.1 + c)), (1, iV a1), (2, iV a2)]) rfl ?_
  unfold F_X0_add at hF
  refine x_aload_n hC dX0_add_0 rfl 0 rfl ?_
  refine x_getI hC dX0_add_1 rfl flX0_27 hc.1 hc.2.1 rfl hc.2.2.1 ?_
  refine x_sipush hC dX0_add_4 rfl rfl ?_
  refine x_icmp_ge (tgt := 40) hC dX0_add_7 rfl rfl (hm.i c 5 hc.lg) (rgc 200 rfl) hF (fun hq1 hF => ?_) (fun hq1 hF => ?_)
  · refine x_aload_n hC dX0_add_40 rfl 0 rfl ?_
    refine x_getI hC dX0_add_41 rfl flX0_27 hc.1 hc.2.1 rfl hc.2.2.1 ?_
    refine x_iconst hC dX0_add_44 rfl ?_
    refine x_isub hC dX0_add_45 rfl ?_
    exact x_ireturn hC dX0_add_46 hm (rg_wr _) hF
  · refine x_aload_n hC dX0_add_10 rfl 0 rfl ?_
    refine x_getR (t := (c + 1)) hC dX0_add_11 rfl flX0_9 hc.1 hc.2.1 rfl (hc.2.2.2 0 (by decide)).1 ?_
    refine x_aload_n hC dX0_add_14 rfl 0 rfl ?_
    refine x_getI hC dX0_add_15 rfl flX0_27 hc.1 hc.2.1 rfl hc.2.2.1 ?_
    refine x_iload_n hC dX0_add_18 rfl 1 rfl ?_
    refine x_iast hC dX0_add_19 rfl (hc.2.2.2 0 (by decide)).2.1 (hc.2.2.2 0 (by decide)).2.2.1 (hc.2.2.2 0 (by decide)).2.2.2 hm (hm.i c 5 hc.lg) ha1 hF (fun m2 hm2 hF => ?_)
    refine x_aload_n hC dX0_add_20 rfl 0 rfl ?_
    refine x_getR (t := (c + 2)) hC dX0_add_21 rfl flX0_15 hc.1 hc.2.1 rfl (hc.2.2.2 1 (by decide)).1 ?_
    refine x_aload_n hC dX0_add_24 rfl 0 rfl ?_
    refine x_getI hC dX0_add_25 rfl flX0_27 hc.1 hc.2.1 rfl hc.2.2.1 ?_
    refine x_iload_n hC dX0_add_28 rfl 2 rfl ?_
    refine x_iast hC dX0_add_29 rfl (hc.2.2.2 1 (by decide)).2.1 (hc.2.2.2 1 (by decide)).2.2.1 (hc.2.2.2 1 (by decide)).2.2.2 hm2 (hm2.i c 5 hc.lg) ha2 hF (fun m3 hm3 hF => ?_)
    refine x_aload_n hC dX0_add_30 rfl 0 rfl ?_
    refine x_dup hC dX0_add_31 rfl rfl ?_
    refine x_getI hC dX0_add_32 rfl flX0_27 hc.1 hc.2.1 rfl hc.2.2.1 ?_
    refine x_iconst hC dX0_add_35 rfl ?_
    refine x_iadd hC dX0_add_36 rfl ?_
    refine x_putI hC dX0_add_37 rfl fpX0_27 hc.1 hc.2.1 hc.n0 rfl hc.2.2.1 hm3 (rg_wr _) hc.lg hF (fun m4 hm4 hF => ?_)
    refine x_aload_n hC dX0_add_40 rfl 0 rfl ?_
    refine x_getI hC dX0_add_41 rfl flX0_27 hc.1 hc.2.1 rfl hc.2.2.1 ?_
    refine x_iconst hC dX0_add_44 rfl ?_
    refine x_isub hC dX0_add_45 rfl ?_
    exact x_ireturn hC dX0_add_46 hm4 (rg_wr _) hF
set_option maxRecDepth 20000 in
set_option maxHeartbeats 4000000 in
theorem T_X0_landHere (b : Bs) (o : Mm) (m : Mm) (c : Nat) (hc : CdK c) (a1 : Int) (ha1 : inR a1) {r : Int} {m' : Mm} (h : F_X0_landHere c a1 m = some (r, m')) : Cn yX0_landHere cX0_landHere 2 none (0) 0 0 0 b (true, o) m [.ref (b.1 + c), iV a1] (F_X0_landHere c a1 m) := by
  refine Cn_of rfl (Nat.le_of_ble_eq_true rfl) (fun g hC hm => ?_)
  have hF := okR_some h
  generalize hQ : (fun (r : Int) (m' : Mm) => F_X0_landHere c a1 m = some (r, m')) = Q at hF ⊢
  clear hQ h
  replace hC : Cok g b RX0 cX0_landHere 2 0 none := hC
  refine x_lv (lv' := [(0, .ref (b.1 + c)), (1, iV a1)]) rfl ?_
  unfold F_X0_landHere at hF
  refine x_iload_n hC dX0_landHere_0 rfl 1 rfl ?_
  refine x_if_lt (tgt := 22) hC dX0_landHere_1 rfl rfl ha1 hF (fun hq1 hF => ?_) (fun hq1 hF => ?_)
  · exact x_return hC dX0_landHere_22 hm hF
  · refine x_iload_n hC dX0_landHere_4 rfl 1 rfl ?_
    refine x_aload_n hC dX0_landHere_5 rfl 0 rfl ?_
    refine x_getI hC dX0_landHere_6 rfl flX0_27 hc.1 hc.2.1 rfl hc.2.2.1 ?_
    refine x_icmp_ge (tgt := 22) hC dX0_landHere_9 rfl rfl ha1 (hm.i c 5 hc.lg) hF (fun hq2 hF => ?_) (fun hq2 hF => ?_)
    · exact x_return hC dX0_landHere_22 hm hF
    · refine x_aload_n hC dX0_landHere_12 rfl 0 rfl ?_
      refine x_getR (t := (c + 2)) hC dX0_landHere_13 rfl flX0_15 hc.1 hc.2.1 rfl (hc.2.2.2 1 (by decide)).1 ?_
      refine x_iload_n hC dX0_landHere_16 rfl 1 rfl ?_
      refine x_aload_n hC dX0_landHere_17 rfl 0 rfl ?_
      refine x_getI hC dX0_landHere_18 rfl flX0_27 hc.1 hc.2.1 rfl hc.2.2.1 ?_
      refine x_iast hC dX0_landHere_21 rfl (hc.2.2.2 1 (by decide)).2.1 (hc.2.2.2 1 (by decide)).2.2.1 (hc.2.2.2 1 (by decide)).2.2.2 hm ha1 (hm.i c 5 hc.lg) hF (fun m3 hm3 hF => ?_)
      exact x_return hC dX0_landHere_22 hm3 hF
set_option maxRecDepth 20000 in
set_option maxHeartbeats 4000000 in
theorem T_X0_beginClause (b : Bs) (o : Mm) (m : Mm) (c : Nat) (hc : CdK c) (a1 : Int) (ha1 : inR a1) {r : Int} {m' : Mm} (h : F_X0_beginClause c a1 m = some (r, m')) : Cn yX0_beginClause cX0_beginClause 2 none (0) 0 0 0 b (true, o) m [.ref (b.1 + c), iV a1] (F_X0_beginClause c a1 m) := by
  refine Cn_of rfl (Nat.le_of_ble_eq_true rfl) (fun g hC hm => ?_)
  have hF := okR_some h
  generalize hQ : (fun (r : Int) (m' : Mm) => F_X0_beginClause c a1 m = some (r, m')) = Q at hF ⊢
  clear hQ h
  replace hC : Cok g b RX0 cX0_beginClause 2 0 none := hC
  refine x_lv (lv' := [(0, .ref (b.1 + c)), (1, iV a1)]) rfl ?_
  unfold F_X0_beginClause at hF
  refine x_aload_n hC dX0_beginClause_0 rfl 0 rfl ?_
  refine x_getI hC dX0_beginClause_1 rfl flX0_31 hc.1 hc.2.1 rfl hc.2.2.1 ?_
  refine x_bipush hC dX0_beginClause_4 rfl rfl ?_
  refine x_icmp_ge (tgt := 42) hC dX0_beginClause_6 rfl rfl (hm.i c 6 hc.lg) (rgc 14 rfl) hF (fun hq1 hF => ?_) (fun hq1 hF => ?_)
  · exact x_return hC dX0_beginClause_42 hm hF
  · refine x_aload_n hC dX0_beginClause_9 rfl 0 rfl ?_
    refine x_getR (t := (c + 3)) hC dX0_beginClause_10 rfl flX0_18 hc.1 hc.2.1 rfl (hc.2.2.2 2 (by decide)).1 ?_
    refine x_aload_n hC dX0_beginClause_13 rfl 0 rfl ?_
    refine x_getI hC dX0_beginClause_14 rfl flX0_31 hc.1 hc.2.1 rfl hc.2.2.1 ?_
    refine x_iload_n hC dX0_beginClause_17 rfl 1 rfl ?_
    refine x_iast hC dX0_beginClause_18 rfl (hc.2.2.2 2 (by decide)).2.1 (hc.2.2.2 2 (by decide)).2.2.1 (hc.2.2.2 2 (by decide)).2.2.2 hm (hm.i c 6 hc.lg) ha1 hF (fun m2 hm2 hF => ?_)
    refine x_aload_n hC dX0_beginClause_19 rfl 0 rfl ?_
    refine x_getR (t := (c + 4)) hC dX0_beginClause_20 rfl flX0_21 hc.1 hc.2.1 rfl (hc.2.2.2 3 (by decide)).1 ?_
    refine x_aload_n hC dX0_beginClause_23 rfl 0 rfl ?_
    refine x_getI hC dX0_beginClause_24 rfl flX0_31 hc.1 hc.2.1 rfl hc.2.2.1 ?_
    refine x_aload_n hC dX0_beginClause_27 rfl 0 rfl ?_
    refine x_getI hC dX0_beginClause_28 rfl flX0_27 hc.1 hc.2.1 rfl hc.2.2.1 ?_
    refine x_iast hC dX0_beginClause_31 rfl (hc.2.2.2 3 (by decide)).2.1 (hc.2.2.2 3 (by decide)).2.2.1 (hc.2.2.2 3 (by decide)).2.2.2 hm2 (hm2.i c 6 hc.lg) (hm2.i c 5 hc.lg) hF (fun m3 hm3 hF => ?_)
    refine x_aload_n hC dX0_beginClause_32 rfl 0 rfl ?_
    refine x_dup hC dX0_beginClause_33 rfl rfl ?_
    refine x_getI hC dX0_beginClause_34 rfl flX0_31 hc.1 hc.2.1 rfl hc.2.2.1 ?_
    refine x_iconst hC dX0_beginClause_37 rfl ?_
    refine x_iadd hC dX0_beginClause_38 rfl ?_
    refine x_putI hC dX0_beginClause_39 rfl fpX0_31 hc.1 hc.2.1 hc.n0 rfl hc.2.2.1 hm3 (rg_wr _) hc.lg hF (fun m4 hm4 hF => ?_)
    exact x_return hC dX0_beginClause_42 hm4 hF
set_option maxRecDepth 20000 in
set_option maxHeartbeats 4000000 in
theorem T_X0_beginCondition (b : Bs) (o : Mm) (m : Mm) (c : Nat) (hc : CdK c) {r : Int} {m' : Mm} (h : F_X0_beginCondition c m = some (r, m')) : Cn yX0_beginCondition cX0_beginCondition 1 none (0) 0 0 0 b (true, o) m [.ref (b.1 + c)] (F_X0_beginCondition c m) := by
  refine Cn_of rfl (Nat.le_of_ble_eq_true rfl) (fun g hC hm => ?_)
  have hF := okR_some h
  generalize hQ : (fun (r : Int) (m' : Mm) => F_X0_beginCondition c m = some (r, m')) = Q at hF ⊢
  clear hQ h
  replace hC : Cok g b RX0 cX0_beginCondition 1 0 none := hC
  refine x_lv (lv' := [(0, .ref (b.1 + c))]) rfl ?_
  unfold F_X0_beginCondition at hF
  refine x_aload_n hC dX0_beginCondition_0 rfl 0 rfl ?_
  refine x_getI hC dX0_beginCondition_1 rfl flX0_31 hc.1 hc.2.1 rfl hc.2.2.1 ?_
  refine x_if_le (tgt := 31) hC dX0_beginCondition_4 rfl rfl (hm.i c 6 hc.lg) hF (fun hq1 hF => ?_) (fun hq1 hF => ?_)
  · exact x_return hC dX0_beginCondition_31 hm hF
  · refine x_aload_n hC dX0_beginCondition_7 rfl 0 rfl ?_
    refine x_getI hC dX0_beginCondition_8 rfl flX0_31 hc.1 hc.2.1 rfl hc.2.2.1 ?_
    refine x_bipush hC dX0_beginCondition_11 rfl rfl ?_
    refine x_icmp_gt (tgt := 31) hC dX0_beginCondition_13 rfl rfl (hm.i c 6 hc.lg) (rgc 14 rfl) hF (fun hq2 hF => ?_) (fun hq2 hF => ?_)
    · exact x_return hC dX0_beginCondition_31 hm hF
    · refine x_aload_n hC dX0_beginCondition_16 rfl 0 rfl ?_
      refine x_getR (t := (c + 5)) hC dX0_beginCondition_17 rfl flX0_24 hc.1 hc.2.1 rfl (hc.2.2.2 4 (by decide)).1 ?_
      refine x_aload_n hC dX0_beginCondition_20 rfl 0 rfl ?_
      refine x_getI hC dX0_beginCondition_21 rfl flX0_31 hc.1 hc.2.1 rfl hc.2.2.1 ?_
      refine x_iconst hC dX0_beginCondition_24 rfl ?_
      refine x_isub hC dX0_beginCondition_25 rfl ?_
      refine x_aload_n hC dX0_beginCondition_26 rfl 0 rfl ?_
      refine x_getI hC dX0_beginCondition_27 rfl flX0_27 hc.1 hc.2.1 rfl hc.2.2.1 ?_
      refine x_iast hC dX0_beginCondition_30 rfl (hc.2.2.2 4 (by decide)).2.1 (hc.2.2.2 4 (by decide)).2.2.1 (hc.2.2.2 4 (by decide)).2.2.2 hm (rg_wr _) (hm.i c 5 hc.lg) hF (fun m3 hm3 hF => ?_)
      exact x_return hC dX0_beginCondition_31 hm3 hF
set_option maxRecDepth 20000 in
set_option maxHeartbeats 4000000 in
theorem T_X0_endOf (b : Bs) (o : Mm) (m : Mm) (c : Nat) (hc : CdK c) (a1 : Int) (ha1 : inR a1) {r : Int} {m' : Mm} (h : F_X0_endOf c a1 m = some (r, m')) : Cn yX0_endOf cX0_endOf 2 (some .int) (0) 0 0 1 b (true, o) m [.ref (b.1 + c), iV a1] (F_X0_endOf c a1 m) := by
  refine Cn_of rfl (Nat.le_of_ble_eq_true rfl) (fun g hC hm => ?_)
  have hF := okR_some h
  generalize hQ : (fun (r : Int) (m' : Mm) => F_X0_endOf c a1 m = some (r, m')) = Q at hF ⊢
  clear hQ h
  replace hC : Cok g b RX0 cX0_endOf 2 0 (some .int) := hC
  refine x_lv (lv' := [(0, .ref (b.1 + c)), (1, iV a1)]) rfl ?_
  unfold F_X0_endOf at hF
  refine x_iload_n hC dX0_endOf_0 rfl 1 rfl ?_
  refine x_if_lt (tgt := 25) hC dX0_endOf_1 rfl rfl ha1 hF (fun hq1 hF => ?_) (fun hq1 hF => ?_)
  · refine x_aload_n hC dX0_endOf_25 rfl 0 rfl ?_
    refine x_getI hC dX0_endOf_26 rfl flX0_27 hc.1 hc.2.1 rfl hc.2.2.1 ?_
    exact x_ireturn hC dX0_endOf_29 hm (hm.i c 5 hc.lg) hF
  · refine x_iload_n hC dX0_endOf_4 rfl 1 rfl ?_
    refine x_iconst hC dX0_endOf_5 rfl ?_
    refine x_iadd hC dX0_endOf_6 rfl ?_
    refine x_aload_n hC dX0_endOf_7 rfl 0 rfl ?_
    refine x_getI hC dX0_endOf_8 rfl flX0_31 hc.1 hc.2.1 rfl hc.2.2.1 ?_
    refine x_icmp_ge (tgt := 25) hC dX0_endOf_11 rfl rfl (rg_wr _) (hm.i c 6 hc.lg) hF (fun hq2 hF => ?_) (fun hq2 hF => ?_)
    · refine x_aload_n hC dX0_endOf_25 rfl 0 rfl ?_
      refine x_getI hC dX0_endOf_26 rfl flX0_27 hc.1 hc.2.1 rfl hc.2.2.1 ?_
      exact x_ireturn hC dX0_endOf_29 hm (hm.i c 5 hc.lg) hF
    · refine x_aload_n hC dX0_endOf_14 rfl 0 rfl ?_
      refine x_getR (t := (c + 4)) hC dX0_endOf_15 rfl flX0_21 hc.1 hc.2.1 rfl (hc.2.2.2 3 (by decide)).1 ?_
      refine x_iload_n hC dX0_endOf_18 rfl 1 rfl ?_
      refine x_iconst hC dX0_endOf_19 rfl ?_
      refine x_iadd hC dX0_endOf_20 rfl ?_
      refine x_iald hC dX0_endOf_21 rfl (hc.2.2.2 3 (by decide)).2.1 (hc.2.2.2 3 (by decide)).2.2.1 (hc.2.2.2 3 (by decide)).2.2.2 hm (rg_wr _) hF (fun x3 hx3 hF => ?_)
      refine x_goto (tgt := 29) hC dX0_endOf_22 rfl ?_
      exact x_ireturn hC dX0_endOf_29 hm hx3 hF
set_option maxRecDepth 20000 in
set_option maxHeartbeats 4000000 in
theorem T_X1_forget (b : Bs) (o : Mm) (m : Mm) {r : Int} {m' : Mm} (h : F_X1_forget  m = some (r, m')) : Cn yX1_forget cX1_forget 1 none (0) 0 0 0 b (true, o) m [.ref (b.1 + 43)] (F_X1_forget  m) := by
  refine Cn_of rfl (Nat.le_of_ble_eq_true rfl) (fun g hC hm => ?_)
  have hF := okR_some h
  generalize hQ : (fun (r : Int) (m' : Mm) => F_X1_forget  m = some (r, m')) = Q at hF ⊢
  clear hQ h
  replace hC : Cok g b RX1 cX1_forget 1 0 none := hC
  refine x_lv (lv' := [(0, .ref (b.1 + 43))]) rfl ?_
  unfold F_X1_forget at hF
  refine x_aload_n hC dX1_forget_0 rfl 0 rfl ?_
  refine x_iconst hC dX1_forget_1 rfl ?_
  refine x_putI hC dX1_forget_2 rfl fpX1_45 rfl (by decide) (by decide) rfl rfl hm (rgc 0 rfl) rfl hF (fun m1 hm1 hF => ?_)
  exact x_return hC dX1_forget_5 hm1 hF
set_option maxRecDepth 20000 in
set_option maxHeartbeats 4000000 in
theorem T_X1_knows (b : Bs) (o : Mm) (m : Mm) (a1 : Int) (ha1 : inR a1) {r : Int} {m' : Mm} (h : F_X1_knows a1 m = some (r, m')) : Cn yX1_knows cX1_knows 2 (some .boolean) (0) 0 0 3 b (true, o) m [.ref (b.1 + 43), iV a1] (F_X1_knows a1 m) := by
  refine Cn_of rfl (Nat.le_of_ble_eq_true rfl) (fun g hC hm => ?_)
  have hF := okR_some h
  generalize hQ : (fun (r : Int) (m' : Mm) => F_X1_knows a1 m = some (r, m')) = Q at hF ⊢
  clear hQ h
  replace hC : Cok g b RX1 cX1_knows 2 0 (some .boolean) := hC
  refine x_lv (lv' := [(0, .ref (b.1 + 43)), (1, iV a1)]) rfl ?_
  unfold F_X1_knows at hF
  refine x_aload_n hC dX1_knows_0 rfl 0 rfl ?_
  refine x_getI hC dX1_knows_1 rfl flX1_45 rfl (by decide) rfl rfl ?_
  refine x_iload_n hC dX1_knows_4 rfl 1 rfl ?_
  refine x_icmp_ne (tgt := 12) hC dX1_knows_5 rfl rfl (hm.i 43 10 rfl) ha1 hF (fun hq1 hF => ?_) (fun hq1 hF => ?_)
  · refine x_iconst hC dX1_knows_12 rfl ?_
    exact x_zreturn hC dX1_knows_13 hm (Or.inl rfl) hF
  · refine x_iconst hC dX1_knows_8 rfl ?_
    refine x_goto (tgt := 13) hC dX1_knows_9 rfl ?_
    exact x_zreturn hC dX1_knows_13 hm (Or.inr rfl) hF
set_option maxRecDepth 20000 in
set_option maxHeartbeats 4000000 in
theorem T_X1_canBe (b : Bs) (o : Mm) (m : Mm) {r : Int} {m' : Mm} (h : F_X1_canBe  m = some (r, m')) : Cn yX1_canBe cX1_canBe 1 (some .boolean) (0) 0 0 3 b (true, o) m [.ref (b.1 + 43)] (F_X1_canBe  m) := by
  refine Cn_of rfl (Nat.le_of_ble_eq_true rfl) (fun g hC hm => ?_)
  have hF := okR_some h
  generalize hQ : (fun (r : Int) (m' : Mm) => F_X1_canBe  m = some (r, m')) = Q at hF ⊢
  clear hQ h
  replace hC : Cok g b RX1 cX1_canBe 1 0 (some .boolean) := hC
  refine x_lv (lv' := [(0, .ref (b.1 + 43))]) rfl ?_
  unfold F_X1_canBe at hF
  refine x_aload_n hC dX1_canBe_0 rfl 0 rfl ?_
  refine x_getI hC dX1_canBe_1 rfl flX1_49 rfl (by decide) rfl rfl ?_
  refine x_ldc (x := 1000000) hC dX1_canBe_4 rfl kwX1_52 ?_
  refine x_icmp_ge (tgt := 13) hC dX1_canBe_6 rfl rfl (hm.i 43 14 rfl) (rgc 1000000 rfl) hF (fun hq1 hF => ?_) (fun hq1 hF => ?_)
  · refine x_iconst hC dX1_canBe_13 rfl ?_
    exact x_zreturn hC dX1_canBe_14 hm (Or.inl rfl) hF
  · refine x_iconst hC dX1_canBe_9 rfl ?_
    refine x_goto (tgt := 14) hC dX1_canBe_10 rfl ?_
    exact x_zreturn hC dX1_canBe_14 hm (Or.inr rfl) hF
set_option maxRecDepth 20000 in
set_option maxHeartbeats 4000000 in
theorem T_X1_speakerOf (b : Bs) (o : Mm) (m : Mm) (a1 : Int) (ha1 : inR a1) {r : Int} {m' : Mm} (h : F_X1_speakerOf a1 m = some (r, m')) : Cn yX1_speakerOf cX1_speakerOf 2 (some .int) (0) 0 0 1 b (true, o) m [.ref (b.1 + 43), iV a1] (F_X1_speakerOf a1 m) := by
  refine Cn_of rfl (Nat.le_of_ble_eq_true rfl) (fun g hC hm => ?_)
  have hF := okR_some h
  generalize hQ : (fun (r : Int) (m' : Mm) => F_X1_speakerOf a1 m = some (r, m')) = Q at hF ⊢
  clear hQ h
  replace hC : Cok g b RX1 cX1_speakerOf 2 0 (some .int) := hC
  refine x_lv (lv' := [(0, .ref (b.1 + 43)), (1, iV a1)]) rfl ?_
  unfold F_X1_speakerOf at hF
  refine x_iload_n hC dX1_speakerOf_0 rfl 1 rfl ?_
  refine x_if_lt (tgt := 26) hC dX1_speakerOf_1 rfl rfl ha1 hF (fun hq1 hF => ?_) (fun hq1 hF => ?_)
  · refine x_iconst hC dX1_speakerOf_26 rfl ?_
    exact x_ireturn hC dX1_speakerOf_27 hm (rgc (-1) rfl) hF
  · refine x_iload_n hC dX1_speakerOf_4 rfl 1 rfl ?_
    refine x_aload_n hC dX1_speakerOf_5 rfl 0 rfl ?_
    refine x_getI hC dX1_speakerOf_6 rfl flX1_53 rfl (by decide) rfl rfl ?_
    refine x_icmp_ge (tgt := 26) hC dX1_speakerOf_9 rfl rfl ha1 (hm.i 43 12 rfl) hF (fun hq2 hF => ?_) (fun hq2 hF => ?_)
    · refine x_iconst hC dX1_speakerOf_26 rfl ?_
      exact x_ireturn hC dX1_speakerOf_27 hm (rgc (-1) rfl) hF
    · refine x_aload_n hC dX1_speakerOf_12 rfl 0 rfl ?_
      refine x_getR (t := 44) hC dX1_speakerOf_13 rfl flX1_11 rfl (by decide) rfl rfl ?_
      refine x_aload_n hC dX1_speakerOf_16 rfl 0 rfl ?_
      refine x_getR (t := 48) hC dX1_speakerOf_17 rfl flX1_25 rfl (by decide) rfl rfl ?_
      refine x_iload_n hC dX1_speakerOf_20 rfl 1 rfl ?_
      refine x_iald hC dX1_speakerOf_21 rfl rfl (by decide) rfl hm ha1 hF (fun x3 hx3 hF => ?_)
      refine x_iald hC dX1_speakerOf_22 rfl rfl (by decide) rfl hm hx3 hF (fun x4 hx4 hF => ?_)
      refine x_goto (tgt := 27) hC dX1_speakerOf_23 rfl ?_
      exact x_ireturn hC dX1_speakerOf_27 hm hx4 hF
set_option maxRecDepth 20000 in
set_option maxHeartbeats 4000000 in
theorem T_X1_gapOf (b : Bs) (o : Mm) (m : Mm) (a1 : Int) (ha1 : inR a1) {r : Int} {m' : Mm} (h : F_X1_gapOf a1 m = some (r, m')) : Cn yX1_gapOf cX1_gapOf 2 (some .int) (0) 0 0 1 b (true, o) m [.ref (b.1 + 43), iV a1] (F_X1_gapOf a1 m) := by
  refine Cn_of rfl (Nat.le_of_ble_eq_true rfl) (fun g hC hm => ?_)
  have hF := okR_some h
  generalize hQ : (fun (r : Int) (m' : Mm) => F_X1_gapOf a1 m = some (r, m')) = Q at hF ⊢
  clear hQ h
  replace hC : Cok g b RX1 cX1_gapOf 2 0 (some .int) := hC
  refine x_lv (lv' := [(0, .ref (b.1 + 43)), (1, iV a1)]) rfl ?_
  unfold F_X1_gapOf at hF
  refine x_iload_n hC dX1_gapOf_0 rfl 1 rfl ?_
  refine x_if_lt (tgt := 21) hC dX1_gapOf_1 rfl rfl ha1 hF (fun hq1 hF => ?_) (fun hq1 hF => ?_)
  · refine x_iconst hC dX1_gapOf_21 rfl ?_
    exact x_ireturn hC dX1_gapOf_22 hm (rgc (-1) rfl) hF
  · refine x_iload_n hC dX1_gapOf_4 rfl 1 rfl ?_
    refine x_aload_n hC dX1_gapOf_5 rfl 0 rfl ?_
    refine x_getI hC dX1_gapOf_6 rfl flX1_53 rfl (by decide) rfl rfl ?_
    refine x_icmp_ge (tgt := 21) hC dX1_gapOf_9 rfl rfl ha1 (hm.i 43 12 rfl) hF (fun hq2 hF => ?_) (fun hq2 hF => ?_)
    · refine x_iconst hC dX1_gapOf_21 rfl ?_
      exact x_ireturn hC dX1_gapOf_22 hm (rgc (-1) rfl) hF
    · refine x_aload_n hC dX1_gapOf_12 rfl 0 rfl ?_
      refine x_getR (t := 49) hC dX1_gapOf_13 rfl flX1_28 rfl (by decide) rfl rfl ?_
      refine x_iload_n hC dX1_gapOf_16 rfl 1 rfl ?_
      refine x_iald hC dX1_gapOf_17 rfl rfl (by decide) rfl hm ha1 hF (fun x3 hx3 hF => ?_)
      refine x_goto (tgt := 22) hC dX1_gapOf_18 rfl ?_
      exact x_ireturn hC dX1_gapOf_22 hm hx3 hF
set_option maxRecDepth 20000 in
set_option maxHeartbeats 4000000 in
theorem T_X4_has (b : Bs) (o : Mm) (m : Mm) (a1 : Int) (ha1 : inR a1) {r : Int} {m' : Mm} (h : F_X4_has a1 m = some (r, m')) : Cn yX4_has cX4_has 2 (some .boolean) (0) 0 0 3 b (true, o) m [.ref (b.1 + 1), iV a1] (F_X4_has a1 m) := by
  refine Cn_of rfl (Nat.le_of_ble_eq_true rfl) (fun g hC hm => ?_)
  have hF := okR_some h
  generalize hQ : (fun (r : Int) (m' : Mm) => F_X4_has a1 m = some (r, m')) = Q at hF ⊢
  clear hQ h
  replace hC : Cok g b RX4 cX4_has 2 0 (some .boolean) := hC
  refine x_lv (lv' := [(0, .ref (b.1 + 1)), (1, iV a1)]) rfl ?_
  unfold F_X4_has at hF
  refine x_iload_n hC dX4_has_0 rfl 1 rfl ?_
  refine x_if_lt (tgt := 16) hC dX4_has_1 rfl rfl ha1 hF (fun hq1 hF => ?_) (fun hq1 hF => ?_)
  · refine x_iconst hC dX4_has_16 rfl ?_
    exact x_zreturn hC dX4_has_17 hm (Or.inl rfl) hF
  · refine x_iload_n hC dX4_has_4 rfl 1 rfl ?_
    refine x_aload_n hC dX4_has_5 rfl 0 rfl ?_
    refine x_getI hC dX4_has_6 rfl flX4_34 rfl (by decide) rfl rfl ?_
    refine x_icmp_ge (tgt := 16) hC dX4_has_9 rfl rfl ha1 (hm.i 1 5 rfl) hF (fun hq2 hF => ?_) (fun hq2 hF => ?_)
    · refine x_iconst hC dX4_has_16 rfl ?_
      exact x_zreturn hC dX4_has_17 hm (Or.inl rfl) hF
    · refine x_iconst hC dX4_has_12 rfl ?_
      refine x_goto (tgt := 17) hC dX4_has_13 rfl ?_
      exact x_zreturn hC dX4_has_17 hm (Or.inr rfl) hF
set_option maxRecDepth 20000 in
set_option maxHeartbeats 4000000 in
theorem T_X4_wordsBy (b : Bs) (o : Mm) (m : Mm) (a1 : Int) (ha1 : inR a1) {r : Int} {m' : Mm} (h : F_X4_wordsBy a1 m = some (r, m')) : Cn yX4_wordsBy cX4_wordsBy 2 (some .int) (1) 0 0 1 b (true, o) m [.ref (b.1 + 1), iV a1] (F_X4_wordsBy a1 m) := by
  refine Cn_of rfl (Nat.le_of_ble_eq_true rfl) (fun g hC hm => ?_)
  have hF := okR_some h
  generalize hQ : (fun (r : Int) (m' : Mm) => F_X4_wordsBy a1 m = some (r, m')) = Q at hF ⊢
  clear hQ h
  replace hC : Cok g b RX4 cX4_wordsBy 2 1 (some .int) := hC
  refine x_lv (lv' := [(0, .ref (b.1 + 1)), (1, iV a1)]) rfl ?_
  unfold F_X4_wordsBy at hF
  refine x_aload_n hC dX4_wordsBy_0 rfl 0 rfl ?_
  refine x_iload_n hC dX4_wordsBy_1 rfl 1 rfl ?_
  refine x_callV3 (kc2 := 0) (ks2 := 0) (k := 1) (As := [iV a1]) (rest := []) hC dX4_wordsBy_2 rfl hm (fun _ _ h => T_X4_has b _ m a1 ha1 h) mlX4_37 vlX4_has rfl (by decide) rfl rfl (Nat.le_of_ble_eq_true rfl) (by decide) (by decide) rfl rfl hF (fun r1 m2 hr1 hm2 hF => ?_)
  refine x_if_eq (tgt := 17) hC dX4_wordsBy_5 rfl rfl (rg_01 hr1) hF (fun hq3 hF => ?_) (fun hq3 hF => ?_)
  · refine x_iconst hC dX4_wordsBy_17 rfl ?_
    exact x_ireturn hC dX4_wordsBy_18 hm2 (rgc 0 rfl) hF
  · refine x_aload_n hC dX4_wordsBy_8 rfl 0 rfl ?_
    refine x_getR (t := 5) hC dX4_wordsBy_9 rfl flX4_21 rfl (by decide) rfl rfl ?_
    refine x_iload_n hC dX4_wordsBy_12 rfl 1 rfl ?_
    refine x_iald hC dX4_wordsBy_13 rfl rfl (by decide) rfl hm2 ha1 hF (fun x4 hx4 hF => ?_)
    refine x_goto (tgt := 18) hC dX4_wordsBy_14 rfl ?_
    exact x_ireturn hC dX4_wordsBy_18 hm2 hx4 hF
set_option maxRecDepth 20000 in
set_option maxHeartbeats 4000000 in
theorem WJ_X1_choose_81 {g : Gx} {b : Bs} {o : Mm} {Q : Int → Mm → Prop} (kc ks : Nat) {k_17 : Int → Int → Mm → Rs} (hC : Cok g b RX1 cX1_choose 4 2 none) (hk_17 : ∀ v1 : Int, inR v1 → ∀ v2 : Int, inR v2 → ∀ m : Mm, Rg m → okR (k_17 v1 v2 m) Q → X g b (true, o) 4 (ZM g b (true, o) 0 Q) 17 [(0, .ref (b.1 + 43)), (1, iV v1), (2, iV v2)] [] m kc ks) (v1 : Int) (hv1 : inR v1) (v2 : Int) (hv2 : inR v2) (m : Mm) (hm : Rg m) (hF : okR (J_X1_choose_81 kc ks k_17 v1 v2 m) Q) : X g b (true, o) 4 (ZM g b (true, o) 0 Q) 81 [(0, .ref (b.1 + 43)), (1, iV v1), (2, iV v2)] [] m kc ks := by
  unfold J_X1_choose_81 at hF
  refine x_iinc (p := 2) (lv' := [(0, .ref (b.1 + 43)), (1, iV v1)]) hC dX1_choose_81 rfl rfl (by decide) rfl hF (fun x1 hx1 hF => ?_)
  refine x_goto (tgt := 17) hC dX1_choose_84 rfl ?_
  refine x_sub [1, 2, 0] rfl ?_
  exact hk_17 v1 hv1 x1 hx1 m hm hF
set_option maxRecDepth 20000 in
set_option maxHeartbeats 4000000 in
theorem WL_X1_choose_122 {g : Gx} {b : Bs} {o : Mm} {Q : Int → Mm → Prop} (hC : Cok g b RX1 cX1_choose 4 2 none) : ∀ n : Nat, ∀ v2 : Int, inR v2 → ∀ v3 : Int, inR v3 → ∀ m : Mm, Rg m → okR (L_X1_choose_122 n v2 v3 m) Q → X g b (true, o) 4 (ZM g b (true, o) 0 Q) 122 [(0, .ref (b.1 + 43)), (2, iV v2), (3, iV v3)] [] m 0 0 := by
  intro n
  induction n with
  | zero => intro v2 hv2 v3 hv3 m hm hF; exact absurd hF (fun z => z)
  | succ n ih =>
    intro v2 hv2 v3 hv3 m hm hF
    have hF : okR (LB_X1_choose_122 (L_X1_choose_122 n) v2 v3 m) Q := hF
    unfold LB_X1_choose_122 at hF
    refine x_iload_n hC dX1_choose_122 rfl 2 rfl ?_
    refine x_iload_n hC dX1_choose_123 rfl 1 rfl ?_
    refine x_icmp_ge (tgt := 140) hC dX1_choose_124 rfl rfl hv3 hv2 hF (fun hq1 hF => ?_) (fun hq1 hF => ?_)
    · exact x_return hC dX1_choose_140 hm hF
    · refine x_aload_n hC dX1_choose_127 rfl 0 rfl ?_
      refine x_getD hC dX1_choose_128 rfl flX1_34 rfl (by decide) rfl rfl ?_
      refine x_iload_n hC dX1_choose_131 rfl 2 rfl ?_
      refine x_iconst hC dX1_choose_132 rfl ?_
      refine x_grd hF (fun hg3 hF => ?_)
      refine x_iastD hC dX1_choose_133 rfl hg3 hm hv3 (rgc (-1) rfl) hF (fun m2 hm2 hF => ?_)
      refine x_iinc (p := 2) (lv' := [(0, .ref (b.1 + 43)), (2, iV v2)]) hC dX1_choose_134 rfl rfl (by decide) rfl hF (fun x4 hx4 hF => ?_)
      refine x_goto (tgt := 122) hC dX1_choose_137 rfl ?_
      refine x_sub [1, 2, 0] rfl ?_
      exact ih v2 hv2 x4 hx4 m2 hm2 hF
set_option maxRecDepth 20000 in
set_option maxHeartbeats 4000000 in
theorem WJ_X1_choose_120 {g : Gx} {b : Bs} {o : Mm} {Q : Int → Mm → Prop} (hC : Cok g b RX1 cX1_choose 4 2 none) (v2 : Int) (hv2 : inR v2) (m : Mm) (hm : Rg m) (hF : okR (J_X1_choose_120 v2 m) Q) : X g b (true, o) 4 (ZM g b (true, o) 0 Q) 120 [(0, .ref (b.1 + 43)), (2, iV v2)] [] m 0 0 := by
  unfold J_X1_choose_120 at hF
  refine x_iconst hC dX1_choose_120 rfl ?_
  refine x_istore_nZ (lv' := [(0, .ref (b.1 + 43)), (2, iV v2)]) hC dX1_choose_121 rfl rfl (by decide) rfl (Or.inl rfl) hF (fun x1 hx1 hF => ?_)
  refine x_sub [1, 2, 0] rfl ?_
  exact WL_X1_choose_122 hC 100000  v2 hv2 x1 (rg_01 hx1) m hm hF
set_option maxRecDepth 20000 in
set_option maxHeartbeats 4000000 in
theorem WJ_X1_choose_87 {g : Gx} {b : Bs} {o : Mm} {Q : Int → Mm → Prop} (kc ks : Nat) (hC : Cok g b RX1 cX1_choose 4 2 none) (m : Mm) (hm : Rg m) (hF : okR (J_X1_choose_87 kc ks  m) Q) : X g b (true, o) 4 (ZM g b (true, o) 0 Q) 87 [(0, .ref (b.1 + 43))] [] m kc ks := by
  unfold J_X1_choose_87 at hF
  refine x_one hC dX1_choose_87 rfl kone_X1 ?_
  refine x_aload_n hC dX1_choose_90 rfl 0 rfl ?_
  refine x_getI hC dX1_choose_91 rfl flX1_56 rfl (by decide) rfl rfl ?_
  refine x_oneld hC dX1_choose_94 rfl (hm.i 43 11 rfl) hF (fun x1 hx1 hF => ?_)
  refine x_aload_n hC dX1_choose_95 rfl 0 rfl ?_
  refine x_getI hC dX1_choose_96 rfl flX1_56 rfl (by decide) rfl rfl ?_
  refine x_imul hC dX1_choose_99 rfl ?_
  refine x_bipush hC dX1_choose_100 rfl rfl ?_
  refine x_imul hC dX1_choose_102 rfl ?_
  refine x_istore_n (lv' := [(0, .ref (b.1 + 43))]) hC dX1_choose_103 rfl rfl (by decide) rfl (rg_wr _) hF (fun x2 hx2 hF => ?_)
  refine x_aload_n hC dX1_choose_104 rfl 1 rfl ?_
  refine x_getD hC dX1_choose_105 rfl flX1_34 rfl (by decide) rfl rfl ?_
  refine x_grd hF (fun hg3 hF => ?_)
  refine x_alenD hC dX1_choose_108 rfl hg3 ?_
  refine x_iload_n hC dX1_choose_109 rfl 0 rfl ?_
  refine x_icmp_ge (tgt := 120) hC dX1_choose_110 rfl rfl (rg_lenA hm _) hx2 hF (fun hq4 hF => ?_) (fun hq4 hF => ?_)
  · refine x_grd hF (fun hk hF => ?_)
    obtain ⟨rfl, rfl⟩ := hk
    refine x_sub [1, 0] rfl ?_
    exact WJ_X1_choose_120 hC  x2 hx2 m hm hF
  · refine x_aload_n hC dX1_choose_113 rfl 1 rfl ?_
    refine x_iload_n hC dX1_choose_114 rfl 0 rfl ?_
    refine x_newI hC dX1_choose_115 rfl kai hm hx2 hF (fun m5 hm5 hn6 hF => ?_)
    refine x_putD hC dX1_choose_117 rfl fpX1_34 rfl (by decide) (by decide) rfl (fun _ => rfl) (fun _ => rfl) rfl hm5 hn6 rfl hF (fun m7 hm7 hF => ?_)
    refine x_sub [1, 0] rfl ?_
    exact WJ_X1_choose_120 hC  x2 hx2 m7 hm7 hF
set_option maxRecDepth 20000 in
set_option maxHeartbeats 4000000 in
theorem WL_X1_choose_17 {g : Gx} {b : Bs} {o : Mm} {Q : Int → Mm → Prop} (kc ks : Nat) (hC : Cok g b RX1 cX1_choose 4 2 none) : ∀ n : Nat, ∀ v1 : Int, inR v1 → ∀ v2 : Int, inR v2 → ∀ m : Mm, Rg m → okR (L_X1_choose_17 kc ks n v1 v2 m) Q → X g b (true, o) 4 (ZM g b (true, o) 0 Q) 17 [(0, .ref (b.1 + 43)), (1, iV v1), (2, iV v2)] [] m kc ks := by
  intro n
  induction n with
  | zero => intro v1 hv1 v2 hv2 m hm hF; exact absurd hF (fun z => z)
  | succ n ih =>
    intro v1 hv1 v2 hv2 m hm hF
    have hF : okR (LB_X1_choose_17 kc ks (L_X1_choose_17 kc ks n) v1 v2 m) Q := hF
    unfold LB_X1_choose_17 at hF
    refine x_iload_n hC dX1_choose_17 rfl 2 rfl ?_
    refine x_aload_n hC dX1_choose_18 rfl 0 rfl ?_
    refine x_getR (t := 1) hC dX1_choose_19 rfl flX1_37 rfl (by decide) rfl rfl ?_
    refine x_getI hC dX1_choose_22 rfl flX1_59 rfl (by decide) rfl rfl ?_
    refine x_icmp_ge (tgt := 87) hC dX1_choose_25 rfl rfl hv2 (hm.i 1 5 rfl) hF (fun hq1 hF => ?_) (fun hq1 hF => ?_)
    · refine x_sub [0] rfl ?_
      exact WJ_X1_choose_87 kc ks hC   m hm hF
    · refine x_aload_n hC dX1_choose_28 rfl 0 rfl ?_
      refine x_getI hC dX1_choose_29 rfl flX1_56 rfl (by decide) rfl rfl ?_
      refine x_iconst hC dX1_choose_32 rfl ?_
      refine x_icmp_ge (tgt := 87) hC dX1_choose_33 rfl rfl (hm.i 43 11 rfl) (rgc 4 rfl) hF (fun hq2 hF => ?_) (fun hq2 hF => ?_)
      · refine x_sub [0] rfl ?_
        exact WJ_X1_choose_87 kc ks hC   m hm hF
      · refine x_iload_n hC dX1_choose_36 rfl 1 rfl ?_
        refine x_iload_n hC dX1_choose_37 rfl 2 rfl ?_
        refine x_ishr hC dX1_choose_38 rfl ?_
        refine x_iconst hC dX1_choose_39 rfl ?_
        refine x_iand hC dX1_choose_40 rfl ?_
        refine x_if_eq (tgt := 81) hC dX1_choose_41 rfl rfl (rg_tI _) hF (fun hq3 hF => ?_) (fun hq3 hF => ?_)
        · exact WJ_X1_choose_81 kc ks hC ih  v1 hv1 v2 hv2 m hm hF
        · refine x_aload_n hC dX1_choose_44 rfl 0 rfl ?_
          refine x_getR (t := 44) hC dX1_choose_45 rfl flX1_11 rfl (by decide) rfl rfl ?_
          refine x_aload_n hC dX1_choose_48 rfl 0 rfl ?_
          refine x_getI hC dX1_choose_49 rfl flX1_56 rfl (by decide) rfl rfl ?_
          refine x_iload_n hC dX1_choose_52 rfl 2 rfl ?_
          refine x_iast hC dX1_choose_53 rfl rfl (by decide) rfl hm (hm.i 43 11 rfl) hv2 hF (fun m4 hm4 hF => ?_)
          refine x_aload_n hC dX1_choose_54 rfl 0 rfl ?_
          refine x_dup hC dX1_choose_55 rfl rfl ?_
          refine x_getI hC dX1_choose_56 rfl flX1_56 rfl (by decide) rfl rfl ?_
          refine x_iconst hC dX1_choose_59 rfl ?_
          refine x_iadd hC dX1_choose_60 rfl ?_
          refine x_putI hC dX1_choose_61 rfl fpX1_56 rfl (by decide) (by decide) rfl rfl hm4 (rg_wr _) rfl hF (fun m5 hm5 hF => ?_)
          refine x_aload_n hC dX1_choose_64 rfl 0 rfl ?_
          refine x_dup hC dX1_choose_65 rfl rfl ?_
          refine x_getI hC dX1_choose_66 rfl flX1_53 rfl (by decide) rfl rfl ?_
          refine x_aload_n hC dX1_choose_69 rfl 0 rfl ?_
          refine x_getR (t := 1) hC dX1_choose_70 rfl flX1_37 rfl (by decide) rfl rfl ?_
          refine x_iload_n hC dX1_choose_73 rfl 2 rfl ?_
          refine x_callV1 (kc2 := kc) (ks2 := ks) (k := 1) (As := [iV v2]) (rest := [iV (m5 43 12), .ref (b.1 + 43)]) hC dX1_choose_74 rfl hm5 (fun _ _ h => T_X4_wordsBy b _ m5 v2 hv2 h) mlX1_62 vlX4_wordsBy rfl (by decide) rfl rfl (Nat.le_of_ble_eq_true rfl) (by decide) (by decide) (Nat.zero_add _).symm (Nat.zero_add _).symm hF (fun r6 m7 hr6 hm7 hF => ?_)
          refine x_iadd hC dX1_choose_77 rfl ?_
          refine x_putI hC dX1_choose_78 rfl fpX1_53 rfl (by decide) (by decide) rfl rfl hm7 (rg_wr _) rfl hF (fun m8 hm8 hF => ?_)
          exact WJ_X1_choose_81 kc ks hC ih  v1 hv1 v2 hv2 m8 hm8 hF
set_option maxRecDepth 20000 in
set_option maxHeartbeats 4000000 in
theorem T_X1_choose (b : Bs) (o : Mm) (m : Mm) (kc ks : Nat) (a1 : Int) (ha1 : inR a1) {r : Int} {m' : Mm} (h : F_X1_choose kc ks a1 m = some (r, m')) : Cn yX1_choose cX1_choose 4 none (2) kc ks 0 b (true, o) m [.ref (b.1 + 43), iV a1] (F_X1_choose kc ks a1 m) := by
  refine Cn_of rfl (Nat.le_of_ble_eq_true rfl) (fun g hC hm => ?_)
  have hF := okR_some h
  generalize hQ : (fun (r : Int) (m' : Mm) => F_X1_choose kc ks a1 m = some (r, m')) = Q at hF ⊢
  clear hQ h
  replace hC : Cok g b RX1 cX1_choose 4 2 none := hC
  refine x_lv (lv' := [(0, .ref (b.1 + 43)), (1, iV a1)]) rfl ?_
  unfold F_X1_choose at hF
  refine x_aload_n hC dX1_choose_0 rfl 0 rfl ?_
  refine x_iload_n hC dX1_choose_1 rfl 1 rfl ?_
  refine x_putI hC dX1_choose_2 rfl fpX1_45 rfl (by decide) (by decide) rfl rfl hm ha1 rfl hF (fun m1 hm1 hF => ?_)
  refine x_aload_n hC dX1_choose_5 rfl 0 rfl ?_
  refine x_iconst hC dX1_choose_6 rfl ?_
  refine x_putI hC dX1_choose_7 rfl fpX1_56 rfl (by decide) (by decide) rfl rfl hm1 (rgc 0 rfl) rfl hF (fun m2 hm2 hF => ?_)
  refine x_aload_n hC dX1_choose_10 rfl 0 rfl ?_
  refine x_iconst hC dX1_choose_11 rfl ?_
  refine x_putI hC dX1_choose_12 rfl fpX1_53 rfl (by decide) (by decide) rfl rfl hm2 (rgc 0 rfl) rfl hF (fun m3 hm3 hF => ?_)
  refine x_iconst hC dX1_choose_15 rfl ?_
  refine x_istore_nZ (lv' := [(0, .ref (b.1 + 43)), (1, iV a1)]) hC dX1_choose_16 rfl rfl (by decide) rfl (Or.inl rfl) hF (fun x4 hx4 hF => ?_)
  refine x_sub [1, 2, 0] rfl ?_
  exact WL_X1_choose_17 kc ks hC 100000  a1 ha1 x4 (rg_01 hx4) m3 hm3 hF
set_option maxRecDepth 20000 in
set_option maxHeartbeats 4000000 in
theorem T_X1_reach (b : Bs) (o : Mm) (m : Mm) (a1 : Int) (ha1 : inR a1) (a2 : Int) (ha2 : inR a2) {r : Int} {m' : Mm} (h : F_X1_reach a1 a2 m = some (r, m')) : Cn yX1_reach cX1_reach 4 none (0) 0 0 0 b (true, o) m [.ref (b.1 + 43), iV a1, iV a2] (F_X1_reach a1 a2 m) := by
  refine Cn_of rfl (Nat.le_of_ble_eq_true rfl) (fun g hC hm => ?_)
  have hF := okR_some h
  generalize hQ : (fun (r : Int) (m' : Mm) => F_X1_reach a1 a2 m = some (r, m')) = Q at hF ⊢
  clear hQ h
  replace hC : Cok g b RX1 cX1_reach 4 0 none := hC
  refine x_lv (lv' := [(0, .ref (b.1 + 43)), (1, iV a1), (2, iV a2)]) rfl ?_
  unfold F_X1_reach at hF
  refine x_iload_n hC dX1_reach_0 rfl 1 rfl ?_
  refine x_bipush hC dX1_reach_1 rfl rfl ?_
  refine x_imul hC dX1_reach_3 rfl ?_
  refine x_iload_n hC dX1_reach_4 rfl 2 rfl ?_
  refine x_iadd hC dX1_reach_5 rfl ?_
  refine x_istore_n (lv' := [(0, .ref (b.1 + 43)), (1, iV a1), (2, iV a2)]) hC dX1_reach_6 rfl rfl (by decide) rfl (rg_wr _) hF (fun x1 hx1 hF => ?_)
  refine x_iload_n hC dX1_reach_7 rfl 0 rfl ?_
  refine x_if_lt (tgt := 62) hC dX1_reach_8 rfl rfl hx1 hF (fun hq2 hF => ?_) (fun hq2 hF => ?_)
  · exact x_return hC dX1_reach_62 hm hF
  · refine x_iload_n hC dX1_reach_11 rfl 0 rfl ?_
    refine x_bipush hC dX1_reach_12 rfl rfl ?_
    refine x_icmp_ge (tgt := 62) hC dX1_reach_14 rfl rfl hx1 (rgc 84 rfl) hF (fun hq3 hF => ?_) (fun hq3 hF => ?_)
    · exact x_return hC dX1_reach_62 hm hF
    · refine x_aload_n hC dX1_reach_17 rfl 1 rfl ?_
      refine x_getR (t := 46) hC dX1_reach_18 rfl flX1_18 rfl (by decide) rfl rfl ?_
      refine x_iload_n hC dX1_reach_21 rfl 0 rfl ?_
      refine x_zald hC dX1_reach_22 rfl rfl (by decide) rfl hm hx1 hF (fun x4 hx4 hF => ?_)
      refine x_if_ne (tgt := 62) hC dX1_reach_23 rfl rfl (rg_01 hx4) hF (fun hq5 hF => ?_) (fun hq5 hF => ?_)
      · exact x_return hC dX1_reach_62 hm hF
      · refine x_aload_n hC dX1_reach_26 rfl 1 rfl ?_
        refine x_getI hC dX1_reach_27 rfl flX1_69 rfl (by decide) rfl rfl ?_
        refine x_bipush hC dX1_reach_30 rfl rfl ?_
        refine x_icmp_ge (tgt := 62) hC dX1_reach_32 rfl rfl (hm.i 43 13 rfl) (rgc 84 rfl) hF (fun hq6 hF => ?_) (fun hq6 hF => ?_)
        · exact x_return hC dX1_reach_62 hm hF
        · refine x_aload_n hC dX1_reach_35 rfl 1 rfl ?_
          refine x_getR (t := 46) hC dX1_reach_36 rfl flX1_18 rfl (by decide) rfl rfl ?_
          refine x_iload_n hC dX1_reach_39 rfl 0 rfl ?_
          refine x_iconst hC dX1_reach_40 rfl ?_
          refine x_zast hC dX1_reach_41 rfl rfl (by decide) rfl hm hx1 (Or.inr rfl) hF (fun m7 hm7 hF => ?_)
          refine x_aload_n hC dX1_reach_42 rfl 1 rfl ?_
          refine x_getR (t := 47) hC dX1_reach_43 rfl flX1_22 rfl (by decide) rfl rfl ?_
          refine x_aload_n hC dX1_reach_46 rfl 1 rfl ?_
          refine x_getI hC dX1_reach_47 rfl flX1_69 rfl (by decide) rfl rfl ?_
          refine x_iload_n hC dX1_reach_50 rfl 0 rfl ?_
          refine x_iast hC dX1_reach_51 rfl rfl (by decide) rfl hm7 (hm7.i 43 13 rfl) hx1 hF (fun m8 hm8 hF => ?_)
          refine x_aload_n hC dX1_reach_52 rfl 1 rfl ?_
          refine x_dup hC dX1_reach_53 rfl rfl ?_
          refine x_getI hC dX1_reach_54 rfl flX1_69 rfl (by decide) rfl rfl ?_
          refine x_iconst hC dX1_reach_57 rfl ?_
          refine x_iadd hC dX1_reach_58 rfl ?_
          refine x_putI hC dX1_reach_59 rfl fpX1_69 rfl (by decide) (by decide) rfl rfl hm8 (rg_wr _) rfl hF (fun m9 hm9 hF => ?_)
          exact x_return hC dX1_reach_62 hm9 hF
set_option maxRecDepth 20000 in
set_option maxHeartbeats 4000000 in
theorem T_X4_wordOf (b : Bs) (o : Mm) (m : Mm) (a1 : Int) (ha1 : inR a1) (a2 : Int) (ha2 : inR a2) {r : Int} {m' : Mm} (h : F_X4_wordOf a1 a2 m = some (r, m')) : Cn yX4_wordOf cX4_wordOf 3 (some .int) (2) 0 0 1 b (true, o) m [.ref (b.1 + 1), iV a1, iV a2] (F_X4_wordOf a1 a2 m) := by
  refine Cn_of rfl (Nat.le_of_ble_eq_true rfl) (fun g hC hm => ?_)
  have hF := okR_some h
  generalize hQ : (fun (r : Int) (m' : Mm) => F_X4_wordOf a1 a2 m = some (r, m')) = Q at hF ⊢
  clear hQ h
  replace hC : Cok g b RX4 cX4_wordOf 3 2 (some .int) := hC
  refine x_lv (lv' := [(0, .ref (b.1 + 1)), (1, iV a1), (2, iV a2)]) rfl ?_
  unfold F_X4_wordOf at hF
  refine x_iload_n hC dX4_wordOf_0 rfl 2 rfl ?_
  refine x_if_lt (tgt := 26) hC dX4_wordOf_1 rfl rfl ha2 hF (fun hq1 hF => ?_) (fun hq1 hF => ?_)
  · refine x_iconst hC dX4_wordOf_26 rfl ?_
    exact x_ireturn hC dX4_wordOf_27 hm (rgc 0 rfl) hF
  · refine x_iload_n hC dX4_wordOf_4 rfl 2 rfl ?_
    refine x_aload_n hC dX4_wordOf_5 rfl 0 rfl ?_
    refine x_iload_n hC dX4_wordOf_6 rfl 1 rfl ?_
    refine x_callV1 (kc2 := 0) (ks2 := 0) (k := 1) (As := [iV a1]) (rest := [iV a2]) hC dX4_wordOf_7 rfl hm (fun _ _ h => T_X4_wordsBy b _ m a1 ha1 h) mlX4_60 vlX4_wordsBy rfl (by decide) rfl rfl (Nat.le_of_ble_eq_true rfl) (by decide) (by decide) rfl rfl hF (fun r2 m3 hr2 hm3 hF => ?_)
    refine x_icmp_ge (tgt := 26) hC dX4_wordOf_10 rfl rfl ha2 hr2 hF (fun hq4 hF => ?_) (fun hq4 hF => ?_)
    · refine x_iconst hC dX4_wordOf_26 rfl ?_
      exact x_ireturn hC dX4_wordOf_27 hm3 (rgc 0 rfl) hF
    · refine x_aload_n hC dX4_wordOf_13 rfl 0 rfl ?_
      refine x_getR (t := 6) hC dX4_wordOf_14 rfl flX4_24 rfl (by decide) rfl rfl ?_
      refine x_iload_n hC dX4_wordOf_17 rfl 1 rfl ?_
      refine x_iconst hC dX4_wordOf_18 rfl ?_
      refine x_imul hC dX4_wordOf_19 rfl ?_
      refine x_iload_n hC dX4_wordOf_20 rfl 2 rfl ?_
      refine x_iadd hC dX4_wordOf_21 rfl ?_
      refine x_iald hC dX4_wordOf_22 rfl rfl (by decide) rfl hm3 (rg_wr _) hF (fun x5 hx5 hF => ?_)
      refine x_goto (tgt := 27) hC dX4_wordOf_23 rfl ?_
      exact x_ireturn hC dX4_wordOf_27 hm3 hx5 hF
set_option maxRecDepth 20000 in
set_option maxHeartbeats 4000000 in
theorem T_J9_max_7cf53 (b : Bs) (o : Mm) (m : Mm) (a1 : Int) (ha1 : inR a1) (a2 : Int) (ha2 : inR a2) {r : Int} {m' : Mm} (h : F_J9_max_7cf53 a1 a2 m = some (r, m')) : Cn yJ9_max_7cf53 cJ9_max_7cf53 2 (some .int) (0) 0 0 1 b (true, o) m [iV a1, iV a2] (F_J9_max_7cf53 a1 a2 m) := by
  refine Cn_ofF (by decide +kernel) (Nat.le_of_ble_eq_true rfl) (fun g hC hm => ?_)
  have hF := okR_some h
  generalize hQ : (fun (r : Int) (m' : Mm) => F_J9_max_7cf53 a1 a2 m = some (r, m')) = Q at hF ⊢
  clear hQ h
  replace hC : Cok g b RJ9 cJ9_max_7cf53 2 0 (some .int) := hC
  refine x_lv (lv' := [(0, iV a1), (1, iV a2)]) rfl ?_
  unfold F_J9_max_7cf53 at hF
  refine x_iload_n hC dJ9_max_7cf53_0 rfl 0 rfl ?_
  refine x_iload_n hC dJ9_max_7cf53_1 rfl 1 rfl ?_
  refine x_icmp_lt (tgt := 9) hC dJ9_max_7cf53_2 rfl rfl ha1 ha2 hF (fun hq1 hF => ?_) (fun hq1 hF => ?_)
  · refine x_iload_n hC dJ9_max_7cf53_9 rfl 1 rfl ?_
    exact x_ireturn hC dJ9_max_7cf53_10 hm ha2 hF
  · refine x_iload_n hC dJ9_max_7cf53_5 rfl 0 rfl ?_
    refine x_goto (tgt := 10) hC dJ9_max_7cf53_6 rfl ?_
    exact x_ireturn hC dJ9_max_7cf53_10 hm ha1 hF
set_option maxRecDepth 20000 in
set_option maxHeartbeats 4000000 in
theorem T_J9_min_7cf53 (b : Bs) (o : Mm) (m : Mm) (a1 : Int) (ha1 : inR a1) (a2 : Int) (ha2 : inR a2) {r : Int} {m' : Mm} (h : F_J9_min_7cf53 a1 a2 m = some (r, m')) : Cn yJ9_min_7cf53 cJ9_min_7cf53 2 (some .int) (0) 0 0 1 b (true, o) m [iV a1, iV a2] (F_J9_min_7cf53 a1 a2 m) := by
  refine Cn_ofF (by decide +kernel) (Nat.le_of_ble_eq_true rfl) (fun g hC hm => ?_)
  have hF := okR_some h
  generalize hQ : (fun (r : Int) (m' : Mm) => F_J9_min_7cf53 a1 a2 m = some (r, m')) = Q at hF ⊢
  clear hQ h
  replace hC : Cok g b RJ9 cJ9_min_7cf53 2 0 (some .int) := hC
  refine x_lv (lv' := [(0, iV a1), (1, iV a2)]) rfl ?_
  unfold F_J9_min_7cf53 at hF
  refine x_iload_n hC dJ9_min_7cf53_0 rfl 0 rfl ?_
  refine x_iload_n hC dJ9_min_7cf53_1 rfl 1 rfl ?_
  refine x_icmp_gt (tgt := 9) hC dJ9_min_7cf53_2 rfl rfl ha1 ha2 hF (fun hq1 hF => ?_) (fun hq1 hF => ?_)
  · refine x_iload_n hC dJ9_min_7cf53_9 rfl 1 rfl ?_
    exact x_ireturn hC dJ9_min_7cf53_10 hm ha2 hF
  · refine x_iload_n hC dJ9_min_7cf53_5 rfl 0 rfl ?_
    refine x_goto (tgt := 10) hC dJ9_min_7cf53_6 rfl ?_
    exact x_ireturn hC dJ9_min_7cf53_10 hm ha1 hF
set_option maxRecDepth 20000 in
set_option maxHeartbeats 4000000 in
theorem T_X7_letterAt (b : Bs) (o : Mm) (m : Mm) (a1 : Int) (ha1 : inR a1) {r : Int} {m' : Mm} (h : F_X7_letterAt a1 m = some (r, m')) : Cn yX7_letterAt cX7_letterAt 2 (some .int) (0) 0 0 1 b (true, o) m [.ref (b.1 + 17), iV a1] (F_X7_letterAt a1 m) := by
  refine Cn_of rfl (Nat.le_of_ble_eq_true rfl) (fun g hC hm => ?_)
  have hF := okR_some h
  generalize hQ : (fun (r : Int) (m' : Mm) => F_X7_letterAt a1 m = some (r, m')) = Q at hF ⊢
  clear hQ h
  replace hC : Cok g b RX7 cX7_letterAt 2 0 (some .int) := hC
  refine x_lv (lv' := [(0, .ref (b.1 + 17)), (1, iV a1)]) rfl ?_
  unfold F_X7_letterAt at hF
  refine x_iload_n hC dX7_letterAt_0 rfl 1 rfl ?_
  refine x_if_lt (tgt := 22) hC dX7_letterAt_1 rfl rfl ha1 hF (fun hq1 hF => ?_) (fun hq1 hF => ?_)
  · refine x_iconst hC dX7_letterAt_22 rfl ?_
    exact x_ireturn hC dX7_letterAt_23 hm (rgc 0 rfl) hF
  · refine x_iload_n hC dX7_letterAt_4 rfl 1 rfl ?_
    refine x_aload_n hC dX7_letterAt_5 rfl 0 rfl ?_
    refine x_getR (t := 18) hC dX7_letterAt_6 rfl flX7_9 rfl (by decide) rfl rfl ?_
    refine x_alenS (x := 10) hC dX7_letterAt_9 rfl rfl (by decide) rfl ?_
    refine x_icmp_ge (tgt := 22) hC dX7_letterAt_10 rfl rfl ha1 (rgc 10 rfl) hF (fun hq2 hF => ?_) (fun hq2 hF => ?_)
    · refine x_iconst hC dX7_letterAt_22 rfl ?_
      exact x_ireturn hC dX7_letterAt_23 hm (rgc 0 rfl) hF
    · refine x_aload_n hC dX7_letterAt_13 rfl 0 rfl ?_
      refine x_getR (t := 18) hC dX7_letterAt_14 rfl flX7_9 rfl (by decide) rfl rfl ?_
      refine x_iload_n hC dX7_letterAt_17 rfl 1 rfl ?_
      refine x_iald hC dX7_letterAt_18 rfl rfl (by decide) rfl hm ha1 hF (fun x3 hx3 hF => ?_)
      refine x_goto (tgt := 23) hC dX7_letterAt_19 rfl ?_
      exact x_ireturn hC dX7_letterAt_23 hm hx3 hF
set_option maxRecDepth 20000 in
set_option maxHeartbeats 4000000 in
theorem WJ_X7_reckon_23 {g : Gx} {b : Bs} {o : Mm} {Q : Int → Mm → Prop} (hC : Cok g b RX7 cX7_reckon 4 0 (some .int)) (v1 : Int) (hv1 : inR v1) (v2 : Int) (hv2 : inR v2) (v3 : Int) (hv3 : inR v3) (m : Mm) (hm : Rg m) (hF : okR (J_X7_reckon_23 v1 v2 v3 m) Q) : X g b (true, o) 4 (ZM g b (true, o) 1 Q) 23 [(1, iV v1), (2, iV v2), (3, iV v3)] [] m 0 0 := by
  unfold J_X7_reckon_23 at hF
  refine x_iload_n hC dX7_reckon_23 rfl 0 rfl ?_
  refine x_look1 (v := 37) (off := 84) (tgt := 108) hC dX7_reckon_24 (by decide) rfl hv1 hF (fun hq1 hF => ?_) (fun hq1 hF => ?_)
  · refine x_iload_n hC dX7_reckon_108 rfl 1 rfl ?_
    refine x_iload_n hC dX7_reckon_109 rfl 2 rfl ?_
    refine x_irem hC dX7_reckon_110 rfl hv2 hv3 hF (fun hz2 hF => ?_)
    exact x_ireturn hC dX7_reckon_111 hm (rg_wr _) hF
  refine x_look1 (v := 42) (off := 76) (tgt := 100) hC dX7_reckon_24 (by decide) rfl hv1 hF (fun hq3 hF => ?_) (fun hq3 hF => ?_)
  · refine x_iload_n hC dX7_reckon_100 rfl 1 rfl ?_
    refine x_iload_n hC dX7_reckon_101 rfl 2 rfl ?_
    refine x_imul hC dX7_reckon_102 rfl ?_
    exact x_ireturn hC dX7_reckon_103 hm (rg_wr _) hF
  refine x_look1 (v := 43) (off := 68) (tgt := 92) hC dX7_reckon_24 (by decide) rfl hv1 hF (fun hq4 hF => ?_) (fun hq4 hF => ?_)
  · refine x_iload_n hC dX7_reckon_92 rfl 1 rfl ?_
    refine x_iload_n hC dX7_reckon_93 rfl 2 rfl ?_
    refine x_iadd hC dX7_reckon_94 rfl ?_
    exact x_ireturn hC dX7_reckon_95 hm (rg_wr _) hF
  refine x_look1 (v := 45) (off := 72) (tgt := 96) hC dX7_reckon_24 (by decide) rfl hv1 hF (fun hq5 hF => ?_) (fun hq5 hF => ?_)
  · refine x_iload_n hC dX7_reckon_96 rfl 1 rfl ?_
    refine x_iload_n hC dX7_reckon_97 rfl 2 rfl ?_
    refine x_isub hC dX7_reckon_98 rfl ?_
    exact x_ireturn hC dX7_reckon_99 hm (rg_wr _) hF
  refine x_look1 (v := 47) (off := 80) (tgt := 104) hC dX7_reckon_24 (by decide) rfl hv1 hF (fun hq6 hF => ?_) (fun hq6 hF => ?_)
  · refine x_iload_n hC dX7_reckon_104 rfl 1 rfl ?_
    refine x_iload_n hC dX7_reckon_105 rfl 2 rfl ?_
    refine x_idiv hC dX7_reckon_106 rfl hv2 hv3 hF (fun hz7 hF => ?_)
    exact x_ireturn hC dX7_reckon_107 hm (rg_wr _) hF
  refine x_look1 (v := 60) (off := 88) (tgt := 112) hC dX7_reckon_24 (by decide) rfl hv1 hF (fun hq8 hF => ?_) (fun hq8 hF => ?_)
  · refine x_iload_n hC dX7_reckon_112 rfl 1 rfl ?_
    refine x_iload_n hC dX7_reckon_113 rfl 2 rfl ?_
    refine x_icmp_ge (tgt := 121) hC dX7_reckon_114 rfl rfl hv2 hv3 hF (fun hq9 hF => ?_) (fun hq9 hF => ?_)
    · refine x_iconst hC dX7_reckon_121 rfl ?_
      exact x_ireturn hC dX7_reckon_122 hm (rgc 0 rfl) hF
    · refine x_iconst hC dX7_reckon_117 rfl ?_
      refine x_goto (tgt := 122) hC dX7_reckon_118 rfl ?_
      exact x_ireturn hC dX7_reckon_122 hm (rgc 1 rfl) hF
  refine x_look1 (v := 62) (off := 99) (tgt := 123) hC dX7_reckon_24 (by decide) rfl hv1 hF (fun hq10 hF => ?_) (fun hq10 hF => ?_)
  · refine x_iload_n hC dX7_reckon_123 rfl 1 rfl ?_
    refine x_iload_n hC dX7_reckon_124 rfl 2 rfl ?_
    refine x_icmp_le (tgt := 132) hC dX7_reckon_125 rfl rfl hv2 hv3 hF (fun hq11 hF => ?_) (fun hq11 hF => ?_)
    · refine x_iconst hC dX7_reckon_132 rfl ?_
      exact x_ireturn hC dX7_reckon_133 hm (rgc 0 rfl) hF
    · refine x_iconst hC dX7_reckon_128 rfl ?_
      refine x_goto (tgt := 133) hC dX7_reckon_129 rfl ?_
      exact x_ireturn hC dX7_reckon_133 hm (rgc 1 rfl) hF
  refine x_lookD (tgt := 134) [37, 42, 43, 45, 47, 60, 62] hC dX7_reckon_24 rfl hv1 rfl (List.forall_mem_cons.mpr ⟨hq1, (List.forall_mem_cons.mpr ⟨hq3, (List.forall_mem_cons.mpr ⟨hq4, (List.forall_mem_cons.mpr ⟨hq5, (List.forall_mem_cons.mpr ⟨hq6, (List.forall_mem_cons.mpr ⟨hq8, (List.forall_mem_cons.mpr ⟨hq10, (fun _ h => absurd h List.not_mem_nil)⟩)⟩)⟩)⟩)⟩)⟩)⟩) ?_
  refine x_iload_n hC dX7_reckon_134 rfl 1 rfl ?_
  refine x_iload_n hC dX7_reckon_135 rfl 2 rfl ?_
  refine x_icmp_ne (tgt := 143) hC dX7_reckon_136 rfl rfl hv2 hv3 hF (fun hq12 hF => ?_) (fun hq12 hF => ?_)
  · refine x_iconst hC dX7_reckon_143 rfl ?_
    exact x_ireturn hC dX7_reckon_144 hm (rgc 0 rfl) hF
  · refine x_iconst hC dX7_reckon_139 rfl ?_
    refine x_goto (tgt := 144) hC dX7_reckon_140 rfl ?_
    exact x_ireturn hC dX7_reckon_144 hm (rgc 1 rfl) hF
set_option maxRecDepth 20000 in
set_option maxHeartbeats 4000000 in
theorem WJ_X7_reckon_12 {g : Gx} {b : Bs} {o : Mm} {Q : Int → Mm → Prop} (hC : Cok g b RX7 cX7_reckon 4 0 (some .int)) (v1 : Int) (hv1 : inR v1) (v2 : Int) (hv2 : inR v2) (v3 : Int) (hv3 : inR v3) (m : Mm) (hm : Rg m) (hF : okR (J_X7_reckon_12 v1 v2 v3 m) Q) : X g b (true, o) 4 (ZM g b (true, o) 1 Q) 12 [(0, .ref (b.1 + 17)), (1, iV v1), (2, iV v2), (3, iV v3)] [] m 0 0 := by
  unfold J_X7_reckon_12 at hF
  refine x_iload_n hC dX7_reckon_12 rfl 3 rfl ?_
  refine x_if_ne (tgt := 23) hC dX7_reckon_13 rfl rfl hv3 hF (fun hq1 hF => ?_) (fun hq1 hF => ?_)
  · refine x_sub [1, 2, 3] rfl ?_
    exact WJ_X7_reckon_23 hC  v1 hv1 v2 hv2 v3 hv3 m hm hF
  · refine x_aload_n hC dX7_reckon_16 rfl 0 rfl ?_
    refine x_iconst hC dX7_reckon_17 rfl ?_
    refine x_putZ hC dX7_reckon_18 rfl fpX7_81 rfl (by decide) (by decide) rfl rfl hm (Or.inr rfl) rfl hF (fun m2 hm2 hF => ?_)
    refine x_iconst hC dX7_reckon_21 rfl ?_
    exact x_ireturn hC dX7_reckon_22 hm2 (rgc 0 rfl) hF
set_option maxRecDepth 20000 in
set_option maxHeartbeats 4000000 in
theorem T_X7_reckon (b : Bs) (o : Mm) (m : Mm) (a1 : Int) (ha1 : inR a1) (a2 : Int) (ha2 : inR a2) (a3 : Int) (ha3 : inR a3) {r : Int} {m' : Mm} (h : F_X7_reckon a1 a2 a3 m = some (r, m')) : Cn yX7_reckon cX7_reckon 4 (some .int) (0) 0 0 1 b (true, o) m [.ref (b.1 + 17), iV a1, iV a2, iV a3] (F_X7_reckon a1 a2 a3 m) := by
  refine Cn_of rfl (Nat.le_of_ble_eq_true rfl) (fun g hC hm => ?_)
  have hF := okR_some h
  generalize hQ : (fun (r : Int) (m' : Mm) => F_X7_reckon a1 a2 a3 m = some (r, m')) = Q at hF ⊢
  clear hQ h
  replace hC : Cok g b RX7 cX7_reckon 4 0 (some .int) := hC
  refine x_lv (lv' := [(0, .ref (b.1 + 17)), (1, iV a1), (2, iV a2), (3, iV a3)]) rfl ?_
  unfold F_X7_reckon at hF
  refine x_iload_n hC dX7_reckon_0 rfl 1 rfl ?_
  refine x_bipush hC dX7_reckon_1 rfl rfl ?_
  refine x_icmp_eq (tgt := 12) hC dX7_reckon_3 rfl rfl ha1 (rgc 47 rfl) hF (fun hq1 hF => ?_) (fun hq1 hF => ?_)
  · exact WJ_X7_reckon_12 hC  a1 ha1 a2 ha2 a3 ha3 m hm hF
  · refine x_iload_n hC dX7_reckon_6 rfl 1 rfl ?_
    refine x_bipush hC dX7_reckon_7 rfl rfl ?_
    refine x_icmp_ne (tgt := 23) hC dX7_reckon_9 rfl rfl ha1 (rgc 37 rfl) hF (fun hq2 hF => ?_) (fun hq2 hF => ?_)
    · refine x_sub [1, 2, 3] rfl ?_
      exact WJ_X7_reckon_23 hC  a1 ha1 a2 ha2 a3 ha3 m hm hF
    · exact WJ_X7_reckon_12 hC  a1 ha1 a2 ha2 a3 ha3 m hm hF
set_option maxRecDepth 20000 in
set_option maxHeartbeats 4000000 in
theorem WJ_X7_run_230 {g : Gx} {b : Bs} {o : Mm} {Q : Int → Mm → Prop} {k_10 : Int → Int → Int → Mm → Rs} (hC : Cok g b RX7 cX7_run 7 1 (some .int)) (hk_10 : ∀ v2 : Int, inR v2 → ∀ v3 : Int, inR v3 → ∀ v4 : Int, inR v4 → ∀ m : Mm, Rg m → okR (k_10 v2 v3 v4 m) Q → X g b (true, o) 7 (ZM g b (true, o) 1 Q) 10 [(0, .ref (b.1 + 17)), (2, iV v2), (3, iV v3), (4, iV v4)] [] m 0 0) (v2 : Int) (hv2 : inR v2) (v3 : Int) (hv3 : inR v3) (v4 : Int) (hv4 : inR v4) (m : Mm) (hm : Rg m) (hF : okR (J_X7_run_230 k_10 v2 v3 v4 m) Q) : X g b (true, o) 7 (ZM g b (true, o) 1 Q) 230 [(0, .ref (b.1 + 17)), (2, iV v2), (3, iV v3), (4, iV v4)] [] m 0 0 := by
  unfold J_X7_run_230 at hF
  refine x_aload_n hC dX7_run_230 rfl 0 rfl ?_
  refine x_getI hC dX7_run_231 rfl flX7_81 rfl (by decide) rfl rfl ?_
  refine x_if_eq (tgt := 239) hC dX7_run_234 rfl rfl (hm.i 17 5 rfl) hF (fun hq1 hF => ?_) (fun hq1 hF => ?_)
  · refine x_iinc (p := 3) (lv' := [(0, .ref (b.1 + 17)), (2, iV v2), (3, iV v3)]) hC dX7_run_239 rfl rfl (by decide) rfl hF (fun x2 hx2 hF => ?_)
    refine x_goto (tgt := 10) hC dX7_run_242 rfl ?_
    refine x_sub [1, 2, 3, 0] rfl ?_
    exact hk_10 v2 hv2 v3 hv3 x2 hx2 m hm hF
  · refine x_iconst hC dX7_run_237 rfl ?_
    exact x_ireturn hC dX7_run_238 hm (rgc 0 rfl) hF
set_option maxRecDepth 20000 in
set_option maxHeartbeats 4000000 in
theorem WJ_X7_run_89 {g : Gx} {b : Bs} {o : Mm} {Q : Int → Mm → Prop} {k_10 : Int → Int → Int → Mm → Rs} (hC : Cok g b RX7 cX7_run 7 1 (some .int)) (hk_10 : ∀ v2 : Int, inR v2 → ∀ v3 : Int, inR v3 → ∀ v4 : Int, inR v4 → ∀ m : Mm, Rg m → okR (k_10 v2 v3 v4 m) Q → X g b (true, o) 7 (ZM g b (true, o) 1 Q) 10 [(0, .ref (b.1 + 17)), (2, iV v2), (3, iV v3), (4, iV v4)] [] m 0 0) (v2 : Int) (hv2 : inR v2) (v3 : Int) (hv3 : inR v3) (v4 : Int) (hv4 : inR v4) (m : Mm) (hm : Rg m) (hF : okR (J_X7_run_89 k_10 v2 v3 v4 m) Q) : X g b (true, o) 7 (ZM g b (true, o) 1 Q) 89 [(0, .ref (b.1 + 17)), (2, iV v2), (3, iV v3), (4, iV v4)] [] m 0 0 := by
  unfold J_X7_run_89 at hF
  refine x_iinc (p := 2) (lv' := [(0, .ref (b.1 + 17)), (2, iV v2), (4, iV v4)]) hC dX7_run_89 rfl rfl (by decide) rfl hF (fun x1 hx1 hF => ?_)
  refine x_goto (tgt := 230) hC dX7_run_92 rfl ?_
  refine x_sub [1, 2, 0, 3] rfl ?_
  exact WJ_X7_run_230 hC hk_10  v2 hv2 x1 hx1 v4 hv4 m hm hF
set_option maxRecDepth 20000 in
set_option maxHeartbeats 4000000 in
theorem WJ_X7_run_59 {g : Gx} {b : Bs} {o : Mm} {Q : Int → Mm → Prop} {k_10 : Int → Int → Int → Mm → Rs} (hC : Cok g b RX7 cX7_run 7 1 (some .int)) (hk_10 : ∀ v2 : Int, inR v2 → ∀ v3 : Int, inR v3 → ∀ v4 : Int, inR v4 → ∀ m : Mm, Rg m → okR (k_10 v2 v3 v4 m) Q → X g b (true, o) 7 (ZM g b (true, o) 1 Q) 10 [(0, .ref (b.1 + 17)), (2, iV v2), (3, iV v3), (4, iV v4)] [] m 0 0) (v2 : Int) (hv2 : inR v2) (v3 : Int) (hv3 : inR v3) (v4 : Int) (hv4 : inR v4) (v5 : Int) (hv5 : inR v5) (v6 : Int) (hv6 : inR v6) (m : Mm) (hm : Rg m) (hF : okR (J_X7_run_59 k_10 v2 v3 v4 v5 v6 m) Q) : X g b (true, o) 7 (ZM g b (true, o) 1 Q) 59 [(0, .ref (b.1 + 17)), (2, iV v2), (3, iV v3), (4, iV v4), (5, iV v5), (6, iV v6)] [] m 0 0 := by
  unfold J_X7_run_59 at hF
  refine x_iload_n hC dX7_run_59 rfl 2 rfl ?_
  refine x_bipush hC dX7_run_60 rfl rfl ?_
  refine x_icmp_lt (tgt := 67) hC dX7_run_62 rfl rfl hv3 (rgc 24 rfl) hF (fun hq1 hF => ?_) (fun hq1 hF => ?_)
  · refine x_aload_n hC dX7_run_67 rfl 0 rfl ?_
    refine x_getR (t := 19) hC dX7_run_68 rfl flX7_15 rfl (by decide) rfl rfl ?_
    refine x_iload_n hC dX7_run_71 rfl 2 rfl ?_
    refine x_iload hC dX7_run_72 rfl 4 rfl ?_
    refine x_if_ne (tgt := 82) hC dX7_run_74 rfl rfl hv5 hF (fun hq2 hF => ?_) (fun hq2 hF => ?_)
    · refine x_aload_n hC dX7_run_82 rfl 0 rfl ?_
      refine x_iload hC dX7_run_83 rfl 5 rfl ?_
      refine x_callV1 (kc2 := 0) (ks2 := 0) (k := 17) (As := [iV v6]) (rest := [iV v3, .ref (b.1 + 19)]) hC dX7_run_85 rfl hm (fun _ _ h => T_X7_letterAt b _ m v6 hv6 h) mlX7_90 vlX7_letterAt rfl (by decide) rfl rfl (Nat.le_of_ble_eq_true rfl) (by decide) (by decide) rfl rfl hF (fun r3 m4 hr3 hm4 hF => ?_)
      refine x_iast hC dX7_run_88 rfl rfl (by decide) rfl hm4 hv3 hr3 hF (fun m5 hm5 hF => ?_)
      refine x_sub [0, 1, 2, 3] rfl ?_
      exact WJ_X7_run_89 hC hk_10  v2 hv2 v3 hv3 v4 hv4 m5 hm5 hF
    · refine x_iload hC dX7_run_77 rfl 5 rfl ?_
      refine x_goto (tgt := 88) hC dX7_run_79 rfl ?_
      refine x_iast hC dX7_run_88 rfl rfl (by decide) rfl hm hv3 hv6 hF (fun m6 hm6 hF => ?_)
      refine x_sub [0, 1, 2, 3] rfl ?_
      exact WJ_X7_run_89 hC hk_10  v2 hv2 v3 hv3 v4 hv4 m6 hm6 hF
  · refine x_iconst hC dX7_run_65 rfl ?_
    exact x_ireturn hC dX7_run_66 hm (rgc 0 rfl) hF
set_option maxRecDepth 20000 in
set_option maxHeartbeats 4000000 in
theorem WJ_X7_run_172 {g : Gx} {b : Bs} {o : Mm} {Q : Int → Mm → Prop} {k_10 : Int → Int → Int → Mm → Rs} (hC : Cok g b RX7 cX7_run 7 1 (some .int)) (hk_10 : ∀ v2 : Int, inR v2 → ∀ v3 : Int, inR v3 → ∀ v4 : Int, inR v4 → ∀ m : Mm, Rg m → okR (k_10 v2 v3 v4 m) Q → X g b (true, o) 7 (ZM g b (true, o) 1 Q) 10 [(0, .ref (b.1 + 17)), (2, iV v2), (3, iV v3), (4, iV v4)] [] m 0 0) (v2 : Int) (hv2 : inR v2) (v3 : Int) (hv3 : inR v3) (v4 : Int) (hv4 : inR v4) (v6 : Int) (hv6 : inR v6) (m : Mm) (hm : Rg m) (hF : okR (J_X7_run_172 k_10 v2 v3 v4 v6 m) Q) : X g b (true, o) 7 (ZM g b (true, o) 1 Q) 172 [(0, .ref (b.1 + 17)), (2, iV v2), (3, iV v3), (4, iV v4), (6, iV v6)] [] m 0 0 := by
  unfold J_X7_run_172 at hF
  refine x_iload hC dX7_run_172 rfl 3 rfl ?_
  refine x_iload hC dX7_run_174 rfl 4 rfl ?_
  refine x_iconst hC dX7_run_176 rfl ?_
  refine x_isub hC dX7_run_177 rfl ?_
  refine x_callS1 (kc2 := 0) (ks2 := 0) (As := [iV v4, iV (wr (v6 - 1))]) (rest := []) hC dX7_run_178 rfl hm (fun _ _ h => T_J9_max_7cf53 b _ m v4 hv4 (wr (v6 - 1)) (rg_wr _) h) mlX7_78 vsJ9_max_7cf53 rfl rfl (Nat.le_of_ble_eq_true rfl) (by decide) (by decide) rfl rfl hF (fun r1 m2 hr1 hm2 hF => ?_)
  refine x_istore (lv' := [(0, .ref (b.1 + 17)), (2, iV v2), (3, iV v3), (6, iV v6)]) hC dX7_run_181 rfl (by decide) rfl hr1 hF (fun x3 hx3 hF => ?_)
  refine x_goto (tgt := 230) hC dX7_run_183 rfl ?_
  refine x_sub [1, 2, 3, 0] rfl ?_
  exact WJ_X7_run_230 hC hk_10  v2 hv2 v3 hv3 x3 hx3 m2 hm2 hF
set_option maxRecDepth 20000 in
set_option maxHeartbeats 4000000 in
theorem WJ_X7_run_186 {g : Gx} {b : Bs} {o : Mm} {Q : Int → Mm → Prop} {k_10 : Int → Int → Int → Mm → Rs} (hC : Cok g b RX7 cX7_run 7 1 (some .int)) (hk_10 : ∀ v2 : Int, inR v2 → ∀ v3 : Int, inR v3 → ∀ v4 : Int, inR v4 → ∀ m : Mm, Rg m → okR (k_10 v2 v3 v4 m) Q → X g b (true, o) 7 (ZM g b (true, o) 1 Q) 10 [(0, .ref (b.1 + 17)), (2, iV v2), (3, iV v3), (4, iV v4)] [] m 0 0) (v2 : Int) (hv2 : inR v2) (v3 : Int) (hv3 : inR v3) (v4 : Int) (hv4 : inR v4) (m : Mm) (hm : Rg m) (hF : okR (J_X7_run_186 k_10 v2 v3 v4 m) Q) : X g b (true, o) 7 (ZM g b (true, o) 1 Q) 186 [(0, .ref (b.1 + 17)), (2, iV v2), (3, iV v3), (4, iV v4)] [] m 0 0 := by
  unfold J_X7_run_186 at hF
  refine x_iinc (p := 2) (lv' := [(0, .ref (b.1 + 17)), (2, iV v2), (4, iV v4)]) hC dX7_run_186 rfl rfl (by decide) rfl hF (fun x1 hx1 hF => ?_)
  refine x_goto (tgt := 230) hC dX7_run_189 rfl ?_
  refine x_sub [1, 2, 0, 3] rfl ?_
  exact WJ_X7_run_230 hC hk_10  v2 hv2 x1 hx1 v4 hv4 m hm hF
set_option maxRecDepth 20000 in
set_option maxHeartbeats 4000000 in
theorem WJ_X7_run_141 {g : Gx} {b : Bs} {o : Mm} {Q : Int → Mm → Prop} {k_10 : Int → Int → Int → Mm → Rs} (hC : Cok g b RX7 cX7_run 7 1 (some .int)) (hk_10 : ∀ v2 : Int, inR v2 → ∀ v3 : Int, inR v3 → ∀ v4 : Int, inR v4 → ∀ m : Mm, Rg m → okR (k_10 v2 v3 v4 m) Q → X g b (true, o) 7 (ZM g b (true, o) 1 Q) 10 [(0, .ref (b.1 + 17)), (2, iV v2), (3, iV v3), (4, iV v4)] [] m 0 0) (v2 : Int) (hv2 : inR v2) (v3 : Int) (hv3 : inR v3) (v4 : Int) (hv4 : inR v4) (v5 : Int) (hv5 : inR v5) (v6 : Int) (hv6 : inR v6) (m : Mm) (hm : Rg m) (hF : okR (J_X7_run_141 k_10 v2 v3 v4 v5 v6 m) Q) : X g b (true, o) 7 (ZM g b (true, o) 1 Q) 141 [(0, .ref (b.1 + 17)), (2, iV v2), (3, iV v3), (4, iV v4), (5, iV v5), (6, iV v6)] [] m 0 0 := by
  unfold J_X7_run_141 at hF
  refine x_aload_n hC dX7_run_141 rfl 0 rfl ?_
  refine x_getR (t := 19) hC dX7_run_142 rfl flX7_15 rfl (by decide) rfl rfl ?_
  refine x_iload_n hC dX7_run_145 rfl 2 rfl ?_
  refine x_iconst hC dX7_run_146 rfl ?_
  refine x_isub hC dX7_run_147 rfl ?_
  refine x_iald hC dX7_run_148 rfl rfl (by decide) rfl hm (rg_wr _) hF (fun x1 hx1 hF => ?_)
  refine x_iconst hC dX7_run_149 rfl ?_
  refine x_icmp_ne (tgt := 157) hC dX7_run_150 rfl rfl hx1 (rgc 1 rfl) hF (fun hq2 hF => ?_) (fun hq2 hF => ?_)
  · refine x_iconst hC dX7_run_157 rfl ?_
    refine x_iload hC dX7_run_158 rfl 4 rfl ?_
    refine x_iconst hC dX7_run_160 rfl ?_
    refine x_icmp_ne (tgt := 168) hC dX7_run_161 rfl rfl hv5 (rgc 4 rfl) hF (fun hq3 hF => ?_) (fun hq3 hF => ?_)
    · refine x_iconst hC dX7_run_168 rfl ?_
      refine x_icmp_ne (tgt := 186) hC dX7_run_169 rfl rfl (rgc 0 rfl) (rgc 0 rfl) hF (fun hq4 hF => ?_) (fun hq4 hF => ?_)
      · refine x_sub [0, 1, 2, 3] rfl ?_
        exact WJ_X7_run_186 hC hk_10  v2 hv2 v3 hv3 v4 hv4 m hm hF
      · refine x_sub [0, 1, 2, 3, 5] rfl ?_
        exact WJ_X7_run_172 hC hk_10  v2 hv2 v3 hv3 v4 hv4 v6 hv6 m hm hF
    · refine x_iconst hC dX7_run_164 rfl ?_
      refine x_goto (tgt := 169) hC dX7_run_165 rfl ?_
      refine x_icmp_ne (tgt := 186) hC dX7_run_169 rfl rfl (rgc 0 rfl) (rgc 1 rfl) hF (fun hq5 hF => ?_) (fun hq5 hF => ?_)
      · refine x_sub [0, 1, 2, 3] rfl ?_
        exact WJ_X7_run_186 hC hk_10  v2 hv2 v3 hv3 v4 hv4 m hm hF
      · refine x_sub [0, 1, 2, 3, 5] rfl ?_
        exact WJ_X7_run_172 hC hk_10  v2 hv2 v3 hv3 v4 hv4 v6 hv6 m hm hF
  · refine x_iconst hC dX7_run_153 rfl ?_
    refine x_goto (tgt := 158) hC dX7_run_154 rfl ?_
    refine x_iload hC dX7_run_158 rfl 4 rfl ?_
    refine x_iconst hC dX7_run_160 rfl ?_
    refine x_icmp_ne (tgt := 168) hC dX7_run_161 rfl rfl hv5 (rgc 4 rfl) hF (fun hq6 hF => ?_) (fun hq6 hF => ?_)
    · refine x_iconst hC dX7_run_168 rfl ?_
      refine x_icmp_ne (tgt := 186) hC dX7_run_169 rfl rfl (rgc 1 rfl) (rgc 0 rfl) hF (fun hq7 hF => ?_) (fun hq7 hF => ?_)
      · refine x_sub [0, 1, 2, 3] rfl ?_
        exact WJ_X7_run_186 hC hk_10  v2 hv2 v3 hv3 v4 hv4 m hm hF
      · refine x_sub [0, 1, 2, 3, 5] rfl ?_
        exact WJ_X7_run_172 hC hk_10  v2 hv2 v3 hv3 v4 hv4 v6 hv6 m hm hF
    · refine x_iconst hC dX7_run_164 rfl ?_
      refine x_goto (tgt := 169) hC dX7_run_165 rfl ?_
      refine x_icmp_ne (tgt := 186) hC dX7_run_169 rfl rfl (rgc 1 rfl) (rgc 1 rfl) hF (fun hq8 hF => ?_) (fun hq8 hF => ?_)
      · refine x_sub [0, 1, 2, 3] rfl ?_
        exact WJ_X7_run_186 hC hk_10  v2 hv2 v3 hv3 v4 hv4 m hm hF
      · refine x_sub [0, 1, 2, 3, 5] rfl ?_
        exact WJ_X7_run_172 hC hk_10  v2 hv2 v3 hv3 v4 hv4 v6 hv6 m hm hF
set_option maxRecDepth 20000 in
set_option maxHeartbeats 4000000 in
theorem WJ_X7_run_245 {g : Gx} {b : Bs} {o : Mm} {Q : Int → Mm → Prop} (hC : Cok g b RX7 cX7_run 7 1 (some .int)) (v3 : Int) (hv3 : inR v3) (m : Mm) (hm : Rg m) (hF : okR (J_X7_run_245 v3 m) Q) : X g b (true, o) 7 (ZM g b (true, o) 1 Q) 245 [(0, .ref (b.1 + 17)), (3, iV v3)] [] m 0 0 := by
  unfold J_X7_run_245 at hF
  refine x_iload_n hC dX7_run_245 rfl 1 rfl ?_
  refine x_if_le (tgt := 258) hC dX7_run_246 rfl rfl hv3 hF (fun hq1 hF => ?_) (fun hq1 hF => ?_)
  · refine x_iconst hC dX7_run_258 rfl ?_
    exact x_ireturn hC dX7_run_259 hm (rgc 0 rfl) hF
  · refine x_aload_n hC dX7_run_249 rfl 0 rfl ?_
    refine x_getR (t := 19) hC dX7_run_250 rfl flX7_15 rfl (by decide) rfl rfl ?_
    refine x_iconst hC dX7_run_253 rfl ?_
    refine x_iald hC dX7_run_254 rfl rfl (by decide) rfl hm (rgc 0 rfl) hF (fun x2 hx2 hF => ?_)
    refine x_goto (tgt := 259) hC dX7_run_255 rfl ?_
    exact x_ireturn hC dX7_run_259 hm hx2 hF
set_option maxRecDepth 20000 in
set_option maxHeartbeats 4000000 in
theorem WL_X7_run_10 {g : Gx} {b : Bs} {o : Mm} {Q : Int → Mm → Prop} (hC : Cok g b RX7 cX7_run 7 1 (some .int)) : ∀ n : Nat, ∀ v2 : Int, inR v2 → ∀ v3 : Int, inR v3 → ∀ v4 : Int, inR v4 → ∀ m : Mm, Rg m → okR (L_X7_run_10 n v2 v3 v4 m) Q → X g b (true, o) 7 (ZM g b (true, o) 1 Q) 10 [(0, .ref (b.1 + 17)), (2, iV v2), (3, iV v3), (4, iV v4)] [] m 0 0 := by
  intro n
  induction n with
  | zero => intro v2 hv2 v3 hv3 v4 hv4 m hm hF; exact absurd hF (fun z => z)
  | succ n ih =>
    intro v2 hv2 v3 hv3 v4 hv4 m hm hF
    have hF : okR (LB_X7_run_10 (L_X7_run_10 n) v2 v3 v4 m) Q := hF
    unfold LB_X7_run_10 at hF
    refine x_iload hC dX7_run_10 rfl 3 rfl ?_
    refine x_iload_n hC dX7_run_12 rfl 1 rfl ?_
    refine x_icmp_ge (tgt := 245) hC dX7_run_13 rfl rfl hv4 hv2 hF (fun hq1 hF => ?_) (fun hq1 hF => ?_)
    · refine x_sub [0, 2] rfl ?_
      exact WJ_X7_run_245 hC  v3 hv3 m hm hF
    · refine x_iload hC dX7_run_16 rfl 3 rfl ?_
      refine x_sipush hC dX7_run_18 rfl rfl ?_
      refine x_icmp_ge (tgt := 245) hC dX7_run_21 rfl rfl hv4 (rgc 200 rfl) hF (fun hq2 hF => ?_) (fun hq2 hF => ?_)
      · refine x_sub [0, 2] rfl ?_
        exact WJ_X7_run_245 hC  v3 hv3 m hm hF
      · refine x_aload_n hC dX7_run_24 rfl 0 rfl ?_
        refine x_getD hC dX7_run_25 rfl flX7_21 rfl (by decide) rfl rfl ?_
        refine x_grd hF (fun hg3 hF => ?_)
        refine x_getR (t := ((m 17 3).toNat + 1)) hC dX7_run_28 rfl flX7_84 (isCd_k hg3).1 (isCd_k hg3).2.1 rfl ((isCd_k hg3).2.2.2 0 (by decide)).1 ?_
        refine x_iload hC dX7_run_31 rfl 3 rfl ?_
        refine x_iald hC dX7_run_33 rfl ((isCd_k hg3).2.2.2 0 (by decide)).2.1 ((isCd_k hg3).2.2.2 0 (by decide)).2.2.1 ((isCd_k hg3).2.2.2 0 (by decide)).2.2.2 hm hv4 hF (fun x4 hx4 hF => ?_)
        refine x_istore (lv' := [(0, .ref (b.1 + 17)), (2, iV v2), (3, iV v3), (4, iV v4)]) hC dX7_run_34 rfl (by decide) rfl hx4 hF (fun x5 hx5 hF => ?_)
        refine x_aload_n hC dX7_run_36 rfl 1 rfl ?_
        refine x_getD hC dX7_run_37 rfl flX7_21 rfl (by decide) rfl rfl ?_
        refine x_grd hF (fun hg6 hF => ?_)
        refine x_getR (t := ((m 17 3).toNat + 2)) hC dX7_run_40 rfl flX7_87 (isCd_k hg6).1 (isCd_k hg6).2.1 rfl ((isCd_k hg6).2.2.2 1 (by decide)).1 ?_
        refine x_iload hC dX7_run_43 rfl 4 rfl ?_
        refine x_iald hC dX7_run_45 rfl ((isCd_k hg6).2.2.2 1 (by decide)).2.1 ((isCd_k hg6).2.2.2 1 (by decide)).2.2.1 ((isCd_k hg6).2.2.2 1 (by decide)).2.2.2 hm hv4 hF (fun x7 hx7 hF => ?_)
        refine x_istore (lv' := [(5, iV x5), (0, .ref (b.1 + 17)), (2, iV v2), (3, iV v3), (4, iV v4)]) hC dX7_run_46 rfl (by decide) rfl hx7 hF (fun x8 hx8 hF => ?_)
        refine x_iload hC dX7_run_48 rfl 1 rfl ?_
        refine x_if_eq (tgt := 59) hC dX7_run_50 rfl rfl hx5 hF (fun hq9 hF => ?_) (fun hq9 hF => ?_)
        · refine x_sub [2, 3, 4, 5, 1, 0] rfl ?_
          exact WJ_X7_run_59 hC ih  v2 hv2 v3 hv3 v4 hv4 x5 hx5 x8 hx8 m hm hF
        · refine x_iload hC dX7_run_53 rfl 1 rfl ?_
          refine x_iconst hC dX7_run_55 rfl ?_
          refine x_icmp_ne (tgt := 95) hC dX7_run_56 rfl rfl hx5 (rgc 1 rfl) hF (fun hq10 hF => ?_) (fun hq10 hF => ?_)
          · refine x_iload_n hC dX7_run_95 rfl 4 rfl ?_
            refine x_iconst hC dX7_run_96 rfl ?_
            refine x_icmp_ge (tgt := 102) hC dX7_run_97 rfl rfl hv3 (rgc 1 rfl) hF (fun hq11 hF => ?_) (fun hq11 hF => ?_)
            · refine x_iload hC dX7_run_102 rfl 1 rfl ?_
              refine x_iconst hC dX7_run_104 rfl ?_
              refine x_icmp_ne (tgt := 129) hC dX7_run_105 rfl rfl hx5 (rgc 2 rfl) hF (fun hq12 hF => ?_) (fun hq12 hF => ?_)
              · refine x_iload hC dX7_run_129 rfl 1 rfl ?_
                refine x_iconst hC dX7_run_131 rfl ?_
                refine x_icmp_eq (tgt := 141) hC dX7_run_132 rfl rfl hx5 (rgc 3 rfl) hF (fun hq13 hF => ?_) (fun hq13 hF => ?_)
                · refine x_sub [2, 3, 4, 5, 1, 0] rfl ?_
                  exact WJ_X7_run_141 hC ih  v2 hv2 v3 hv3 v4 hv4 x5 hx5 x8 hx8 m hm hF
                · refine x_iload hC dX7_run_135 rfl 1 rfl ?_
                  refine x_iconst hC dX7_run_137 rfl ?_
                  refine x_icmp_ne (tgt := 192) hC dX7_run_138 rfl rfl hx5 (rgc 4 rfl) hF (fun hq14 hF => ?_) (fun hq14 hF => ?_)
                  · refine x_iload_n hC dX7_run_192 rfl 4 rfl ?_
                    refine x_iconst hC dX7_run_193 rfl ?_
                    refine x_icmp_ge (tgt := 199) hC dX7_run_194 rfl rfl hv3 (rgc 2 rfl) hF (fun hq15 hF => ?_) (fun hq15 hF => ?_)
                    · refine x_iinc (p := 4) (lv' := [(6, iV x8), (5, iV x5), (0, .ref (b.1 + 17)), (2, iV v2), (4, iV v4)]) hC dX7_run_199 rfl rfl (by decide) rfl hF (fun x16 hx16 hF => ?_)
                      refine x_aload_n hC dX7_run_202 rfl 3 rfl ?_
                      refine x_getR (t := 19) hC dX7_run_203 rfl flX7_15 rfl (by decide) rfl rfl ?_
                      refine x_iload_n hC dX7_run_206 rfl 0 rfl ?_
                      refine x_iconst hC dX7_run_207 rfl ?_
                      refine x_isub hC dX7_run_208 rfl ?_
                      refine x_aload_n hC dX7_run_209 rfl 3 rfl ?_
                      refine x_iload hC dX7_run_210 rfl 2 rfl ?_
                      refine x_aload_n hC dX7_run_212 rfl 3 rfl ?_
                      refine x_getR (t := 19) hC dX7_run_213 rfl flX7_15 rfl (by decide) rfl rfl ?_
                      refine x_iload_n hC dX7_run_216 rfl 0 rfl ?_
                      refine x_iconst hC dX7_run_217 rfl ?_
                      refine x_isub hC dX7_run_218 rfl ?_
                      refine x_iald hC dX7_run_219 rfl rfl (by decide) rfl hm (rg_wr _) hF (fun x17 hx17 hF => ?_)
                      refine x_aload_n hC dX7_run_220 rfl 3 rfl ?_
                      refine x_getR (t := 19) hC dX7_run_221 rfl flX7_15 rfl (by decide) rfl rfl ?_
                      refine x_iload_n hC dX7_run_224 rfl 0 rfl ?_
                      refine x_iald hC dX7_run_225 rfl rfl (by decide) rfl hm hx16 hF (fun x18 hx18 hF => ?_)
                      refine x_callV1 (kc2 := 0) (ks2 := 0) (k := 17) (As := [iV x5, iV x17, iV x18]) (rest := [iV (wr (x16 - 1)), .ref (b.1 + 19)]) hC dX7_run_226 rfl hm (fun _ _ h => T_X7_reckon b _ m x5 hx5 x17 hx17 x18 hx18 h) mlX7_93 vlX7_reckon rfl (by decide) rfl rfl (Nat.le_of_ble_eq_true rfl) (by decide) (by decide) rfl rfl hF (fun r19 m20 hr19 hm20 hF => ?_)
                      refine x_iast hC dX7_run_229 rfl rfl (by decide) rfl hm20 (rg_wr _) hr19 hF (fun m21 hm21 hF => ?_)
                      refine x_sub [3, 4, 0, 5] rfl ?_
                      exact WJ_X7_run_230 hC ih  v2 hv2 x16 hx16 v4 hv4 m21 hm21 hF
                    · refine x_iconst hC dX7_run_197 rfl ?_
                      exact x_ireturn hC dX7_run_198 hm (rgc 0 rfl) hF
                  · refine x_sub [2, 3, 4, 5, 1, 0] rfl ?_
                    exact WJ_X7_run_141 hC ih  v2 hv2 v3 hv3 v4 hv4 x5 hx5 x8 hx8 m hm hF
              · refine x_aload_n hC dX7_run_108 rfl 2 rfl ?_
                refine x_getR (t := 19) hC dX7_run_109 rfl flX7_15 rfl (by decide) rfl rfl ?_
                refine x_iload_n hC dX7_run_112 rfl 4 rfl ?_
                refine x_iconst hC dX7_run_113 rfl ?_
                refine x_isub hC dX7_run_114 rfl ?_
                refine x_iconst hC dX7_run_115 rfl ?_
                refine x_aload_n hC dX7_run_116 rfl 2 rfl ?_
                refine x_getR (t := 19) hC dX7_run_117 rfl flX7_15 rfl (by decide) rfl rfl ?_
                refine x_iload_n hC dX7_run_120 rfl 4 rfl ?_
                refine x_iconst hC dX7_run_121 rfl ?_
                refine x_isub hC dX7_run_122 rfl ?_
                refine x_iald hC dX7_run_123 rfl rfl (by decide) rfl hm (rg_wr _) hF (fun x22 hx22 hF => ?_)
                refine x_isub hC dX7_run_124 rfl ?_
                refine x_iast hC dX7_run_125 rfl rfl (by decide) rfl hm (rg_wr _) (rg_wr _) hF (fun m23 hm23 hF => ?_)
                refine x_goto (tgt := 230) hC dX7_run_126 rfl ?_
                refine x_sub [2, 3, 4, 5] rfl ?_
                exact WJ_X7_run_230 hC ih  v2 hv2 v3 hv3 v4 hv4 m23 hm23 hF
            · refine x_iconst hC dX7_run_100 rfl ?_
              exact x_ireturn hC dX7_run_101 hm (rgc 0 rfl) hF
          · refine x_sub [2, 3, 4, 5, 1, 0] rfl ?_
            exact WJ_X7_run_59 hC ih  v2 hv2 v3 hv3 v4 hv4 x5 hx5 x8 hx8 m hm hF
set_option maxRecDepth 20000 in
set_option maxHeartbeats 4000000 in
theorem T_X7_run (b : Bs) (o : Mm) (m : Mm) (a1 : Int) (ha1 : inR a1) (a2 : Int) (ha2 : inR a2) {r : Int} {m' : Mm} (h : F_X7_run a1 a2 m = some (r, m')) : Cn yX7_run cX7_run 7 (some .int) (1) 0 0 1 b (true, o) m [.ref (b.1 + 17), iV a1, iV a2] (F_X7_run a1 a2 m) := by
  refine Cn_of rfl (Nat.le_of_ble_eq_true rfl) (fun g hC hm => ?_)
  have hF := okR_some h
  generalize hQ : (fun (r : Int) (m' : Mm) => F_X7_run a1 a2 m = some (r, m')) = Q at hF ⊢
  clear hQ h
  replace hC : Cok g b RX7 cX7_run 7 1 (some .int) := hC
  refine x_lv (lv' := [(0, .ref (b.1 + 17)), (1, iV a1), (2, iV a2)]) rfl ?_
  unfold F_X7_run at hF
  refine x_iconst hC dX7_run_0 rfl ?_
  refine x_istore_nZ (lv' := [(0, .ref (b.1 + 17)), (1, iV a1), (2, iV a2)]) hC dX7_run_1 rfl rfl (by decide) rfl (Or.inl rfl) hF (fun x1 hx1 hF => ?_)
  refine x_aload_n hC dX7_run_2 rfl 1 rfl ?_
  refine x_iconst hC dX7_run_3 rfl ?_
  refine x_putZ hC dX7_run_4 rfl fpX7_81 rfl (by decide) (by decide) rfl rfl hm (Or.inl rfl) rfl hF (fun m2 hm2 hF => ?_)
  refine x_iload_n hC dX7_run_7 rfl 2 rfl ?_
  refine x_istore (lv' := [(3, iV x1), (0, .ref (b.1 + 17)), (1, iV a1), (2, iV a2)]) hC dX7_run_8 rfl (by decide) rfl ha1 hF (fun x3 hx3 hF => ?_)
  refine x_sub [2, 4, 1, 0] rfl ?_
  exact WL_X7_run_10 hC 100000  a2 ha2 x1 (rg_01 hx1) x3 hx3 m2 hm2 hF
set_option maxRecDepth 20000 in
set_option maxHeartbeats 4000000 in
theorem WJ_X7_firstHolding_103 {g : Gx} {b : Bs} {o : Mm} {Q : Int → Mm → Prop} {k_2 : Int → Int → Int → Mm → Rs} (hC : Cok g b RX7 cX7_firstHolding 6 2 (some .int)) (hk_2 : ∀ v1 : Int, inR v1 → ∀ v2 : Int, inR v2 → ∀ v3 : Int, inR v3 → ∀ m : Mm, Rg m → okR (k_2 v1 v2 v3 m) Q → X g b (true, o) 6 (ZM g b (true, o) 1 Q) 2 [(0, .ref (b.1 + 17)), (1, iV v1), (2, iV v2), (3, iV v3)] [] m 0 0) (v1 : Int) (hv1 : inR v1) (v2 : Int) (hv2 : inR v2) (v3 : Int) (hv3 : inR v3) (m : Mm) (hm : Rg m) (hF : okR (J_X7_firstHolding_103 k_2 v1 v2 v3 m) Q) : X g b (true, o) 6 (ZM g b (true, o) 1 Q) 103 [(0, .ref (b.1 + 17)), (1, iV v1), (2, iV v2), (3, iV v3)] [] m 0 0 := by
  unfold J_X7_firstHolding_103 at hF
  refine x_iinc (p := 3) (lv' := [(0, .ref (b.1 + 17)), (1, iV v1), (2, iV v2)]) hC dX7_firstHolding_103 rfl rfl (by decide) rfl hF (fun x1 hx1 hF => ?_)
  refine x_goto (tgt := 2) hC dX7_firstHolding_106 rfl ?_
  refine x_sub [1, 2, 3, 0] rfl ?_
  exact hk_2 v1 hv1 v2 hv2 x1 hx1 m hm hF
set_option maxRecDepth 20000 in
set_option maxHeartbeats 4000000 in
theorem WJ_X7_firstHolding_63 {g : Gx} {b : Bs} {o : Mm} {Q : Int → Mm → Prop} {k_2 : Int → Int → Int → Mm → Rs} (hC : Cok g b RX7 cX7_firstHolding 6 2 (some .int)) (hk_2 : ∀ v1 : Int, inR v1 → ∀ v2 : Int, inR v2 → ∀ v3 : Int, inR v3 → ∀ m : Mm, Rg m → okR (k_2 v1 v2 v3 m) Q → X g b (true, o) 6 (ZM g b (true, o) 1 Q) 2 [(0, .ref (b.1 + 17)), (1, iV v1), (2, iV v2), (3, iV v3)] [] m 0 0) (v1 : Int) (hv1 : inR v1) (v2 : Int) (hv2 : inR v2) (v3 : Int) (hv3 : inR v3) (v4 : Int) (hv4 : (v4 = 0 ∨ v4 = 1)) (m : Mm) (hm : Rg m) (hF : okR (J_X7_firstHolding_63 k_2 v1 v2 v3 v4 m) Q) : X g b (true, o) 6 (ZM g b (true, o) 1 Q) 63 [(0, .ref (b.1 + 17)), (1, iV v1), (2, iV v2), (3, iV v3), (4, iV v4)] [] m 0 0 := by
  unfold J_X7_firstHolding_63 at hF
  refine x_iload hC dX7_firstHolding_63 rfl 4 rfl ?_
  refine x_if_eq (tgt := 103) hC dX7_firstHolding_65 rfl rfl (rg_01 hv4) hF (fun hq1 hF => ?_) (fun hq1 hF => ?_)
  · refine x_sub [0, 1, 2, 3] rfl ?_
    exact WJ_X7_firstHolding_103 hC hk_2  v1 hv1 v2 hv2 v3 hv3 m hm hF
  · refine x_aload_n hC dX7_firstHolding_68 rfl 0 rfl ?_
    refine x_aload_n hC dX7_firstHolding_69 rfl 0 rfl ?_
    refine x_getD hC dX7_firstHolding_70 rfl flX7_21 rfl (by decide) rfl rfl ?_
    refine x_grd hF (fun hg2 hF => ?_)
    refine x_getR (t := ((m 17 3).toNat + 4)) hC dX7_firstHolding_73 rfl flX7_70 (isCd_k hg2).1 (isCd_k hg2).2.1 rfl ((isCd_k hg2).2.2.2 3 (by decide)).1 ?_
    refine x_iload_n hC dX7_firstHolding_76 rfl 3 rfl ?_
    refine x_iald hC dX7_firstHolding_77 rfl ((isCd_k hg2).2.2.2 3 (by decide)).2.1 ((isCd_k hg2).2.2.2 3 (by decide)).2.2.1 ((isCd_k hg2).2.2.2 3 (by decide)).2.2.2 hm hv3 hF (fun x3 hx3 hF => ?_)
    refine x_aload_n hC dX7_firstHolding_78 rfl 0 rfl ?_
    refine x_getD hC dX7_firstHolding_79 rfl flX7_21 rfl (by decide) rfl rfl ?_
    refine x_grd hF (fun hg4 hF => ?_)
    refine x_getR (t := ((m 17 3).toNat + 5)) hC dX7_firstHolding_82 rfl flX7_60 (isCd_k hg4).1 (isCd_k hg4).2.1 rfl ((isCd_k hg4).2.2.2 4 (by decide)).1 ?_
    refine x_iload_n hC dX7_firstHolding_85 rfl 3 rfl ?_
    refine x_iald hC dX7_firstHolding_86 rfl ((isCd_k hg4).2.2.2 4 (by decide)).2.1 ((isCd_k hg4).2.2.2 4 (by decide)).2.2.1 ((isCd_k hg4).2.2.2 4 (by decide)).2.2.2 hm hv3 hF (fun x5 hx5 hF => ?_)
    refine x_callV1 (kc2 := 0) (ks2 := 0) (k := 17) (As := [iV x3, iV x5]) (rest := []) hC dX7_firstHolding_87 rfl hm (fun _ _ h => T_X7_run b _ m x3 hx3 x5 hx5 h) mlX7_67 vlX7_run rfl (by decide) rfl rfl (Nat.le_of_ble_eq_true rfl) (by decide) (by decide) rfl rfl hF (fun r6 m7 hr6 hm7 hF => ?_)
    refine x_istore (lv' := [(0, .ref (b.1 + 17)), (1, iV v1), (2, iV v2), (3, iV v3), (4, iV v4)]) hC dX7_firstHolding_90 rfl (by decide) rfl hr6 hF (fun x8 hx8 hF => ?_)
    refine x_iconst hC dX7_firstHolding_92 rfl ?_
    refine x_iload_n hC dX7_firstHolding_93 rfl 3 rfl ?_
    refine x_iload hC dX7_firstHolding_94 rfl 0 rfl ?_
    refine x_callS1 (kc2 := 0) (ks2 := 0) (As := [iV v2, iV x8]) (rest := [iV 0]) hC dX7_firstHolding_96 rfl hm7 (fun _ _ h => T_J9_min_7cf53 b _ m7 v2 hv2 x8 hx8 h) mlX7_73 vsJ9_min_7cf53 rfl rfl (Nat.le_of_ble_eq_true rfl) (by decide) (by decide) rfl rfl hF (fun r9 m10 hr9 hm10 hF => ?_)
    refine x_callS1 (kc2 := 0) (ks2 := 0) (As := [iV 0, iV r9]) (rest := []) hC dX7_firstHolding_99 rfl hm10 (fun _ _ h => T_J9_max_7cf53 b _ m10 0 (rgc 0 rfl) r9 hr9 h) mlX7_78 vsJ9_max_7cf53 rfl rfl (Nat.le_of_ble_eq_true rfl) (by decide) (by decide) rfl rfl hF (fun r11 m12 hr11 hm12 hF => ?_)
    exact x_ireturn hC dX7_firstHolding_102 hm12 hr11 hF
set_option maxRecDepth 20000 in
set_option maxHeartbeats 4000000 in
theorem WL_X7_firstHolding_2 {g : Gx} {b : Bs} {o : Mm} {Q : Int → Mm → Prop} (hC : Cok g b RX7 cX7_firstHolding 6 2 (some .int)) : ∀ n : Nat, ∀ v1 : Int, inR v1 → ∀ v2 : Int, inR v2 → ∀ v3 : Int, inR v3 → ∀ m : Mm, Rg m → okR (L_X7_firstHolding_2 n v1 v2 v3 m) Q → X g b (true, o) 6 (ZM g b (true, o) 1 Q) 2 [(0, .ref (b.1 + 17)), (1, iV v1), (2, iV v2), (3, iV v3)] [] m 0 0 := by
  intro n
  induction n with
  | zero => intro v1 hv1 v2 hv2 v3 hv3 m hm hF; exact absurd hF (fun z => z)
  | succ n ih =>
    intro v1 hv1 v2 hv2 v3 hv3 m hm hF
    have hF : okR (LB_X7_firstHolding_2 (L_X7_firstHolding_2 n) v1 v2 v3 m) Q := hF
    unfold LB_X7_firstHolding_2 at hF
    refine x_iload_n hC dX7_firstHolding_2 rfl 3 rfl ?_
    refine x_aload_n hC dX7_firstHolding_3 rfl 0 rfl ?_
    refine x_getD hC dX7_firstHolding_4 rfl flX7_21 rfl (by decide) rfl rfl ?_
    refine x_grd hF (fun hg1 hF => ?_)
    refine x_getI hC dX7_firstHolding_7 rfl flX7_32 (isCd_k hg1).1 (isCd_k hg1).2.1 rfl (isCd_k hg1).2.2.1 ?_
    refine x_icmp_ge (tgt := 109) hC dX7_firstHolding_10 rfl rfl hv3 (hm.i (m 17 3).toNat 6 (isCd_k hg1).lg) hF (fun hq2 hF => ?_) (fun hq2 hF => ?_)
    · refine x_iconst hC dX7_firstHolding_109 rfl ?_
      exact x_ireturn hC dX7_firstHolding_110 hm (rgc 0 rfl) hF
    · refine x_iload_n hC dX7_firstHolding_13 rfl 3 rfl ?_
      refine x_bipush hC dX7_firstHolding_14 rfl rfl ?_
      refine x_icmp_ge (tgt := 109) hC dX7_firstHolding_16 rfl rfl hv3 (rgc 14 rfl) hF (fun hq3 hF => ?_) (fun hq3 hF => ?_)
      · refine x_iconst hC dX7_firstHolding_109 rfl ?_
        exact x_ireturn hC dX7_firstHolding_110 hm (rgc 0 rfl) hF
      · refine x_aload_n hC dX7_firstHolding_19 rfl 0 rfl ?_
        refine x_getD hC dX7_firstHolding_20 rfl flX7_21 rfl (by decide) rfl rfl ?_
        refine x_grd hF (fun hg4 hF => ?_)
        refine x_getR (t := ((m 17 3).toNat + 3)) hC dX7_firstHolding_23 rfl flX7_57 (isCd_k hg4).1 (isCd_k hg4).2.1 rfl ((isCd_k hg4).2.2.2 2 (by decide)).1 ?_
        refine x_iload_n hC dX7_firstHolding_26 rfl 3 rfl ?_
        refine x_iald hC dX7_firstHolding_27 rfl ((isCd_k hg4).2.2.2 2 (by decide)).2.1 ((isCd_k hg4).2.2.2 2 (by decide)).2.2.1 ((isCd_k hg4).2.2.2 2 (by decide)).2.2.2 hm hv3 hF (fun x5 hx5 hF => ?_)
        refine x_iload_n hC dX7_firstHolding_28 rfl 1 rfl ?_
        refine x_icmp_ne (tgt := 103) hC dX7_firstHolding_29 rfl rfl hx5 hv1 hF (fun hq6 hF => ?_) (fun hq6 hF => ?_)
        · exact WJ_X7_firstHolding_103 hC ih  v1 hv1 v2 hv2 v3 hv3 m hm hF
        · refine x_aload_n hC dX7_firstHolding_32 rfl 0 rfl ?_
          refine x_aload_n hC dX7_firstHolding_33 rfl 0 rfl ?_
          refine x_getD hC dX7_firstHolding_34 rfl flX7_21 rfl (by decide) rfl rfl ?_
          refine x_grd hF (fun hg7 hF => ?_)
          refine x_getR (t := ((m 17 3).toNat + 5)) hC dX7_firstHolding_37 rfl flX7_60 (isCd_k hg7).1 (isCd_k hg7).2.1 rfl ((isCd_k hg7).2.2.2 4 (by decide)).1 ?_
          refine x_iload_n hC dX7_firstHolding_40 rfl 3 rfl ?_
          refine x_iald hC dX7_firstHolding_41 rfl ((isCd_k hg7).2.2.2 4 (by decide)).2.1 ((isCd_k hg7).2.2.2 4 (by decide)).2.2.1 ((isCd_k hg7).2.2.2 4 (by decide)).2.2.2 hm hv3 hF (fun x8 hx8 hF => ?_)
          refine x_aload_n hC dX7_firstHolding_42 rfl 0 rfl ?_
          refine x_getD hC dX7_firstHolding_43 rfl flX7_21 rfl (by decide) rfl rfl ?_
          refine x_iload_n hC dX7_firstHolding_46 rfl 3 rfl ?_
          refine x_grd hF (fun hg9 hF => ?_)
          refine x_callV1 (kc2 := 0) (ks2 := 0) (k := (m 17 3).toNat) (As := [iV v3]) (rest := [iV x8, .ref (b.1 + 17)]) hC dX7_firstHolding_47 rfl hm (fun _ _ h => T_X0_endOf b _ m (m 17 3).toNat (isCd_k hg9) v3 hv3 h) mlX7_63 vlX0_endOf (isCd_k hg9).1 (isCd_k hg9).2.1 rfl rfl (Nat.le_of_ble_eq_true rfl) (by decide) (by decide) rfl rfl hF (fun r10 m11 hr10 hm11 hF => ?_)
          refine x_callV1 (kc2 := 0) (ks2 := 0) (k := 17) (As := [iV x8, iV r10]) (rest := []) hC dX7_firstHolding_50 rfl hm11 (fun _ _ h => T_X7_run b _ m11 x8 hx8 r10 hr10 h) mlX7_67 vlX7_run rfl (by decide) rfl rfl (Nat.le_of_ble_eq_true rfl) (by decide) (by decide) rfl rfl hF (fun r12 m13 hr12 hm13 hF => ?_)
          refine x_if_eq (tgt := 60) hC dX7_firstHolding_53 rfl rfl hr12 hF (fun hq14 hF => ?_) (fun hq14 hF => ?_)
          · refine x_iconst hC dX7_firstHolding_60 rfl ?_
            refine x_istoreZ (lv' := [(0, .ref (b.1 + 17)), (1, iV v1), (2, iV v2), (3, iV v3)]) hC dX7_firstHolding_61 rfl (by decide) rfl (Or.inl rfl) hF (fun x15 hx15 hF => ?_)
            refine x_sub [1, 2, 3, 4, 0] rfl ?_
            exact WJ_X7_firstHolding_63 hC ih  v1 hv1 v2 hv2 v3 hv3 x15 hx15 m13 hm13 hF
          · refine x_iconst hC dX7_firstHolding_56 rfl ?_
            refine x_goto (tgt := 61) hC dX7_firstHolding_57 rfl ?_
            refine x_istoreZ (lv' := [(0, .ref (b.1 + 17)), (1, iV v1), (2, iV v2), (3, iV v3)]) hC dX7_firstHolding_61 rfl (by decide) rfl (Or.inr rfl) hF (fun x16 hx16 hF => ?_)
            refine x_sub [1, 2, 3, 4, 0] rfl ?_
            exact WJ_X7_firstHolding_63 hC ih  v1 hv1 v2 hv2 v3 hv3 x16 hx16 m13 hm13 hF
set_option maxRecDepth 20000 in
set_option maxHeartbeats 4000000 in
theorem T_X7_firstHolding (b : Bs) (o : Mm) (m : Mm) (a1 : Int) (ha1 : inR a1) (a2 : Int) (ha2 : inR a2) {r : Int} {m' : Mm} (h : F_X7_firstHolding a1 a2 m = some (r, m')) : Cn yX7_firstHolding cX7_firstHolding 6 (some .int) (2) 0 0 1 b (true, o) m [.ref (b.1 + 17), iV a1, iV a2] (F_X7_firstHolding a1 a2 m) := by
  refine Cn_of rfl (Nat.le_of_ble_eq_true rfl) (fun g hC hm => ?_)
  have hF := okR_some h
  generalize hQ : (fun (r : Int) (m' : Mm) => F_X7_firstHolding a1 a2 m = some (r, m')) = Q at hF ⊢
  clear hQ h
  replace hC : Cok g b RX7 cX7_firstHolding 6 2 (some .int) := hC
  refine x_lv (lv' := [(0, .ref (b.1 + 17)), (1, iV a1), (2, iV a2)]) rfl ?_
  unfold F_X7_firstHolding at hF
  refine x_iconst hC dX7_firstHolding_0 rfl ?_
  refine x_istore_nZ (lv' := [(0, .ref (b.1 + 17)), (1, iV a1), (2, iV a2)]) hC dX7_firstHolding_1 rfl rfl (by decide) rfl (Or.inl rfl) hF (fun x1 hx1 hF => ?_)
  refine x_sub [1, 2, 3, 0] rfl ?_
  exact WL_X7_firstHolding_2 hC 100000  a1 ha1 a2 ha2 x1 (rg_01 hx1) m hm hF
set_option maxRecDepth 20000 in
set_option maxHeartbeats 4000000 in
theorem WJ_X7_set_45 {g : Gx} {b : Bs} {o : Mm} {Q : Int → Mm → Prop} (hC : Cok g b RX7 cX7_set 7 0 none) (v5 : Int) (hv5 : inR v5) (v6 : Int) (hv6 : inR v6) (m : Mm) (hm : Rg m) (hF : okR (J_X7_set_45 v5 v6 m) Q) : X g b (true, o) 7 (ZM g b (true, o) 0 Q) 45 [(0, .ref (b.1 + 17)), (5, iV v5), (6, iV v6)] [] m 0 0 := by
  unfold J_X7_set_45 at hF
  refine x_aload_n hC dX7_set_45 rfl 0 rfl ?_
  refine x_getR (t := 18) hC dX7_set_46 rfl flX7_9 rfl (by decide) rfl rfl ?_
  refine x_iconst hC dX7_set_49 rfl ?_
  refine x_iload hC dX7_set_50 rfl 2 rfl ?_
  refine x_iast hC dX7_set_52 rfl rfl (by decide) rfl hm (rgc 5 rfl) hv6 hF (fun m1 hm1 hF => ?_)
  refine x_aload_n hC dX7_set_53 rfl 0 rfl ?_
  refine x_getR (t := 18) hC dX7_set_54 rfl flX7_9 rfl (by decide) rfl rfl ?_
  refine x_bipush hC dX7_set_57 rfl rfl ?_
  refine x_iload hC dX7_set_59 rfl 1 rfl ?_
  refine x_iast hC dX7_set_61 rfl rfl (by decide) rfl hm1 (rgc 6 rfl) hv5 hF (fun m2 hm2 hF => ?_)
  refine x_aload_n hC dX7_set_62 rfl 0 rfl ?_
  refine x_getR (t := 18) hC dX7_set_63 rfl flX7_9 rfl (by decide) rfl rfl ?_
  refine x_bipush hC dX7_set_66 rfl rfl ?_
  refine x_iconst hC dX7_set_68 rfl ?_
  refine x_iast hC dX7_set_69 rfl rfl (by decide) rfl hm2 (rgc 7 rfl) (rgc 0 rfl) hF (fun m3 hm3 hF => ?_)
  refine x_aload_n hC dX7_set_70 rfl 0 rfl ?_
  refine x_getR (t := 18) hC dX7_set_71 rfl flX7_9 rfl (by decide) rfl rfl ?_
  refine x_bipush hC dX7_set_74 rfl rfl ?_
  refine x_iconst hC dX7_set_76 rfl ?_
  refine x_iast hC dX7_set_77 rfl rfl (by decide) rfl hm3 (rgc 8 rfl) (rgc 0 rfl) hF (fun m4 hm4 hF => ?_)
  refine x_aload_n hC dX7_set_78 rfl 0 rfl ?_
  refine x_getR (t := 18) hC dX7_set_79 rfl flX7_9 rfl (by decide) rfl rfl ?_
  refine x_bipush hC dX7_set_82 rfl rfl ?_
  refine x_iconst hC dX7_set_84 rfl ?_
  refine x_iast hC dX7_set_85 rfl rfl (by decide) rfl hm4 (rgc 9 rfl) (rgc 0 rfl) hF (fun m5 hm5 hF => ?_)
  exact x_return hC dX7_set_86 hm5 hF
set_option maxRecDepth 20000 in
set_option maxHeartbeats 4000000 in
theorem T_X7_set (b : Bs) (o : Mm) (m : Mm) (a1 : Int) (ha1 : inR a1) (a2 : Int) (ha2 : inR a2) (a3 : Int) (ha3 : inR a3) (a4 : Int) (ha4 : inR a4) (a5 : Int) (ha5 : inR a5) (a6 : Int) (ha6 : inR a6) {r : Int} {m' : Mm} (h : F_X7_set a1 a2 a3 a4 a5 a6 m = some (r, m')) : Cn yX7_set cX7_set 7 none (0) 0 0 0 b (true, o) m [.ref (b.1 + 17), iV a1, iV a2, iV a3, iV a4, iV a5, iV a6] (F_X7_set a1 a2 a3 a4 a5 a6 m) := by
  refine Cn_of rfl (Nat.le_of_ble_eq_true rfl) (fun g hC hm => ?_)
  have hF := okR_some h
  generalize hQ : (fun (r : Int) (m' : Mm) => F_X7_set a1 a2 a3 a4 a5 a6 m = some (r, m')) = Q at hF ⊢
  clear hQ h
  replace hC : Cok g b RX7 cX7_set 7 0 none := hC
  refine x_lv (lv' := [(0, .ref (b.1 + 17)), (1, iV a1), (2, iV a2), (3, iV a3), (4, iV a4), (5, iV a5), (6, iV a6)]) rfl ?_
  unfold F_X7_set at hF
  refine x_aload_n hC dX7_set_0 rfl 0 rfl ?_
  refine x_getR (t := 18) hC dX7_set_1 rfl flX7_9 rfl (by decide) rfl rfl ?_
  refine x_iconst hC dX7_set_4 rfl ?_
  refine x_iload_n hC dX7_set_5 rfl 1 rfl ?_
  refine x_iast hC dX7_set_6 rfl rfl (by decide) rfl hm (rgc 0 rfl) ha1 hF (fun m1 hm1 hF => ?_)
  refine x_aload_n hC dX7_set_7 rfl 0 rfl ?_
  refine x_getR (t := 18) hC dX7_set_8 rfl flX7_9 rfl (by decide) rfl rfl ?_
  refine x_iconst hC dX7_set_11 rfl ?_
  refine x_iload_n hC dX7_set_12 rfl 2 rfl ?_
  refine x_iast hC dX7_set_13 rfl rfl (by decide) rfl hm1 (rgc 1 rfl) ha2 hF (fun m2 hm2 hF => ?_)
  refine x_aload_n hC dX7_set_14 rfl 0 rfl ?_
  refine x_getR (t := 18) hC dX7_set_15 rfl flX7_9 rfl (by decide) rfl rfl ?_
  refine x_iconst hC dX7_set_18 rfl ?_
  refine x_iload_n hC dX7_set_19 rfl 3 rfl ?_
  refine x_iast hC dX7_set_20 rfl rfl (by decide) rfl hm2 (rgc 2 rfl) ha3 hF (fun m3 hm3 hF => ?_)
  refine x_aload_n hC dX7_set_21 rfl 0 rfl ?_
  refine x_getR (t := 18) hC dX7_set_22 rfl flX7_9 rfl (by decide) rfl rfl ?_
  refine x_iconst hC dX7_set_25 rfl ?_
  refine x_iload hC dX7_set_26 rfl 4 rfl ?_
  refine x_iast hC dX7_set_28 rfl rfl (by decide) rfl hm3 (rgc 3 rfl) ha4 hF (fun m4 hm4 hF => ?_)
  refine x_aload_n hC dX7_set_29 rfl 0 rfl ?_
  refine x_getR (t := 18) hC dX7_set_30 rfl flX7_9 rfl (by decide) rfl rfl ?_
  refine x_iconst hC dX7_set_33 rfl ?_
  refine x_iload_n hC dX7_set_34 rfl 2 rfl ?_
  refine x_iload_n hC dX7_set_35 rfl 3 rfl ?_
  refine x_icmp_ne (tgt := 43) hC dX7_set_36 rfl rfl ha2 ha3 hF (fun hq5 hF => ?_) (fun hq5 hF => ?_)
  · refine x_iconst hC dX7_set_43 rfl ?_
    refine x_iast hC dX7_set_44 rfl rfl (by decide) rfl hm4 (rgc 4 rfl) (rgc 0 rfl) hF (fun m6 hm6 hF => ?_)
    refine x_sub [0, 5, 6] rfl ?_
    exact WJ_X7_set_45 hC  a5 ha5 a6 ha6 m6 hm6 hF
  · refine x_iconst hC dX7_set_39 rfl ?_
    refine x_goto (tgt := 44) hC dX7_set_40 rfl ?_
    refine x_iast hC dX7_set_44 rfl rfl (by decide) rfl hm4 (rgc 4 rfl) (rgc 1 rfl) hF (fun m7 hm7 hF => ?_)
    refine x_sub [0, 5, 6] rfl ?_
    exact WJ_X7_set_45 hC  a5 ha5 a6 ha6 m7 hm7 hF
set_option maxRecDepth 20000 in
set_option maxHeartbeats 4000000 in
theorem T_X7_inCrowd (b : Bs) (o : Mm) (m : Mm) (a1 : Int) (ha1 : inR a1) (a2 : Int) (ha2 : inR a2) (a3 : Int) (ha3 : inR a3) (a4 : Int) (ha4 : inR a4) {r : Int} {m' : Mm} (h : F_X7_inCrowd a1 a2 a3 a4 m = some (r, m')) : Cn yX7_inCrowd cX7_inCrowd 5 (some .int) (3) 0 0 1 b (true, o) m [.ref (b.1 + 17), iV a1, iV a2, iV a3, iV a4] (F_X7_inCrowd a1 a2 a3 a4 m) := by
  refine Cn_of rfl (Nat.le_of_ble_eq_true rfl) (fun g hC hm => ?_)
  have hF := okR_some h
  generalize hQ : (fun (r : Int) (m' : Mm) => F_X7_inCrowd a1 a2 a3 a4 m = some (r, m')) = Q at hF ⊢
  clear hQ h
  replace hC : Cok g b RX7 cX7_inCrowd 5 3 (some .int) := hC
  refine x_lv (lv' := [(0, .ref (b.1 + 17)), (1, iV a1), (2, iV a2), (3, iV a3), (4, iV a4)]) rfl ?_
  unfold F_X7_inCrowd at hF
  refine x_aload_n hC dX7_inCrowd_0 rfl 0 rfl ?_
  refine x_iload_n hC dX7_inCrowd_1 rfl 1 rfl ?_
  refine x_iload_n hC dX7_inCrowd_2 rfl 2 rfl ?_
  refine x_iload_n hC dX7_inCrowd_3 rfl 3 rfl ?_
  refine x_iload hC dX7_inCrowd_4 rfl 4 rfl ?_
  refine x_iload_n hC dX7_inCrowd_6 rfl 2 rfl ?_
  refine x_iconst hC dX7_inCrowd_7 rfl ?_
  refine x_callV0 (kc2 := 0) (ks2 := 0) (k := 17) (As := [iV a1, iV a2, iV a3, iV a4, iV a2, iV 0]) (rest := []) hC dX7_inCrowd_8 rfl hm (fun _ _ h => T_X7_set b _ m a1 ha1 a2 ha2 a3 ha3 a4 ha4 a2 ha2 0 (rgc 0 rfl) h) mlX7_42 vlX7_set rfl (by decide) rfl rfl (Nat.le_of_ble_eq_true rfl) (by decide) (by decide) rfl rfl hF (fun r1 m2 hr1 hm2 hF => ?_)
  refine x_aload_n hC dX7_inCrowd_11 rfl 0 rfl ?_
  refine x_bipush hC dX7_inCrowd_12 rfl rfl ?_
  refine x_bipush hC dX7_inCrowd_14 rfl rfl ?_
  refine x_callV1 (kc2 := 0) (ks2 := 0) (k := 17) (As := [iV 109, iV 31]) (rest := []) hC dX7_inCrowd_16 rfl hm2 (fun _ _ h => T_X7_firstHolding b _ m2 109 (rgc 109 rfl) 31 (rgc 31 rfl) h) mlX7_46 vlX7_firstHolding rfl (by decide) rfl rfl (Nat.le_of_ble_eq_true rfl) (by decide) (by decide) rfl rfl hF (fun r3 m4 hr3 hm4 hF => ?_)
  exact x_ireturn hC dX7_inCrowd_19 hm4 hr3 hF
set_option maxRecDepth 20000 in
set_option maxHeartbeats 4000000 in
theorem WJ_X1_askBehind_137 {g : Gx} {b : Bs} {o : Mm} {Q : Int → Mm → Prop} {k_46 : Int → Int → Int → Int → Int → Int → Mm → Rs} {k_81 : Int → Int → Int → Int → Int → Int → Int → Int → Mm → Rs} (hC : Cok g b RX1 cX1_askBehind 9 4 none) (hk_46 : ∀ v1 : Int, inR v1 → ∀ v2 : Int, inR v2 → ∀ v3 : Int, inR v3 → ∀ v4 : Int, inR v4 → ∀ v5 : Int, inR v5 → ∀ v6 : Int, inR v6 → ∀ m : Mm, Rg m → okR (k_46 v1 v2 v3 v4 v5 v6 m) Q → X g b (true, o) 9 (ZM g b (true, o) 0 Q) 46 [(0, .ref (b.1 + 43)), (1, iV v1), (2, iV v2), (3, iV v3), (4, iV v4), (5, iV v5), (6, iV v6)] [] m 0 0) (hk_81 : ∀ v1 : Int, inR v1 → ∀ v2 : Int, inR v2 → ∀ v3 : Int, inR v3 → ∀ v4 : Int, inR v4 → ∀ v5 : Int, inR v5 → ∀ v6 : Int, inR v6 → ∀ v7 : Int, inR v7 → ∀ v8 : Int, inR v8 → ∀ m : Mm, Rg m → okR (k_81 v1 v2 v3 v4 v5 v6 v7 v8 m) Q → X g b (true, o) 9 (ZM g b (true, o) 0 Q) 81 [(0, .ref (b.1 + 43)), (1, iV v1), (2, iV v2), (3, iV v3), (4, iV v4), (5, iV v5), (6, iV v6), (7, iV v7), (8, iV v8)] [] m 0 0) (v1 : Int) (hv1 : inR v1) (v2 : Int) (hv2 : inR v2) (v3 : Int) (hv3 : inR v3) (v4 : Int) (hv4 : inR v4) (v5 : Int) (hv5 : inR v5) (v6 : Int) (hv6 : inR v6) (v7 : Int) (hv7 : inR v7) (v8 : Int) (hv8 : inR v8) (m : Mm) (hm : Rg m) (hF : okR (J_X1_askBehind_137 k_46 k_81 v1 v2 v3 v4 v5 v6 v7 v8 m) Q) : X g b (true, o) 9 (ZM g b (true, o) 0 Q) 137 [(0, .ref (b.1 + 43)), (1, iV v1), (2, iV v2), (3, iV v3), (4, iV v4), (5, iV v5), (6, iV v6), (7, iV v7), (8, iV v8)] [] m 0 0 := by
  unfold J_X1_askBehind_137 at hF
  refine x_iinc (p := 8) (lv' := [(0, .ref (b.1 + 43)), (1, iV v1), (2, iV v2), (3, iV v3), (4, iV v4), (5, iV v5), (6, iV v6), (7, iV v7)]) hC dX1_askBehind_137 rfl rfl (by decide) rfl hF (fun x1 hx1 hF => ?_)
  refine x_goto (tgt := 81) hC dX1_askBehind_140 rfl ?_
  refine x_sub [1, 2, 3, 4, 5, 6, 7, 8, 0] rfl ?_
  exact hk_81 v1 hv1 v2 hv2 v3 hv3 v4 hv4 v5 hv5 v6 hv6 v7 hv7 x1 hx1 m hm hF
set_option maxRecDepth 20000 in
set_option maxHeartbeats 4000000 in
theorem WL_X1_askBehind_81 {g : Gx} {b : Bs} {o : Mm} {Q : Int → Mm → Prop} {k_46 : Int → Int → Int → Int → Int → Int → Mm → Rs} (hC : Cok g b RX1 cX1_askBehind 9 4 none) (hk_46 : ∀ v1 : Int, inR v1 → ∀ v2 : Int, inR v2 → ∀ v3 : Int, inR v3 → ∀ v4 : Int, inR v4 → ∀ v5 : Int, inR v5 → ∀ v6 : Int, inR v6 → ∀ m : Mm, Rg m → okR (k_46 v1 v2 v3 v4 v5 v6 m) Q → X g b (true, o) 9 (ZM g b (true, o) 0 Q) 46 [(0, .ref (b.1 + 43)), (1, iV v1), (2, iV v2), (3, iV v3), (4, iV v4), (5, iV v5), (6, iV v6)] [] m 0 0) : ∀ n : Nat, ∀ v1 : Int, inR v1 → ∀ v2 : Int, inR v2 → ∀ v3 : Int, inR v3 → ∀ v4 : Int, inR v4 → ∀ v5 : Int, inR v5 → ∀ v6 : Int, inR v6 → ∀ v7 : Int, inR v7 → ∀ v8 : Int, inR v8 → ∀ m : Mm, Rg m → okR (L_X1_askBehind_81 k_46 n v1 v2 v3 v4 v5 v6 v7 v8 m) Q → X g b (true, o) 9 (ZM g b (true, o) 0 Q) 81 [(0, .ref (b.1 + 43)), (1, iV v1), (2, iV v2), (3, iV v3), (4, iV v4), (5, iV v5), (6, iV v6), (7, iV v7), (8, iV v8)] [] m 0 0 := by
  intro n
  induction n with
  | zero => intro v1 hv1 v2 hv2 v3 hv3 v4 hv4 v5 hv5 v6 hv6 v7 hv7 v8 hv8 m hm hF; exact absurd hF (fun z => z)
  | succ n ih =>
    intro v1 hv1 v2 hv2 v3 hv3 v4 hv4 v5 hv5 v6 hv6 v7 hv7 v8 hv8 m hm hF
    have hF : okR (LB_X1_askBehind_81 k_46 (L_X1_askBehind_81 k_46 n) v1 v2 v3 v4 v5 v6 v7 v8 m) Q := hF
    unfold LB_X1_askBehind_81 at hF
    refine x_iload hC dX1_askBehind_81 rfl 8 rfl ?_
    refine x_iload hC dX1_askBehind_83 rfl 5 rfl ?_
    refine x_icmp_ge (tgt := 143) hC dX1_askBehind_85 rfl rfl hv8 hv5 hF (fun hq1 hF => ?_) (fun hq1 hF => ?_)
    · refine x_iinc (p := 6) (lv' := [(0, .ref (b.1 + 43)), (1, iV v1), (2, iV v2), (3, iV v3), (4, iV v4), (5, iV v5), (7, iV v7), (8, iV v8)]) hC dX1_askBehind_143 rfl rfl (by decide) rfl hF (fun x2 hx2 hF => ?_)
      refine x_goto (tgt := 46) hC dX1_askBehind_146 rfl ?_
      refine x_sub [1, 2, 3, 4, 5, 6, 0] rfl ?_
      exact hk_46 v1 hv1 v2 hv2 v3 hv3 v4 hv4 v5 hv5 x2 hx2 m hm hF
    · refine x_aload_n hC dX1_askBehind_88 rfl 0 rfl ?_
      refine x_getR (t := 1) hC dX1_askBehind_89 rfl flX1_37 rfl (by decide) rfl rfl ?_
      refine x_aload_n hC dX1_askBehind_92 rfl 0 rfl ?_
      refine x_getR (t := 44) hC dX1_askBehind_93 rfl flX1_11 rfl (by decide) rfl rfl ?_
      refine x_iload_n hC dX1_askBehind_96 rfl 2 rfl ?_
      refine x_iald hC dX1_askBehind_97 rfl rfl (by decide) rfl hm hv2 hF (fun x3 hx3 hF => ?_)
      refine x_iload hC dX1_askBehind_98 rfl 8 rfl ?_
      refine x_callV1 (kc2 := 0) (ks2 := 0) (k := 1) (As := [iV x3, iV v8]) (rest := []) hC dX1_askBehind_100 rfl hm (fun _ _ h => T_X4_wordOf b _ m x3 hx3 v8 hv8 h) mlX1_72 vlX4_wordOf rfl (by decide) rfl rfl (Nat.le_of_ble_eq_true rfl) (by decide) (by decide) rfl rfl hF (fun r4 m5 hr4 hm5 hF => ?_)
      refine x_iload hC dX1_askBehind_103 rfl 7 rfl ?_
      refine x_icmp_ne (tgt := 137) hC dX1_askBehind_105 rfl rfl hr4 hv7 hF (fun hq6 hF => ?_) (fun hq6 hF => ?_)
      · exact WJ_X1_askBehind_137 hC hk_46 ih  v1 hv1 v2 hv2 v3 hv3 v4 hv4 v5 hv5 v6 hv6 v7 hv7 v8 hv8 m5 hm5 hF
      · refine x_aload_n hC dX1_askBehind_108 rfl 0 rfl ?_
        refine x_getR (t := 45) hC dX1_askBehind_109 rfl flX1_15 rfl (by decide) rfl rfl ?_
        refine x_iload_n hC dX1_askBehind_112 rfl 1 rfl ?_
        refine x_iconst hC dX1_askBehind_113 rfl ?_
        refine x_imul hC dX1_askBehind_114 rfl ?_
        refine x_iload_n hC dX1_askBehind_115 rfl 2 rfl ?_
        refine x_iadd hC dX1_askBehind_116 rfl ?_
        refine x_iconst hC dX1_askBehind_117 rfl ?_
        refine x_imul hC dX1_askBehind_118 rfl ?_
        refine x_iload hC dX1_askBehind_119 rfl 8 rfl ?_
        refine x_iadd hC dX1_askBehind_121 rfl ?_
        refine x_dup2 hC dX1_askBehind_122 rfl rfl rfl ?_
        refine x_iald hC dX1_askBehind_123 rfl rfl (by decide) rfl hm5 (rg_wr _) hF (fun x7 hx7 hF => ?_)
        refine x_iconst hC dX1_askBehind_124 rfl ?_
        refine x_iload hC dX1_askBehind_125 rfl 6 rfl ?_
        refine x_ishl hC dX1_askBehind_127 rfl ?_
        refine x_ior hC dX1_askBehind_128 rfl ?_
        refine x_iast hC dX1_askBehind_129 rfl rfl (by decide) rfl hm5 (rg_wr _) (rg_tI _) hF (fun m8 hm8 hF => ?_)
        refine x_aload_n hC dX1_askBehind_130 rfl 0 rfl ?_
        refine x_iload_n hC dX1_askBehind_131 rfl 2 rfl ?_
        refine x_iload hC dX1_askBehind_132 rfl 6 rfl ?_
        refine x_callV0 (kc2 := 0) (ks2 := 0) (k := 43) (As := [iV v2, iV v6]) (rest := []) hC dX1_askBehind_134 rfl hm8 (fun _ _ h => T_X1_reach b _ m8 v2 hv2 v6 hv6 h) mlX1_82 vlX1_reach rfl (by decide) rfl rfl (Nat.le_of_ble_eq_true rfl) (by decide) (by decide) rfl rfl hF (fun r9 m10 hr9 hm10 hF => ?_)
        exact WJ_X1_askBehind_137 hC hk_46 ih  v1 hv1 v2 hv2 v3 hv3 v4 hv4 v5 hv5 v6 hv6 v7 hv7 v8 hv8 m10 hm10 hF
set_option maxRecDepth 20000 in
set_option maxHeartbeats 4000000 in
theorem WL_X1_askBehind_46 {g : Gx} {b : Bs} {o : Mm} {Q : Int → Mm → Prop} (hC : Cok g b RX1 cX1_askBehind 9 4 none) : ∀ n : Nat, ∀ v1 : Int, inR v1 → ∀ v2 : Int, inR v2 → ∀ v3 : Int, inR v3 → ∀ v4 : Int, inR v4 → ∀ v5 : Int, inR v5 → ∀ v6 : Int, inR v6 → ∀ m : Mm, Rg m → okR (L_X1_askBehind_46 n v1 v2 v3 v4 v5 v6 m) Q → X g b (true, o) 9 (ZM g b (true, o) 0 Q) 46 [(0, .ref (b.1 + 43)), (1, iV v1), (2, iV v2), (3, iV v3), (4, iV v4), (5, iV v5), (6, iV v6)] [] m 0 0 := by
  intro n
  induction n with
  | zero => intro v1 hv1 v2 hv2 v3 hv3 v4 hv4 v5 hv5 v6 hv6 m hm hF; exact absurd hF (fun z => z)
  | succ n ih =>
    intro v1 hv1 v2 hv2 v3 hv3 v4 hv4 v5 hv5 v6 hv6 m hm hF
    have hF : okR (LB_X1_askBehind_46 (L_X1_askBehind_46 n) v1 v2 v3 v4 v5 v6 m) Q := hF
    unfold LB_X1_askBehind_46 at hF
    refine x_iload hC dX1_askBehind_46 rfl 6 rfl ?_
    refine x_bipush hC dX1_askBehind_48 rfl rfl ?_
    refine x_icmp_gt (tgt := 149) hC dX1_askBehind_50 rfl rfl hv6 (rgc 20 rfl) hF (fun hq1 hF => ?_) (fun hq1 hF => ?_)
    · exact x_return hC dX1_askBehind_149 hm hF
    · refine x_iload hC dX1_askBehind_53 rfl 5 rfl ?_
      refine x_if_le (tgt := 149) hC dX1_askBehind_55 rfl rfl hv5 hF (fun hq2 hF => ?_) (fun hq2 hF => ?_)
      · exact x_return hC dX1_askBehind_149 hm hF
      · refine x_aload_n hC dX1_askBehind_58 rfl 0 rfl ?_
        refine x_getR (t := 17) hC dX1_askBehind_59 rfl flX1_41 rfl (by decide) rfl rfl ?_
        refine x_iload hC dX1_askBehind_62 rfl 6 rfl ?_
        refine x_aload_n hC dX1_askBehind_64 rfl 0 rfl ?_
        refine x_getR (t := 44) hC dX1_askBehind_65 rfl flX1_11 rfl (by decide) rfl rfl ?_
        refine x_iload_n hC dX1_askBehind_68 rfl 2 rfl ?_
        refine x_iald hC dX1_askBehind_69 rfl rfl (by decide) rfl hm hv2 hF (fun x3 hx3 hF => ?_)
        refine x_iload_n hC dX1_askBehind_70 rfl 3 rfl ?_
        refine x_iload hC dX1_askBehind_71 rfl 4 rfl ?_
        refine x_callV1 (kc2 := 0) (ks2 := 0) (k := 17) (As := [iV v6, iV x3, iV v3, iV v4]) (rest := []) hC dX1_askBehind_73 rfl hm (fun _ _ h => T_X7_inCrowd b _ m v6 hv6 x3 hx3 v3 hv3 v4 hv4 h) mlX1_76 vlX7_inCrowd rfl (by decide) rfl rfl (Nat.le_of_ble_eq_true rfl) (by decide) (by decide) rfl rfl hF (fun r4 m5 hr4 hm5 hF => ?_)
        refine x_istore (lv' := [(0, .ref (b.1 + 43)), (1, iV v1), (2, iV v2), (3, iV v3), (4, iV v4), (5, iV v5), (6, iV v6)]) hC dX1_askBehind_76 rfl (by decide) rfl hr4 hF (fun x6 hx6 hF => ?_)
        refine x_iconst hC dX1_askBehind_78 rfl ?_
        refine x_istoreZ (lv' := [(7, iV x6), (0, .ref (b.1 + 43)), (1, iV v1), (2, iV v2), (3, iV v3), (4, iV v4), (5, iV v5), (6, iV v6)]) hC dX1_askBehind_79 rfl (by decide) rfl (Or.inl rfl) hF (fun x7 hx7 hF => ?_)
        refine x_sub [2, 3, 4, 5, 6, 7, 8, 1, 0] rfl ?_
        exact WL_X1_askBehind_81 hC ih 100000  v1 hv1 v2 hv2 v3 hv3 v4 hv4 v5 hv5 v6 hv6 x6 hx6 x7 (rg_01 hx7) m5 hm5 hF
set_option maxRecDepth 20000 in
set_option maxHeartbeats 4000000 in
theorem WJ_X1_askBehind_28 {g : Gx} {b : Bs} {o : Mm} {Q : Int → Mm → Prop} (hC : Cok g b RX1 cX1_askBehind 9 4 none) (v1 : Int) (hv1 : inR v1) (v2 : Int) (hv2 : inR v2) (v3 : Int) (hv3 : inR v3) (v4 : Int) (hv4 : inR v4) (m : Mm) (hm : Rg m) (hF : okR (J_X1_askBehind_28 v1 v2 v3 v4 m) Q) : X g b (true, o) 9 (ZM g b (true, o) 0 Q) 28 [(0, .ref (b.1 + 43)), (1, iV v1), (2, iV v2), (3, iV v3), (4, iV v4)] [] m 0 0 := by
  unfold J_X1_askBehind_28 at hF
  refine x_aload_n hC dX1_askBehind_28 rfl 0 rfl ?_
  refine x_getR (t := 1) hC dX1_askBehind_29 rfl flX1_37 rfl (by decide) rfl rfl ?_
  refine x_aload_n hC dX1_askBehind_32 rfl 0 rfl ?_
  refine x_getR (t := 44) hC dX1_askBehind_33 rfl flX1_11 rfl (by decide) rfl rfl ?_
  refine x_iload_n hC dX1_askBehind_36 rfl 2 rfl ?_
  refine x_iald hC dX1_askBehind_37 rfl rfl (by decide) rfl hm hv2 hF (fun x1 hx1 hF => ?_)
  refine x_callV1 (kc2 := 0) (ks2 := 0) (k := 1) (As := [iV x1]) (rest := []) hC dX1_askBehind_38 rfl hm (fun _ _ h => T_X4_wordsBy b _ m x1 hx1 h) mlX1_62 vlX4_wordsBy rfl (by decide) rfl rfl (Nat.le_of_ble_eq_true rfl) (by decide) (by decide) rfl rfl hF (fun r2 m3 hr2 hm3 hF => ?_)
  refine x_istore (lv' := [(0, .ref (b.1 + 43)), (1, iV v1), (2, iV v2), (3, iV v3), (4, iV v4)]) hC dX1_askBehind_41 rfl (by decide) rfl hr2 hF (fun x4 hx4 hF => ?_)
  refine x_iconst hC dX1_askBehind_43 rfl ?_
  refine x_istoreZ (lv' := [(5, iV x4), (0, .ref (b.1 + 43)), (1, iV v1), (2, iV v2), (3, iV v3), (4, iV v4)]) hC dX1_askBehind_44 rfl (by decide) rfl (Or.inr rfl) hF (fun x5 hx5 hF => ?_)
  refine x_sub [2, 3, 4, 5, 6, 1, 0] rfl ?_
  exact WL_X1_askBehind_46 hC 100000  v1 hv1 v2 hv2 v3 hv3 v4 hv4 x4 hx4 x5 (rg_01 hx5) m3 hm3 hF
set_option maxRecDepth 20000 in
set_option maxHeartbeats 4000000 in
theorem T_X1_askBehind (b : Bs) (o : Mm) (m : Mm) (a1 : Int) (ha1 : inR a1) (a2 : Int) (ha2 : inR a2) {r : Int} {m' : Mm} (h : F_X1_askBehind a1 a2 m = some (r, m')) : Cn yX1_askBehind cX1_askBehind 9 none (4) 0 0 0 b (true, o) m [.ref (b.1 + 43), iV a1, iV a2] (F_X1_askBehind a1 a2 m) := by
  refine Cn_of rfl (Nat.le_of_ble_eq_true rfl) (fun g hC hm => ?_)
  have hF := okR_some h
  generalize hQ : (fun (r : Int) (m' : Mm) => F_X1_askBehind a1 a2 m = some (r, m')) = Q at hF ⊢
  clear hQ h
  replace hC : Cok g b RX1 cX1_askBehind 9 4 none := hC
  refine x_lv (lv' := [(0, .ref (b.1 + 43)), (1, iV a1), (2, iV a2)]) rfl ?_
  unfold F_X1_askBehind at hF
  refine x_aload_n hC dX1_askBehind_0 rfl 0 rfl ?_
  refine x_getR (t := 44) hC dX1_askBehind_1 rfl flX1_11 rfl (by decide) rfl rfl ?_
  refine x_iload_n hC dX1_askBehind_4 rfl 1 rfl ?_
  refine x_bipush hC dX1_askBehind_5 rfl rfl ?_
  refine x_idiv hC dX1_askBehind_7 rfl ha1 (rgc 21 rfl) hF (fun hz1 hF => ?_)
  refine x_iald hC dX1_askBehind_8 rfl rfl (by decide) rfl hm (rg_wr _) hF (fun x2 hx2 hF => ?_)
  refine x_istore_n (lv' := [(0, .ref (b.1 + 43)), (1, iV a1), (2, iV a2)]) hC dX1_askBehind_9 rfl rfl (by decide) rfl hx2 hF (fun x3 hx3 hF => ?_)
  refine x_iload_n hC dX1_askBehind_10 rfl 2 rfl ?_
  refine x_bipush hC dX1_askBehind_11 rfl rfl ?_
  refine x_irem hC dX1_askBehind_13 rfl ha1 (rgc 21 rfl) hF (fun hz4 hF => ?_)
  refine x_if_ne (tgt := 22) hC dX1_askBehind_14 rfl rfl (rg_wr _) hF (fun hq5 hF => ?_) (fun hq5 hF => ?_)
  · refine x_iload_n hC dX1_askBehind_22 rfl 2 rfl ?_
    refine x_bipush hC dX1_askBehind_23 rfl rfl ?_
    refine x_irem hC dX1_askBehind_25 rfl ha1 (rgc 21 rfl) hF (fun hz6 hF => ?_)
    refine x_istore (lv' := [(3, iV x3), (0, .ref (b.1 + 43)), (1, iV a1), (2, iV a2)]) hC dX1_askBehind_26 rfl (by decide) rfl (rg_wr _) hF (fun x7 hx7 hF => ?_)
    refine x_sub [2, 3, 4, 1, 0] rfl ?_
    exact WJ_X1_askBehind_28 hC  a1 ha1 a2 ha2 x3 hx3 x7 hx7 m hm hF
  · refine x_bipush hC dX1_askBehind_17 rfl rfl ?_
    refine x_goto (tgt := 26) hC dX1_askBehind_19 rfl ?_
    refine x_istore (lv' := [(3, iV x3), (0, .ref (b.1 + 43)), (1, iV a1), (2, iV a2)]) hC dX1_askBehind_26 rfl (by decide) rfl (rgc 63 rfl) hF (fun x8 hx8 hF => ?_)
    refine x_sub [2, 3, 4, 1, 0] rfl ?_
    exact WJ_X1_askBehind_28 hC  a1 ha1 a2 ha2 x3 hx3 x8 hx8 m hm hF
set_option maxRecDepth 20000 in
set_option maxHeartbeats 4000000 in
theorem WJ_X1_askGaps_108 {g : Gx} {b : Bs} {o : Mm} {Q : Int → Mm → Prop} {k_52 : Int → Mm → Rs} (hC : Cok g b RX1 cX1_askGaps 3 5 none) (hk_52 : ∀ v1 : Int, inR v1 → ∀ m : Mm, Rg m → okR (k_52 v1 m) Q → X g b (true, o) 3 (ZM g b (true, o) 0 Q) 52 [(0, .ref (b.1 + 43)), (1, iV v1)] [] m 0 0) (v1 : Int) (hv1 : inR v1) (m : Mm) (hm : Rg m) (hF : okR (J_X1_askGaps_108 k_52 v1 m) Q) : X g b (true, o) 3 (ZM g b (true, o) 0 Q) 108 [(0, .ref (b.1 + 43)), (1, iV v1)] [] m 0 0 := by
  unfold J_X1_askGaps_108 at hF
  refine x_iinc (p := 1) (lv' := [(0, .ref (b.1 + 43))]) hC dX1_askGaps_108 rfl rfl (by decide) rfl hF (fun x1 hx1 hF => ?_)
  refine x_goto (tgt := 52) hC dX1_askGaps_111 rfl ?_
  refine x_sub [1, 0] rfl ?_
  exact hk_52 x1 hx1 m hm hF
set_option maxRecDepth 20000 in
set_option maxHeartbeats 4000000 in
theorem WL_X1_askGaps_132 {g : Gx} {b : Bs} {o : Mm} {Q : Int → Mm → Prop} {k_116 : Int → Mm → Rs} (hC : Cok g b RX1 cX1_askGaps 3 5 none) (hk_116 : ∀ v1 : Int, inR v1 → ∀ m : Mm, Rg m → okR (k_116 v1 m) Q → X g b (true, o) 3 (ZM g b (true, o) 0 Q) 116 [(0, .ref (b.1 + 43)), (1, iV v1)] [] m 0 0) : ∀ n : Nat, ∀ v1 : Int, inR v1 → ∀ v2 : Int, inR v2 → ∀ m : Mm, Rg m → okR (L_X1_askGaps_132 k_116 n v1 v2 m) Q → X g b (true, o) 3 (ZM g b (true, o) 0 Q) 132 [(0, .ref (b.1 + 43)), (1, iV v1), (2, iV v2)] [] m 0 0 := by
  intro n
  induction n with
  | zero => intro v1 hv1 v2 hv2 m hm hF; exact absurd hF (fun z => z)
  | succ n ih =>
    intro v1 hv1 v2 hv2 m hm hF
    have hF : okR (LB_X1_askGaps_132 k_116 (L_X1_askGaps_132 k_116 n) v1 v2 m) Q := hF
    unfold LB_X1_askGaps_132 at hF
    refine x_iload_n hC dX1_askGaps_132 rfl 2 rfl ?_
    refine x_aload_n hC dX1_askGaps_133 rfl 0 rfl ?_
    refine x_getI hC dX1_askGaps_134 rfl flX1_56 rfl (by decide) rfl rfl ?_
    refine x_icmp_ge (tgt := 157) hC dX1_askGaps_137 rfl rfl hv2 (hm.i 43 11 rfl) hF (fun hq1 hF => ?_) (fun hq1 hF => ?_)
    · refine x_iinc (p := 1) (lv' := [(0, .ref (b.1 + 43)), (2, iV v2)]) hC dX1_askGaps_157 rfl rfl (by decide) rfl hF (fun x2 hx2 hF => ?_)
      refine x_goto (tgt := 116) hC dX1_askGaps_160 rfl ?_
      refine x_sub [1, 0] rfl ?_
      exact hk_116 x2 hx2 m hm hF
    · refine x_aload_n hC dX1_askGaps_140 rfl 0 rfl ?_
      refine x_aload_n hC dX1_askGaps_141 rfl 0 rfl ?_
      refine x_getR (t := 47) hC dX1_askGaps_142 rfl flX1_22 rfl (by decide) rfl rfl ?_
      refine x_iload_n hC dX1_askGaps_145 rfl 1 rfl ?_
      refine x_iald hC dX1_askGaps_146 rfl rfl (by decide) rfl hm hv1 hF (fun x3 hx3 hF => ?_)
      refine x_iload_n hC dX1_askGaps_147 rfl 2 rfl ?_
      refine x_callV0 (kc2 := 0) (ks2 := 0) (k := 43) (As := [iV x3, iV v2]) (rest := []) hC dX1_askGaps_148 rfl hm (fun _ _ h => T_X1_askBehind b _ m x3 hx3 v2 hv2 h) mlX1_86 vlX1_askBehind rfl (by decide) rfl rfl (Nat.le_of_ble_eq_true rfl) (by decide) (by decide) rfl rfl hF (fun r4 m5 hr4 hm5 hF => ?_)
      refine x_iinc (p := 2) (lv' := [(0, .ref (b.1 + 43)), (1, iV v1)]) hC dX1_askGaps_151 rfl rfl (by decide) rfl hF (fun x6 hx6 hF => ?_)
      refine x_goto (tgt := 132) hC dX1_askGaps_154 rfl ?_
      refine x_sub [1, 2, 0] rfl ?_
      exact ih v1 hv1 x6 hx6 m5 hm5 hF
set_option maxRecDepth 20000 in
set_option maxHeartbeats 4000000 in
theorem WL_X1_askGaps_116 {g : Gx} {b : Bs} {o : Mm} {Q : Int → Mm → Prop} (hC : Cok g b RX1 cX1_askGaps 3 5 none) : ∀ n : Nat, ∀ v1 : Int, inR v1 → ∀ m : Mm, Rg m → okR (L_X1_askGaps_116 n v1 m) Q → X g b (true, o) 3 (ZM g b (true, o) 0 Q) 116 [(0, .ref (b.1 + 43)), (1, iV v1)] [] m 0 0 := by
  intro n
  induction n with
  | zero => intro v1 hv1 m hm hF; exact absurd hF (fun z => z)
  | succ n ih =>
    intro v1 hv1 m hm hF
    have hF : okR (LB_X1_askGaps_116 (L_X1_askGaps_116 n) v1 m) Q := hF
    unfold LB_X1_askGaps_116 at hF
    refine x_iload_n hC dX1_askGaps_116 rfl 1 rfl ?_
    refine x_aload_n hC dX1_askGaps_117 rfl 0 rfl ?_
    refine x_getI hC dX1_askGaps_118 rfl flX1_69 rfl (by decide) rfl rfl ?_
    refine x_icmp_ge (tgt := 163) hC dX1_askGaps_121 rfl rfl hv1 (hm.i 43 13 rfl) hF (fun hq1 hF => ?_) (fun hq1 hF => ?_)
    · exact x_return hC dX1_askGaps_163 hm hF
    · refine x_iload_n hC dX1_askGaps_124 rfl 1 rfl ?_
      refine x_bipush hC dX1_askGaps_125 rfl rfl ?_
      refine x_icmp_ge (tgt := 163) hC dX1_askGaps_127 rfl rfl hv1 (rgc 84 rfl) hF (fun hq2 hF => ?_) (fun hq2 hF => ?_)
      · exact x_return hC dX1_askGaps_163 hm hF
      · refine x_iconst hC dX1_askGaps_130 rfl ?_
        refine x_istore_nZ (lv' := [(0, .ref (b.1 + 43)), (1, iV v1)]) hC dX1_askGaps_131 rfl rfl (by decide) rfl (Or.inl rfl) hF (fun x3 hx3 hF => ?_)
        refine x_sub [1, 2, 0] rfl ?_
        exact WL_X1_askGaps_132 hC ih 100000  v1 hv1 x3 (rg_01 hx3) m hm hF
set_option maxRecDepth 20000 in
set_option maxHeartbeats 4000000 in
theorem WL_X1_askGaps_52 {g : Gx} {b : Bs} {o : Mm} {Q : Int → Mm → Prop} (hC : Cok g b RX1 cX1_askGaps 3 5 none) : ∀ n : Nat, ∀ v1 : Int, inR v1 → ∀ m : Mm, Rg m → okR (L_X1_askGaps_52 n v1 m) Q → X g b (true, o) 3 (ZM g b (true, o) 0 Q) 52 [(0, .ref (b.1 + 43)), (1, iV v1)] [] m 0 0 := by
  intro n
  induction n with
  | zero => intro v1 hv1 m hm hF; exact absurd hF (fun z => z)
  | succ n ih =>
    intro v1 hv1 m hm hF
    have hF : okR (LB_X1_askGaps_52 (L_X1_askGaps_52 n) v1 m) Q := hF
    unfold LB_X1_askGaps_52 at hF
    refine x_iload_n hC dX1_askGaps_52 rfl 1 rfl ?_
    refine x_aload_n hC dX1_askGaps_53 rfl 0 rfl ?_
    refine x_getI hC dX1_askGaps_54 rfl flX1_56 rfl (by decide) rfl rfl ?_
    refine x_icmp_ge (tgt := 114) hC dX1_askGaps_57 rfl rfl hv1 (hm.i 43 11 rfl) hF (fun hq1 hF => ?_) (fun hq1 hF => ?_)
    · refine x_iconst hC dX1_askGaps_114 rfl ?_
      refine x_istore_nZ (lv' := [(0, .ref (b.1 + 43))]) hC dX1_askGaps_115 rfl rfl (by decide) rfl (Or.inl rfl) hF (fun x2 hx2 hF => ?_)
      refine x_sub [1, 0] rfl ?_
      exact WL_X1_askGaps_116 hC 100000  x2 (rg_01 hx2) m hm hF
    · refine x_aload_n hC dX1_askGaps_60 rfl 0 rfl ?_
      refine x_getR (t := 1) hC dX1_askGaps_61 rfl flX1_37 rfl (by decide) rfl rfl ?_
      refine x_aload_n hC dX1_askGaps_64 rfl 0 rfl ?_
      refine x_getR (t := 44) hC dX1_askGaps_65 rfl flX1_11 rfl (by decide) rfl rfl ?_
      refine x_iload_n hC dX1_askGaps_68 rfl 1 rfl ?_
      refine x_iald hC dX1_askGaps_69 rfl rfl (by decide) rfl hm hv1 hF (fun x3 hx3 hF => ?_)
      refine x_iconst hC dX1_askGaps_70 rfl ?_
      refine x_callV1 (kc2 := 0) (ks2 := 0) (k := 1) (As := [iV x3, iV 0]) (rest := []) hC dX1_askGaps_71 rfl hm (fun _ _ h => T_X4_wordOf b _ m x3 hx3 0 (rgc 0 rfl) h) mlX1_72 vlX4_wordOf rfl (by decide) rfl rfl (Nat.le_of_ble_eq_true rfl) (by decide) (by decide) rfl rfl hF (fun r4 m5 hr4 hm5 hF => ?_)
      refine x_istore_n (lv' := [(0, .ref (b.1 + 43)), (1, iV v1)]) hC dX1_askGaps_74 rfl rfl (by decide) rfl hr4 hF (fun x6 hx6 hF => ?_)
      refine x_iload_n hC dX1_askGaps_75 rfl 0 rfl ?_
      refine x_if_eq (tgt := 108) hC dX1_askGaps_76 rfl rfl hx6 hF (fun hq7 hF => ?_) (fun hq7 hF => ?_)
      · refine x_sub [1, 2] rfl ?_
        exact WJ_X1_askGaps_108 hC ih  v1 hv1 m5 hm5 hF
      · refine x_aload_n hC dX1_askGaps_79 rfl 1 rfl ?_
        refine x_getR (t := 17) hC dX1_askGaps_80 rfl flX1_41 rfl (by decide) rfl rfl ?_
        refine x_bipush hC dX1_askGaps_83 rfl rfl ?_
        refine x_aload_n hC dX1_askGaps_85 rfl 1 rfl ?_
        refine x_getR (t := 44) hC dX1_askGaps_86 rfl flX1_11 rfl (by decide) rfl rfl ?_
        refine x_iload_n hC dX1_askGaps_89 rfl 2 rfl ?_
        refine x_iald hC dX1_askGaps_90 rfl rfl (by decide) rfl hm5 hv1 hF (fun x8 hx8 hF => ?_)
        refine x_bipush hC dX1_askGaps_91 rfl rfl ?_
        refine x_bipush hC dX1_askGaps_93 rfl rfl ?_
        refine x_callV1 (kc2 := 0) (ks2 := 0) (k := 17) (As := [iV 63, iV x8, iV 8, iV 63]) (rest := []) hC dX1_askGaps_95 rfl hm5 (fun _ _ h => T_X7_inCrowd b _ m5 63 (rgc 63 rfl) x8 hx8 8 (rgc 8 rfl) 63 (rgc 63 rfl) h) mlX1_76 vlX7_inCrowd rfl (by decide) rfl rfl (Nat.le_of_ble_eq_true rfl) (by decide) (by decide) rfl rfl hF (fun r9 m10 hr9 hm10 hF => ?_)
        refine x_iload_n hC dX1_askGaps_98 rfl 0 rfl ?_
        refine x_icmp_ne (tgt := 108) hC dX1_askGaps_99 rfl rfl hr9 hx6 hF (fun hq11 hF => ?_) (fun hq11 hF => ?_)
        · refine x_sub [1, 2] rfl ?_
          exact WJ_X1_askGaps_108 hC ih  v1 hv1 m10 hm10 hF
        · refine x_aload_n hC dX1_askGaps_102 rfl 1 rfl ?_
          refine x_iload_n hC dX1_askGaps_103 rfl 2 rfl ?_
          refine x_iconst hC dX1_askGaps_104 rfl ?_
          refine x_callV0 (kc2 := 0) (ks2 := 0) (k := 43) (As := [iV v1, iV 0]) (rest := []) hC dX1_askGaps_105 rfl hm10 (fun _ _ h => T_X1_reach b _ m10 v1 hv1 0 (rgc 0 rfl) h) mlX1_82 vlX1_reach rfl (by decide) rfl rfl (Nat.le_of_ble_eq_true rfl) (by decide) (by decide) rfl rfl hF (fun r12 m13 hr12 hm13 hF => ?_)
          refine x_sub [1, 2] rfl ?_
          exact WJ_X1_askGaps_108 hC ih  v1 hv1 m13 hm13 hF
set_option maxRecDepth 20000 in
set_option maxHeartbeats 4000000 in
theorem WL_X1_askGaps_26 {g : Gx} {b : Bs} {o : Mm} {Q : Int → Mm → Prop} (hC : Cok g b RX1 cX1_askGaps 3 5 none) : ∀ n : Nat, ∀ v1 : Int, inR v1 → ∀ m : Mm, Rg m → okR (L_X1_askGaps_26 n v1 m) Q → X g b (true, o) 3 (ZM g b (true, o) 0 Q) 26 [(0, .ref (b.1 + 43)), (1, iV v1)] [] m 0 0 := by
  intro n
  induction n with
  | zero => intro v1 hv1 m hm hF; exact absurd hF (fun z => z)
  | succ n ih =>
    intro v1 hv1 m hm hF
    have hF : okR (LB_X1_askGaps_26 (L_X1_askGaps_26 n) v1 m) Q := hF
    unfold LB_X1_askGaps_26 at hF
    refine x_iload_n hC dX1_askGaps_26 rfl 1 rfl ?_
    refine x_bipush hC dX1_askGaps_27 rfl rfl ?_
    refine x_icmp_ge (tgt := 45) hC dX1_askGaps_29 rfl rfl hv1 (rgc 84 rfl) hF (fun hq1 hF => ?_) (fun hq1 hF => ?_)
    · refine x_aload_n hC dX1_askGaps_45 rfl 0 rfl ?_
      refine x_iconst hC dX1_askGaps_46 rfl ?_
      refine x_putI hC dX1_askGaps_47 rfl fpX1_69 rfl (by decide) (by decide) rfl rfl hm (rgc 0 rfl) rfl hF (fun m2 hm2 hF => ?_)
      refine x_iconst hC dX1_askGaps_50 rfl ?_
      refine x_istore_nZ (lv' := [(0, .ref (b.1 + 43))]) hC dX1_askGaps_51 rfl rfl (by decide) rfl (Or.inl rfl) hF (fun x3 hx3 hF => ?_)
      refine x_sub [1, 0] rfl ?_
      exact WL_X1_askGaps_52 hC 100000  x3 (rg_01 hx3) m2 hm2 hF
    · refine x_aload_n hC dX1_askGaps_32 rfl 0 rfl ?_
      refine x_getR (t := 46) hC dX1_askGaps_33 rfl flX1_18 rfl (by decide) rfl rfl ?_
      refine x_iload_n hC dX1_askGaps_36 rfl 1 rfl ?_
      refine x_iconst hC dX1_askGaps_37 rfl ?_
      refine x_zast hC dX1_askGaps_38 rfl rfl (by decide) rfl hm hv1 (Or.inl rfl) hF (fun m4 hm4 hF => ?_)
      refine x_iinc (p := 1) (lv' := [(0, .ref (b.1 + 43))]) hC dX1_askGaps_39 rfl rfl (by decide) rfl hF (fun x5 hx5 hF => ?_)
      refine x_goto (tgt := 26) hC dX1_askGaps_42 rfl ?_
      refine x_sub [1, 0] rfl ?_
      exact ih x5 hx5 m4 hm4 hF
set_option maxRecDepth 20000 in
set_option maxHeartbeats 4000000 in
theorem WL_X1_askGaps_2 {g : Gx} {b : Bs} {o : Mm} {Q : Int → Mm → Prop} (hC : Cok g b RX1 cX1_askGaps 3 5 none) : ∀ n : Nat, ∀ v1 : Int, inR v1 → ∀ m : Mm, Rg m → okR (L_X1_askGaps_2 n v1 m) Q → X g b (true, o) 3 (ZM g b (true, o) 0 Q) 2 [(0, .ref (b.1 + 43)), (1, iV v1)] [] m 0 0 := by
  intro n
  induction n with
  | zero => intro v1 hv1 m hm hF; exact absurd hF (fun z => z)
  | succ n ih =>
    intro v1 hv1 m hm hF
    have hF : okR (LB_X1_askGaps_2 (L_X1_askGaps_2 n) v1 m) Q := hF
    unfold LB_X1_askGaps_2 at hF
    refine x_iload_n hC dX1_askGaps_2 rfl 1 rfl ?_
    refine x_aload_n hC dX1_askGaps_3 rfl 0 rfl ?_
    refine x_getR (t := 45) hC dX1_askGaps_4 rfl flX1_15 rfl (by decide) rfl rfl ?_
    refine x_alenS (x := 1344) hC dX1_askGaps_7 rfl rfl (by decide) rfl ?_
    refine x_icmp_ge (tgt := 24) hC dX1_askGaps_8 rfl rfl hv1 (rgc 1344 rfl) hF (fun hq1 hF => ?_) (fun hq1 hF => ?_)
    · refine x_iconst hC dX1_askGaps_24 rfl ?_
      refine x_istore_nZ (lv' := [(0, .ref (b.1 + 43))]) hC dX1_askGaps_25 rfl rfl (by decide) rfl (Or.inl rfl) hF (fun x2 hx2 hF => ?_)
      refine x_sub [1, 0] rfl ?_
      exact WL_X1_askGaps_26 hC 100000  x2 (rg_01 hx2) m hm hF
    · refine x_aload_n hC dX1_askGaps_11 rfl 0 rfl ?_
      refine x_getR (t := 45) hC dX1_askGaps_12 rfl flX1_15 rfl (by decide) rfl rfl ?_
      refine x_iload_n hC dX1_askGaps_15 rfl 1 rfl ?_
      refine x_iconst hC dX1_askGaps_16 rfl ?_
      refine x_iast hC dX1_askGaps_17 rfl rfl (by decide) rfl hm hv1 (rgc 0 rfl) hF (fun m3 hm3 hF => ?_)
      refine x_iinc (p := 1) (lv' := [(0, .ref (b.1 + 43))]) hC dX1_askGaps_18 rfl rfl (by decide) rfl hF (fun x4 hx4 hF => ?_)
      refine x_goto (tgt := 2) hC dX1_askGaps_21 rfl ?_
      refine x_sub [1, 0] rfl ?_
      exact ih x4 hx4 m3 hm3 hF
set_option maxRecDepth 20000 in
set_option maxHeartbeats 4000000 in
theorem T_X1_askGaps (b : Bs) (o : Mm) (m : Mm) {r : Int} {m' : Mm} (h : F_X1_askGaps  m = some (r, m')) : Cn yX1_askGaps cX1_askGaps 3 none (5) 0 0 0 b (true, o) m [.ref (b.1 + 43)] (F_X1_askGaps  m) := by
  refine Cn_of rfl (Nat.le_of_ble_eq_true rfl) (fun g hC hm => ?_)
  have hF := okR_some h
  generalize hQ : (fun (r : Int) (m' : Mm) => F_X1_askGaps  m = some (r, m')) = Q at hF ⊢
  clear hQ h
  replace hC : Cok g b RX1 cX1_askGaps 3 5 none := hC
  refine x_lv (lv' := [(0, .ref (b.1 + 43))]) rfl ?_
  unfold F_X1_askGaps at hF
  refine x_iconst hC dX1_askGaps_0 rfl ?_
  refine x_istore_nZ (lv' := [(0, .ref (b.1 + 43))]) hC dX1_askGaps_1 rfl rfl (by decide) rfl (Or.inl rfl) hF (fun x1 hx1 hF => ?_)
  refine x_sub [1, 0] rfl ?_
  exact WL_X1_askGaps_2 hC 100000  x1 (rg_01 hx1) m hm hF
set_option maxRecDepth 20000 in
set_option maxHeartbeats 4000000 in
theorem T_X1_fittingGaps (b : Bs) (o : Mm) (m : Mm) (a1 : Int) (ha1 : inR a1) (a2 : Int) (ha2 : inR a2) (a3 : Int) (ha3 : inR a3) (a4 : Int) (ha4 : inR a4) {r : Int} {m' : Mm} (h : F_X1_fittingGaps a1 a2 a3 a4 m = some (r, m')) : Cn yX1_fittingGaps cX1_fittingGaps 6 (some .int) (0) 0 0 1 b (true, o) m [.ref (b.1 + 43), iV a1, iV a2, iV a3, iV a4] (F_X1_fittingGaps a1 a2 a3 a4 m) := by
  refine Cn_of rfl (Nat.le_of_ble_eq_true rfl) (fun g hC hm => ?_)
  have hF := okR_some h
  generalize hQ : (fun (r : Int) (m' : Mm) => F_X1_fittingGaps a1 a2 a3 a4 m = some (r, m')) = Q at hF ⊢
  clear hQ h
  replace hC : Cok g b RX1 cX1_fittingGaps 6 0 (some .int) := hC
  refine x_lv (lv' := [(0, .ref (b.1 + 43)), (1, iV a1), (2, iV a2), (3, iV a3), (4, iV a4)]) rfl ?_
  unfold F_X1_fittingGaps at hF
  refine x_iload_n hC dX1_fittingGaps_0 rfl 1 rfl ?_
  refine x_bipush hC dX1_fittingGaps_1 rfl rfl ?_
  refine x_imul hC dX1_fittingGaps_3 rfl ?_
  refine x_iload_n hC dX1_fittingGaps_4 rfl 2 rfl ?_
  refine x_iadd hC dX1_fittingGaps_5 rfl ?_
  refine x_iconst hC dX1_fittingGaps_6 rfl ?_
  refine x_imul hC dX1_fittingGaps_7 rfl ?_
  refine x_iload_n hC dX1_fittingGaps_8 rfl 3 rfl ?_
  refine x_iadd hC dX1_fittingGaps_9 rfl ?_
  refine x_iconst hC dX1_fittingGaps_10 rfl ?_
  refine x_imul hC dX1_fittingGaps_11 rfl ?_
  refine x_iload hC dX1_fittingGaps_12 rfl 4 rfl ?_
  refine x_iadd hC dX1_fittingGaps_14 rfl ?_
  refine x_istore (lv' := [(0, .ref (b.1 + 43)), (1, iV a1), (2, iV a2), (3, iV a3), (4, iV a4)]) hC dX1_fittingGaps_15 rfl (by decide) rfl (rg_wr _) hF (fun x1 hx1 hF => ?_)
  refine x_iload hC dX1_fittingGaps_17 rfl 5 rfl ?_
  refine x_if_lt (tgt := 53) hC dX1_fittingGaps_19 rfl rfl ha4 hF (fun hq2 hF => ?_) (fun hq2 hF => ?_)
  · refine x_iconst hC dX1_fittingGaps_53 rfl ?_
    exact x_ireturn hC dX1_fittingGaps_54 hm (rgc 0 rfl) hF
  · refine x_iload hC dX1_fittingGaps_22 rfl 5 rfl ?_
    refine x_iconst hC dX1_fittingGaps_24 rfl ?_
    refine x_icmp_ge (tgt := 53) hC dX1_fittingGaps_25 rfl rfl ha4 (rgc 4 rfl) hF (fun hq3 hF => ?_) (fun hq3 hF => ?_)
    · refine x_iconst hC dX1_fittingGaps_53 rfl ?_
      exact x_ireturn hC dX1_fittingGaps_54 hm (rgc 0 rfl) hF
    · refine x_iload hC dX1_fittingGaps_28 rfl 0 rfl ?_
      refine x_if_lt (tgt := 53) hC dX1_fittingGaps_30 rfl rfl hx1 hF (fun hq4 hF => ?_) (fun hq4 hF => ?_)
      · refine x_iconst hC dX1_fittingGaps_53 rfl ?_
        exact x_ireturn hC dX1_fittingGaps_54 hm (rgc 0 rfl) hF
      · refine x_iload hC dX1_fittingGaps_33 rfl 0 rfl ?_
        refine x_aload_n hC dX1_fittingGaps_35 rfl 1 rfl ?_
        refine x_getR (t := 45) hC dX1_fittingGaps_36 rfl flX1_15 rfl (by decide) rfl rfl ?_
        refine x_alenS (x := 1344) hC dX1_fittingGaps_39 rfl rfl (by decide) rfl ?_
        refine x_icmp_ge (tgt := 53) hC dX1_fittingGaps_40 rfl rfl hx1 (rgc 1344 rfl) hF (fun hq5 hF => ?_) (fun hq5 hF => ?_)
        · refine x_iconst hC dX1_fittingGaps_53 rfl ?_
          exact x_ireturn hC dX1_fittingGaps_54 hm (rgc 0 rfl) hF
        · refine x_aload_n hC dX1_fittingGaps_43 rfl 1 rfl ?_
          refine x_getR (t := 45) hC dX1_fittingGaps_44 rfl flX1_15 rfl (by decide) rfl rfl ?_
          refine x_iload hC dX1_fittingGaps_47 rfl 0 rfl ?_
          refine x_iald hC dX1_fittingGaps_49 rfl rfl (by decide) rfl hm hx1 hF (fun x6 hx6 hF => ?_)
          refine x_goto (tgt := 54) hC dX1_fittingGaps_50 rfl ?_
          exact x_ireturn hC dX1_fittingGaps_54 hm hx6 hF
set_option maxRecDepth 20000 in
set_option maxHeartbeats 4000000 in
theorem T_X1_wordsOut (b : Bs) (o : Mm) (m : Mm) (a1 : Int) (ha1 : inR a1) (a2 : Int) (ha2 : inR a2) {r : Int} {m' : Mm} (h : F_X1_wordsOut a1 a2 m = some (r, m')) : Cn yX1_wordsOut cX1_wordsOut 3 (some .int) (0) 0 0 1 b (true, o) m [.ref (b.1 + 43), iV a1, iV a2] (F_X1_wordsOut a1 a2 m) := by
  refine Cn_of rfl (Nat.le_of_ble_eq_true rfl) (fun g hC hm => ?_)
  have hF := okR_some h
  generalize hQ : (fun (r : Int) (m' : Mm) => F_X1_wordsOut a1 a2 m = some (r, m')) = Q at hF ⊢
  clear hQ h
  replace hC : Cok g b RX1 cX1_wordsOut 3 0 (some .int) := hC
  refine x_lv (lv' := [(0, .ref (b.1 + 43)), (1, iV a1), (2, iV a2)]) rfl ?_
  unfold F_X1_wordsOut at hF
  refine x_iload_n hC dX1_wordsOut_0 rfl 2 rfl ?_
  refine x_if_lt (tgt := 21) hC dX1_wordsOut_1 rfl rfl ha2 hF (fun hq1 hF => ?_) (fun hq1 hF => ?_)
  · refine x_iconst hC dX1_wordsOut_21 rfl ?_
    exact x_ireturn hC dX1_wordsOut_22 hm (rgc 0 rfl) hF
  · refine x_iload_n hC dX1_wordsOut_4 rfl 2 rfl ?_
    refine x_iconst hC dX1_wordsOut_5 rfl ?_
    refine x_icmp_ge (tgt := 21) hC dX1_wordsOut_6 rfl rfl ha2 (rgc 4 rfl) hF (fun hq2 hF => ?_) (fun hq2 hF => ?_)
    · refine x_iconst hC dX1_wordsOut_21 rfl ?_
      exact x_ireturn hC dX1_wordsOut_22 hm (rgc 0 rfl) hF
    · refine x_iload_n hC dX1_wordsOut_9 rfl 1 rfl ?_
      refine x_one hC dX1_wordsOut_10 rfl kone_X1 ?_
      refine x_iload_n hC dX1_wordsOut_13 rfl 2 rfl ?_
      refine x_oneld hC dX1_wordsOut_14 rfl ha2 hF (fun x3 hx3 hF => ?_)
      refine x_idiv hC dX1_wordsOut_15 rfl ha1 hx3 hF (fun hz4 hF => ?_)
      refine x_iconst hC dX1_wordsOut_16 rfl ?_
      refine x_irem hC dX1_wordsOut_17 rfl (rg_wr _) (rgc 5 rfl) hF (fun hz5 hF => ?_)
      refine x_goto (tgt := 22) hC dX1_wordsOut_18 rfl ?_
      exact x_ireturn hC dX1_wordsOut_22 hm (rg_wr _) hF
set_option maxRecDepth 20000 in
set_option maxHeartbeats 4000000 in
theorem WJ_X1_cost_35 {g : Gx} {b : Bs} {o : Mm} {Q : Int → Mm → Prop} {d : Nat} {f_cost : Int → Int → Int → Int → Mm → Rs} (hC : Cok g b RX1 cX1_cost 10 (d + 1 + 1) (some .int)) (hf_cost : ∀ (m : Mm) (a1 : Int) (ha1 : inR a1) (a2 : Int) (ha2 : inR a2) (a3 : Int) (ha3 : inR a3) (a4 : Int) (ha4 : inR a4) {r : Int} {m' : Mm}, f_cost a1 a2 a3 a4 m = some (r, m') → Cn yX1_cost cX1_cost 10 (some .int) (d + 1) 0 0 1 b (true, o) m [.ref (b.1 + 43), iV a1, iV a2, iV a3, iV a4] (f_cost a1 a2 a3 a4 m)) (v4 : Int) (hv4 : inR v4) (m : Mm) (hm : Rg m) (hF : okR (J_X1_cost_35 f_cost v4 m) Q) : X g b (true, o) 10 (ZM g b (true, o) 1 Q) 35 [(4, iV v4)] [] m 0 0 := by
  unfold J_X1_cost_35 at hF
  refine x_iload hC dX1_cost_35 rfl 0 rfl ?_
  refine x_if_gt (tgt := 44) hC dX1_cost_37 rfl rfl hv4 hF (fun hq1 hF => ?_) (fun hq1 hF => ?_)
  · refine x_ldc (x := 1000000) hC dX1_cost_44 rfl kwX1_52 ?_
    exact x_ireturn hC dX1_cost_46 hm (rgc 1000000 rfl) hF
  · refine x_iconst hC dX1_cost_40 rfl ?_
    refine x_goto (tgt := 46) hC dX1_cost_41 rfl ?_
    exact x_ireturn hC dX1_cost_46 hm (rgc 0 rfl) hF
set_option maxRecDepth 20000 in
set_option maxHeartbeats 4000000 in
theorem WJ_X1_cost_161 {g : Gx} {b : Bs} {o : Mm} {Q : Int → Mm → Prop} {d : Nat} {f_cost : Int → Int → Int → Int → Mm → Rs} {k_73 : Int → Int → Int → Int → Int → Int → Int → Mm → Rs} {k_102 : Int → Int → Int → Int → Int → Int → Int → Int → Int → Mm → Rs} (hC : Cok g b RX1 cX1_cost 10 (d + 1 + 1) (some .int)) (hf_cost : ∀ (m : Mm) (a1 : Int) (ha1 : inR a1) (a2 : Int) (ha2 : inR a2) (a3 : Int) (ha3 : inR a3) (a4 : Int) (ha4 : inR a4) {r : Int} {m' : Mm}, f_cost a1 a2 a3 a4 m = some (r, m') → Cn yX1_cost cX1_cost 10 (some .int) (d + 1) 0 0 1 b (true, o) m [.ref (b.1 + 43), iV a1, iV a2, iV a3, iV a4] (f_cost a1 a2 a3 a4 m)) (hk_73 : ∀ v1 : Int, inR v1 → ∀ v2 : Int, inR v2 → ∀ v3 : Int, inR v3 → ∀ v4 : Int, inR v4 → ∀ v5 : Int, inR v5 → ∀ v6 : Int, inR v6 → ∀ v7 : Int, inR v7 → ∀ m : Mm, Rg m → okR (k_73 v1 v2 v3 v4 v5 v6 v7 m) Q → X g b (true, o) 10 (ZM g b (true, o) 1 Q) 73 [(0, .ref (b.1 + 43)), (1, iV v1), (2, iV v2), (3, iV v3), (4, iV v4), (5, iV v5), (6, iV v6), (7, iV v7)] [] m 0 0) (hk_102 : ∀ v1 : Int, inR v1 → ∀ v2 : Int, inR v2 → ∀ v3 : Int, inR v3 → ∀ v4 : Int, inR v4 → ∀ v5 : Int, inR v5 → ∀ v6 : Int, inR v6 → ∀ v7 : Int, inR v7 → ∀ v8 : Int, inR v8 → ∀ v9 : Int, inR v9 → ∀ m : Mm, Rg m → okR (k_102 v1 v2 v3 v4 v5 v6 v7 v8 v9 m) Q → X g b (true, o) 10 (ZM g b (true, o) 1 Q) 102 [(0, .ref (b.1 + 43)), (1, iV v1), (2, iV v2), (3, iV v3), (4, iV v4), (5, iV v5), (6, iV v6), (7, iV v7), (8, iV v8), (9, iV v9)] [] m 0 0) (v1 : Int) (hv1 : inR v1) (v2 : Int) (hv2 : inR v2) (v3 : Int) (hv3 : inR v3) (v4 : Int) (hv4 : inR v4) (v5 : Int) (hv5 : inR v5) (v6 : Int) (hv6 : inR v6) (v7 : Int) (hv7 : inR v7) (v8 : Int) (hv8 : inR v8) (v9 : Int) (hv9 : inR v9) (m : Mm) (hm : Rg m) (hF : okR (J_X1_cost_161 f_cost k_73 k_102 v1 v2 v3 v4 v5 v6 v7 v8 v9 m) Q) : X g b (true, o) 10 (ZM g b (true, o) 1 Q) 161 [(0, .ref (b.1 + 43)), (1, iV v1), (2, iV v2), (3, iV v3), (4, iV v4), (5, iV v5), (6, iV v6), (7, iV v7), (8, iV v8), (9, iV v9)] [] m 0 0 := by
  unfold J_X1_cost_161 at hF
  refine x_iinc (p := 9) (lv' := [(0, .ref (b.1 + 43)), (1, iV v1), (2, iV v2), (3, iV v3), (4, iV v4), (5, iV v5), (6, iV v6), (7, iV v7), (8, iV v8)]) hC dX1_cost_161 rfl rfl (by decide) rfl hF (fun x1 hx1 hF => ?_)
  refine x_goto (tgt := 102) hC dX1_cost_164 rfl ?_
  refine x_sub [1, 2, 3, 4, 5, 6, 7, 8, 9, 0] rfl ?_
  exact hk_102 v1 hv1 v2 hv2 v3 hv3 v4 hv4 v5 hv5 v6 hv6 v7 hv7 v8 hv8 x1 hx1 m hm hF
set_option maxRecDepth 20000 in
set_option maxHeartbeats 4000000 in
theorem WJ_X1_cost_167 {g : Gx} {b : Bs} {o : Mm} {Q : Int → Mm → Prop} {d : Nat} {f_cost : Int → Int → Int → Int → Mm → Rs} {k_73 : Int → Int → Int → Int → Int → Int → Int → Mm → Rs} (hC : Cok g b RX1 cX1_cost 10 (d + 1 + 1) (some .int)) (hf_cost : ∀ (m : Mm) (a1 : Int) (ha1 : inR a1) (a2 : Int) (ha2 : inR a2) (a3 : Int) (ha3 : inR a3) (a4 : Int) (ha4 : inR a4) {r : Int} {m' : Mm}, f_cost a1 a2 a3 a4 m = some (r, m') → Cn yX1_cost cX1_cost 10 (some .int) (d + 1) 0 0 1 b (true, o) m [.ref (b.1 + 43), iV a1, iV a2, iV a3, iV a4] (f_cost a1 a2 a3 a4 m)) (hk_73 : ∀ v1 : Int, inR v1 → ∀ v2 : Int, inR v2 → ∀ v3 : Int, inR v3 → ∀ v4 : Int, inR v4 → ∀ v5 : Int, inR v5 → ∀ v6 : Int, inR v6 → ∀ v7 : Int, inR v7 → ∀ m : Mm, Rg m → okR (k_73 v1 v2 v3 v4 v5 v6 v7 m) Q → X g b (true, o) 10 (ZM g b (true, o) 1 Q) 73 [(0, .ref (b.1 + 43)), (1, iV v1), (2, iV v2), (3, iV v3), (4, iV v4), (5, iV v5), (6, iV v6), (7, iV v7)] [] m 0 0) (v1 : Int) (hv1 : inR v1) (v2 : Int) (hv2 : inR v2) (v3 : Int) (hv3 : inR v3) (v4 : Int) (hv4 : inR v4) (v5 : Int) (hv5 : inR v5) (v6 : Int) (hv6 : inR v6) (v7 : Int) (hv7 : inR v7) (m : Mm) (hm : Rg m) (hF : okR (J_X1_cost_167 f_cost k_73 v1 v2 v3 v4 v5 v6 v7 m) Q) : X g b (true, o) 10 (ZM g b (true, o) 1 Q) 167 [(0, .ref (b.1 + 43)), (1, iV v1), (2, iV v2), (3, iV v3), (4, iV v4), (5, iV v5), (6, iV v6), (7, iV v7)] [] m 0 0 := by
  unfold J_X1_cost_167 at hF
  refine x_iinc (p := 7) (lv' := [(0, .ref (b.1 + 43)), (1, iV v1), (2, iV v2), (3, iV v3), (4, iV v4), (5, iV v5), (6, iV v6)]) hC dX1_cost_167 rfl rfl (by decide) rfl hF (fun x1 hx1 hF => ?_)
  refine x_goto (tgt := 73) hC dX1_cost_170 rfl ?_
  refine x_sub [1, 2, 3, 4, 5, 6, 7, 0] rfl ?_
  exact hk_73 v1 hv1 v2 hv2 v3 hv3 v4 hv4 v5 hv5 v6 hv6 x1 hx1 m hm hF
set_option maxRecDepth 20000 in
set_option maxHeartbeats 4000000 in
theorem WL_X1_cost_102 {g : Gx} {b : Bs} {o : Mm} {Q : Int → Mm → Prop} {d : Nat} {f_cost : Int → Int → Int → Int → Mm → Rs} {k_73 : Int → Int → Int → Int → Int → Int → Int → Mm → Rs} (hC : Cok g b RX1 cX1_cost 10 (d + 1 + 1) (some .int)) (hf_cost : ∀ (m : Mm) (a1 : Int) (ha1 : inR a1) (a2 : Int) (ha2 : inR a2) (a3 : Int) (ha3 : inR a3) (a4 : Int) (ha4 : inR a4) {r : Int} {m' : Mm}, f_cost a1 a2 a3 a4 m = some (r, m') → Cn yX1_cost cX1_cost 10 (some .int) (d + 1) 0 0 1 b (true, o) m [.ref (b.1 + 43), iV a1, iV a2, iV a3, iV a4] (f_cost a1 a2 a3 a4 m)) (hk_73 : ∀ v1 : Int, inR v1 → ∀ v2 : Int, inR v2 → ∀ v3 : Int, inR v3 → ∀ v4 : Int, inR v4 → ∀ v5 : Int, inR v5 → ∀ v6 : Int, inR v6 → ∀ v7 : Int, inR v7 → ∀ m : Mm, Rg m → okR (k_73 v1 v2 v3 v4 v5 v6 v7 m) Q → X g b (true, o) 10 (ZM g b (true, o) 1 Q) 73 [(0, .ref (b.1 + 43)), (1, iV v1), (2, iV v2), (3, iV v3), (4, iV v4), (5, iV v5), (6, iV v6), (7, iV v7)] [] m 0 0) : ∀ n : Nat, ∀ v1 : Int, inR v1 → ∀ v2 : Int, inR v2 → ∀ v3 : Int, inR v3 → ∀ v4 : Int, inR v4 → ∀ v5 : Int, inR v5 → ∀ v6 : Int, inR v6 → ∀ v7 : Int, inR v7 → ∀ v8 : Int, inR v8 → ∀ v9 : Int, inR v9 → ∀ m : Mm, Rg m → okR (L_X1_cost_102 f_cost k_73 n v1 v2 v3 v4 v5 v6 v7 v8 v9 m) Q → X g b (true, o) 10 (ZM g b (true, o) 1 Q) 102 [(0, .ref (b.1 + 43)), (1, iV v1), (2, iV v2), (3, iV v3), (4, iV v4), (5, iV v5), (6, iV v6), (7, iV v7), (8, iV v8), (9, iV v9)] [] m 0 0 := by
  intro n
  induction n with
  | zero => intro v1 hv1 v2 hv2 v3 hv3 v4 hv4 v5 hv5 v6 hv6 v7 hv7 v8 hv8 v9 hv9 m hm hF; exact absurd hF (fun z => z)
  | succ n ih =>
    intro v1 hv1 v2 hv2 v3 hv3 v4 hv4 v5 hv5 v6 hv6 v7 hv7 v8 hv8 v9 hv9 m hm hF
    have hF : okR (LB_X1_cost_102 f_cost k_73 (L_X1_cost_102 f_cost k_73 n) v1 v2 v3 v4 v5 v6 v7 v8 v9 m) Q := hF
    unfold LB_X1_cost_102 at hF
    refine x_iload hC dX1_cost_102 rfl 9 rfl ?_
    refine x_bipush hC dX1_cost_104 rfl rfl ?_
    refine x_icmp_gt (tgt := 167) hC dX1_cost_106 rfl rfl hv9 (rgc 20 rfl) hF (fun hq1 hF => ?_) (fun hq1 hF => ?_)
    · refine x_sub [0, 1, 2, 3, 4, 5, 6, 7] rfl ?_
      exact WJ_X1_cost_167 hC hf_cost hk_73  v1 hv1 v2 hv2 v3 hv3 v4 hv4 v5 hv5 v6 hv6 v7 hv7 m hm hF
    · refine x_iload hC dX1_cost_109 rfl 9 rfl ?_
      refine x_iload hC dX1_cost_111 rfl 4 rfl ?_
      refine x_iadd hC dX1_cost_113 rfl ?_
      refine x_iconst hC dX1_cost_114 rfl ?_
      refine x_isub hC dX1_cost_115 rfl ?_
      refine x_iload hC dX1_cost_116 rfl 6 rfl ?_
      refine x_icmp_ge (tgt := 167) hC dX1_cost_118 rfl rfl (rg_wr _) hv6 hF (fun hq2 hF => ?_) (fun hq2 hF => ?_)
      · refine x_sub [0, 1, 2, 3, 4, 5, 6, 7] rfl ?_
        exact WJ_X1_cost_167 hC hf_cost hk_73  v1 hv1 v2 hv2 v3 hv3 v4 hv4 v5 hv5 v6 hv6 v7 hv7 m hm hF
      · refine x_iload hC dX1_cost_121 rfl 8 rfl ?_
        refine x_iload hC dX1_cost_123 rfl 9 rfl ?_
        refine x_ishr hC dX1_cost_125 rfl ?_
        refine x_iconst hC dX1_cost_126 rfl ?_
        refine x_iand hC dX1_cost_127 rfl ?_
        refine x_if_eq (tgt := 161) hC dX1_cost_128 rfl rfl (rg_tI _) hF (fun hq3 hF => ?_) (fun hq3 hF => ?_)
        · exact WJ_X1_cost_161 hC hf_cost hk_73 ih  v1 hv1 v2 hv2 v3 hv3 v4 hv4 v5 hv5 v6 hv6 v7 hv7 v8 hv8 v9 hv9 m hm hF
        · refine x_iload hC dX1_cost_131 rfl 6 rfl ?_
          refine x_iload hC dX1_cost_133 rfl 9 rfl ?_
          refine x_aload_n hC dX1_cost_135 rfl 0 rfl ?_
          refine x_iload_n hC dX1_cost_136 rfl 1 rfl ?_
          refine x_one hC dX1_cost_137 rfl kone_X1 ?_
          refine x_iload hC dX1_cost_140 rfl 7 rfl ?_
          refine x_oneld hC dX1_cost_142 rfl hv7 hF (fun x4 hx4 hF => ?_)
          refine x_iadd hC dX1_cost_143 rfl ?_
          refine x_iload hC dX1_cost_144 rfl 7 rfl ?_
          refine x_iload hC dX1_cost_146 rfl 9 rfl ?_
          refine x_iload hC dX1_cost_148 rfl 4 rfl ?_
          refine x_iconst hC dX1_cost_150 rfl ?_
          refine x_isub hC dX1_cost_151 rfl ?_
          refine x_callV1 (kc2 := 0) (ks2 := 0) (k := 43) (As := [iV (wr (v1 + x4)), iV v7, iV v9, iV (wr (v4 - 1))]) (rest := [iV v9, iV v6]) hC dX1_cost_152 rfl hm (fun _ _ h => hf_cost m (wr (v1 + x4)) (rg_wr _) v7 hv7 v9 hv9 (wr (v4 - 1)) (rg_wr _) h) mlX1_97 vlX1_cost rfl (by decide) rfl rfl (Nat.le_of_ble_eq_true rfl) (by omega) (by decide) rfl rfl hF (fun r5 m6 hr5 hm6 hF => ?_)
          refine x_iadd hC dX1_cost_155 rfl ?_
          refine x_callS1 (kc2 := 0) (ks2 := 0) (As := [iV v6, iV (wr (v9 + r5))]) (rest := []) hC dX1_cost_156 rfl hm6 (fun _ _ h => T_J9_min_7cf53 b _ m6 v6 hv6 (wr (v9 + r5)) (rg_wr _) h) mlX1_92 vsJ9_min_7cf53 rfl rfl (Nat.le_of_ble_eq_true rfl) (by omega) (by decide) rfl rfl hF (fun r7 m8 hr7 hm8 hF => ?_)
          refine x_istore (lv' := [(0, .ref (b.1 + 43)), (1, iV v1), (2, iV v2), (3, iV v3), (4, iV v4), (5, iV v5), (7, iV v7), (8, iV v8), (9, iV v9)]) hC dX1_cost_159 rfl (by decide) rfl hr7 hF (fun x9 hx9 hF => ?_)
          refine x_sub [1, 2, 3, 4, 5, 6, 0, 7, 8, 9] rfl ?_
          exact WJ_X1_cost_161 hC hf_cost hk_73 ih  v1 hv1 v2 hv2 v3 hv3 v4 hv4 v5 hv5 x9 hx9 v7 hv7 v8 hv8 v9 hv9 m8 hm8 hF
set_option maxRecDepth 20000 in
set_option maxHeartbeats 4000000 in
theorem WL_X1_cost_73 {g : Gx} {b : Bs} {o : Mm} {Q : Int → Mm → Prop} {d : Nat} {f_cost : Int → Int → Int → Int → Mm → Rs} (hC : Cok g b RX1 cX1_cost 10 (d + 1 + 1) (some .int)) (hf_cost : ∀ (m : Mm) (a1 : Int) (ha1 : inR a1) (a2 : Int) (ha2 : inR a2) (a3 : Int) (ha3 : inR a3) (a4 : Int) (ha4 : inR a4) {r : Int} {m' : Mm}, f_cost a1 a2 a3 a4 m = some (r, m') → Cn yX1_cost cX1_cost 10 (some .int) (d + 1) 0 0 1 b (true, o) m [.ref (b.1 + 43), iV a1, iV a2, iV a3, iV a4] (f_cost a1 a2 a3 a4 m)) : ∀ n : Nat, ∀ v1 : Int, inR v1 → ∀ v2 : Int, inR v2 → ∀ v3 : Int, inR v3 → ∀ v4 : Int, inR v4 → ∀ v5 : Int, inR v5 → ∀ v6 : Int, inR v6 → ∀ v7 : Int, inR v7 → ∀ m : Mm, Rg m → okR (L_X1_cost_73 f_cost n v1 v2 v3 v4 v5 v6 v7 m) Q → X g b (true, o) 10 (ZM g b (true, o) 1 Q) 73 [(0, .ref (b.1 + 43)), (1, iV v1), (2, iV v2), (3, iV v3), (4, iV v4), (5, iV v5), (6, iV v6), (7, iV v7)] [] m 0 0 := by
  intro n
  induction n with
  | zero => intro v1 hv1 v2 hv2 v3 hv3 v4 hv4 v5 hv5 v6 hv6 v7 hv7 m hm hF; exact absurd hF (fun z => z)
  | succ n ih =>
    intro v1 hv1 v2 hv2 v3 hv3 v4 hv4 v5 hv5 v6 hv6 v7 hv7 m hm hF
    have hF : okR (LB_X1_cost_73 f_cost (L_X1_cost_73 f_cost n) v1 v2 v3 v4 v5 v6 v7 m) Q := hF
    unfold LB_X1_cost_73 at hF
    refine x_iload hC dX1_cost_73 rfl 7 rfl ?_
    refine x_aload_n hC dX1_cost_75 rfl 0 rfl ?_
    refine x_getI hC dX1_cost_76 rfl flX1_56 rfl (by decide) rfl rfl ?_
    refine x_icmp_ge (tgt := 173) hC dX1_cost_79 rfl rfl hv7 (hm.i 43 11 rfl) hF (fun hq1 hF => ?_) (fun hq1 hF => ?_)
    · refine x_aload_n hC dX1_cost_173 rfl 0 rfl ?_
      refine x_getD hC dX1_cost_174 rfl flX1_34 rfl (by decide) rfl rfl ?_
      refine x_iload hC dX1_cost_177 rfl 5 rfl ?_
      refine x_iload hC dX1_cost_179 rfl 6 rfl ?_
      refine x_grd hF (fun hg3 hF => ?_)
      refine x_iastD hC dX1_cost_181 rfl hg3 hm hv5 hv6 hF (fun m2 hm2 hF => ?_)
      refine x_iload hC dX1_cost_182 rfl 6 rfl ?_
      exact x_ireturn hC dX1_cost_184 hm2 hv6 hF
    · refine x_aload_n hC dX1_cost_82 rfl 0 rfl ?_
      refine x_iload_n hC dX1_cost_83 rfl 2 rfl ?_
      refine x_iload_n hC dX1_cost_84 rfl 3 rfl ?_
      refine x_iload hC dX1_cost_85 rfl 7 rfl ?_
      refine x_aload_n hC dX1_cost_87 rfl 0 rfl ?_
      refine x_iload_n hC dX1_cost_88 rfl 1 rfl ?_
      refine x_iload hC dX1_cost_89 rfl 7 rfl ?_
      refine x_callV1 (kc2 := 0) (ks2 := 0) (k := 43) (As := [iV v1, iV v7]) (rest := [iV v7, iV v3, iV v2, .ref (b.1 + 43)]) hC dX1_cost_91 rfl hm (fun _ _ h => T_X1_wordsOut b _ m v1 hv1 v7 hv7 h) mlX1_100 vlX1_wordsOut rfl (by decide) rfl rfl (Nat.le_of_ble_eq_true rfl) (by omega) (by decide) rfl rfl hF (fun r4 m5 hr4 hm5 hF => ?_)
      refine x_callV1 (kc2 := 0) (ks2 := 0) (k := 43) (As := [iV v2, iV v3, iV v7, iV r4]) (rest := []) hC dX1_cost_94 rfl hm5 (fun _ _ h => T_X1_fittingGaps b _ m5 v2 hv2 v3 hv3 v7 hv7 r4 hr4 h) mlX1_103 vlX1_fittingGaps rfl (by decide) rfl rfl (Nat.le_of_ble_eq_true rfl) (by omega) (by decide) rfl rfl hF (fun r6 m7 hr6 hm7 hF => ?_)
      refine x_istore (lv' := [(0, .ref (b.1 + 43)), (1, iV v1), (2, iV v2), (3, iV v3), (4, iV v4), (5, iV v5), (6, iV v6), (7, iV v7)]) hC dX1_cost_97 rfl (by decide) rfl hr6 hF (fun x8 hx8 hF => ?_)
      refine x_iconst hC dX1_cost_99 rfl ?_
      refine x_istoreZ (lv' := [(8, iV x8), (0, .ref (b.1 + 43)), (1, iV v1), (2, iV v2), (3, iV v3), (4, iV v4), (5, iV v5), (6, iV v6), (7, iV v7)]) hC dX1_cost_100 rfl (by decide) rfl (Or.inr rfl) hF (fun x9 hx9 hF => ?_)
      refine x_sub [2, 3, 4, 5, 6, 7, 8, 9, 1, 0] rfl ?_
      exact WL_X1_cost_102 hC hf_cost ih 100000  v1 hv1 v2 hv2 v3 hv3 v4 hv4 v5 hv5 v6 hv6 v7 hv7 x8 hx8 x9 (rg_01 hx9) m7 hm7 hF
set_option maxRecDepth 20000 in
set_option maxHeartbeats 4000000 in
theorem TO_X1_cost (b : Bs) (o : Mm) (d : Nat) (f_cost : Int → Int → Int → Int → Mm → Rs) (hf_cost : ∀ (m : Mm) (a1 : Int) (ha1 : inR a1) (a2 : Int) (ha2 : inR a2) (a3 : Int) (ha3 : inR a3) (a4 : Int) (ha4 : inR a4) {r : Int} {m' : Mm}, f_cost a1 a2 a3 a4 m = some (r, m') → Cn yX1_cost cX1_cost 10 (some .int) (d + 1) 0 0 1 b (true, o) m [.ref (b.1 + 43), iV a1, iV a2, iV a3, iV a4] (f_cost a1 a2 a3 a4 m)) (m : Mm) (a1 : Int) (ha1 : inR a1) (a2 : Int) (ha2 : inR a2) (a3 : Int) (ha3 : inR a3) (a4 : Int) (ha4 : inR a4) {r : Int} {m' : Mm} (h : O_X1_cost f_cost a1 a2 a3 a4 m = some (r, m')) : Cn yX1_cost cX1_cost 10 (some .int) ((d + 1 + 1)) 0 0 1 b (true, o) m [.ref (b.1 + 43), iV a1, iV a2, iV a3, iV a4] (O_X1_cost f_cost a1 a2 a3 a4 m) := by
  refine Cn_of rfl (Nat.le_of_ble_eq_true rfl) (fun g hC hm => ?_)
  have hF := okR_some h
  generalize hQ : (fun (r : Int) (m' : Mm) => O_X1_cost f_cost a1 a2 a3 a4 m = some (r, m')) = Q at hF ⊢
  clear hQ h
  replace hC : Cok g b RX1 cX1_cost 10 (d + 1 + 1) (some .int) := hC
  refine x_lv (lv' := [(0, .ref (b.1 + 43)), (1, iV a1), (2, iV a2), (3, iV a3), (4, iV a4)]) rfl ?_
  unfold O_X1_cost at hF
  refine x_iload_n hC dX1_cost_0 rfl 1 rfl ?_
  refine x_aload_n hC dX1_cost_1 rfl 0 rfl ?_
  refine x_getI hC dX1_cost_2 rfl flX1_56 rfl (by decide) rfl rfl ?_
  refine x_imul hC dX1_cost_5 rfl ?_
  refine x_iload_n hC dX1_cost_6 rfl 2 rfl ?_
  refine x_iadd hC dX1_cost_7 rfl ?_
  refine x_bipush hC dX1_cost_8 rfl rfl ?_
  refine x_imul hC dX1_cost_10 rfl ?_
  refine x_iload_n hC dX1_cost_11 rfl 3 rfl ?_
  refine x_iadd hC dX1_cost_12 rfl ?_
  refine x_istore (lv' := [(0, .ref (b.1 + 43)), (1, iV a1), (2, iV a2), (3, iV a3), (4, iV a4)]) hC dX1_cost_13 rfl (by decide) rfl (rg_wr _) hF (fun x1 hx1 hF => ?_)
  refine x_iload hC dX1_cost_15 rfl 5 rfl ?_
  refine x_if_le (tgt := 35) hC dX1_cost_17 rfl rfl ha4 hF (fun hq2 hF => ?_) (fun hq2 hF => ?_)
  · refine x_sub [5] rfl ?_
    exact WJ_X1_cost_35 hC hf_cost  a4 ha4 m hm hF
  · refine x_iload hC dX1_cost_20 rfl 0 rfl ?_
    refine x_if_lt (tgt := 35) hC dX1_cost_22 rfl rfl hx1 hF (fun hq3 hF => ?_) (fun hq3 hF => ?_)
    · refine x_sub [5] rfl ?_
      exact WJ_X1_cost_35 hC hf_cost  a4 ha4 m hm hF
    · refine x_iload hC dX1_cost_25 rfl 0 rfl ?_
      refine x_aload_n hC dX1_cost_27 rfl 1 rfl ?_
      refine x_getD hC dX1_cost_28 rfl flX1_34 rfl (by decide) rfl rfl ?_
      refine x_grd hF (fun hg4 hF => ?_)
      refine x_alenD hC dX1_cost_31 rfl hg4 ?_
      refine x_icmp_lt (tgt := 47) hC dX1_cost_32 rfl rfl hx1 (rg_lenA hm _) hF (fun hq5 hF => ?_) (fun hq5 hF => ?_)
      · refine x_aload_n hC dX1_cost_47 rfl 1 rfl ?_
        refine x_getD hC dX1_cost_48 rfl flX1_34 rfl (by decide) rfl rfl ?_
        refine x_iload hC dX1_cost_51 rfl 0 rfl ?_
        refine x_grd hF (fun hg7 hF => ?_)
        refine x_ialdD hC dX1_cost_53 rfl hg7 hm hx1 hF (fun x6 hx6 hF => ?_)
        refine x_iconst hC dX1_cost_54 rfl ?_
        refine x_icmp_eq (tgt := 66) hC dX1_cost_55 rfl rfl hx6 (rgc (-1) rfl) hF (fun hq8 hF => ?_) (fun hq8 hF => ?_)
        · refine x_ldc (x := 1000000) hC dX1_cost_66 rfl kwX1_52 ?_
          refine x_istore (lv' := [(5, iV x1), (0, .ref (b.1 + 43)), (1, iV a1), (2, iV a2), (3, iV a3), (4, iV a4)]) hC dX1_cost_68 rfl (by decide) rfl (rgc 1000000 rfl) hF (fun x9 hx9 hF => ?_)
          refine x_iconst hC dX1_cost_70 rfl ?_
          refine x_istoreZ (lv' := [(6, iV x9), (5, iV x1), (0, .ref (b.1 + 43)), (1, iV a1), (2, iV a2), (3, iV a3), (4, iV a4)]) hC dX1_cost_71 rfl (by decide) rfl (Or.inl rfl) hF (fun x10 hx10 hF => ?_)
          refine x_sub [3, 4, 5, 6, 7, 2, 1, 0] rfl ?_
          exact WL_X1_cost_73 hC hf_cost 100000  a1 ha1 a2 ha2 a3 ha3 a4 ha4 x1 hx1 x9 hx9 x10 (rg_01 hx10) m hm hF
        · refine x_aload_n hC dX1_cost_58 rfl 1 rfl ?_
          refine x_getD hC dX1_cost_59 rfl flX1_34 rfl (by decide) rfl rfl ?_
          refine x_iload hC dX1_cost_62 rfl 0 rfl ?_
          refine x_grd hF (fun hg12 hF => ?_)
          refine x_ialdD hC dX1_cost_64 rfl hg12 hm hx1 hF (fun x11 hx11 hF => ?_)
          exact x_ireturn hC dX1_cost_65 hm hx11 hF
      · refine x_sub [5] rfl ?_
        exact WJ_X1_cost_35 hC hf_cost  a4 ha4 m hm hF
set_option maxRecDepth 20000 in
set_option maxHeartbeats 4000000 in
theorem TG2 (b : Bs) (o : Mm) : ∀ (d : Nat) (m : Mm) (a1 : Int) (ha1 : inR a1) (a2 : Int) (ha2 : inR a2) (a3 : Int) (ha3 : inR a3) (a4 : Int) (ha4 : inR a4) {r : Int} {m' : Mm}, Gr2 d a1 a2 a3 a4 m = some (r, m') → Cn yX1_cost cX1_cost 10 (some .int) (d + 1) 0 0 1 b (true, o) m [.ref (b.1 + 43), iV a1, iV a2, iV a3, iV a4] (Gr2 d a1 a2 a3 a4 m) := by
  intro d
  induction d with
  | zero => intro m a1 ha1 a2 ha2 a3 ha3 a4 ha4 r m' h; cases h
  | succ d ih =>
    intro m a1 ha1 a2 ha2 a3 ha3 a4 ha4 r m' h
    have e : d + 1 + 1 = d + 1 + 1 := by omega
    rw [e]
    exact TO_X1_cost b o d (Gr2 d) (fun m a1 ha1 a2 ha2 a3 ha3 a4 ha4 _ _ h => ih m a1 ha1 a2 ha2 a3 ha3 a4 ha4 h) m a1 ha1 a2 ha2 a3 ha3 a4 ha4 h
set_option maxRecDepth 20000 in
set_option maxHeartbeats 4000000 in
theorem T_X1_cost (b : Bs) (o : Mm) (m : Mm) (a1 : Int) (ha1 : inR a1) (a2 : Int) (ha2 : inR a2) (a3 : Int) (ha3 : inR a3) (a4 : Int) (ha4 : inR a4) {r : Int} {m' : Mm} (h : F_X1_cost a1 a2 a3 a4 m = some (r, m')) : Cn yX1_cost cX1_cost 10 (some .int) (21) 0 0 1 b (true, o) m [.ref (b.1 + 43), iV a1, iV a2, iV a3, iV a4] (F_X1_cost a1 a2 a3 a4 m) := TG2 b o 20 m a1 ha1 a2 ha2 a3 ha3 a4 ha4 h
set_option maxRecDepth 20000 in
set_option maxHeartbeats 4000000 in
theorem T_X1_costBegunBy (b : Bs) (o : Mm) (m : Mm) (a1 : Int) (ha1 : inR a1) {r : Int} {m' : Mm} (h : F_X1_costBegunBy a1 m = some (r, m')) : Cn yX1_costBegunBy cX1_costBegunBy 2 (some .int) (22) 0 0 1 b (true, o) m [.ref (b.1 + 43), iV a1] (F_X1_costBegunBy a1 m) := by
  refine Cn_of rfl (Nat.le_of_ble_eq_true rfl) (fun g hC hm => ?_)
  have hF := okR_some h
  generalize hQ : (fun (r : Int) (m' : Mm) => F_X1_costBegunBy a1 m = some (r, m')) = Q at hF ⊢
  clear hQ h
  replace hC : Cok g b RX1 cX1_costBegunBy 2 22 (some .int) := hC
  refine x_lv (lv' := [(0, .ref (b.1 + 43)), (1, iV a1)]) rfl ?_
  unfold F_X1_costBegunBy at hF
  refine x_aload_n hC dX1_costBegunBy_0 rfl 0 rfl ?_
  refine x_getR (t := 46) hC dX1_costBegunBy_1 rfl flX1_18 rfl (by decide) rfl rfl ?_
  refine x_iload_n hC dX1_costBegunBy_4 rfl 1 rfl ?_
  refine x_bipush hC dX1_costBegunBy_5 rfl rfl ?_
  refine x_imul hC dX1_costBegunBy_7 rfl ?_
  refine x_zald hC dX1_costBegunBy_8 rfl rfl (by decide) rfl hm (rg_wr _) hF (fun x1 hx1 hF => ?_)
  refine x_if_eq (tgt := 32) hC dX1_costBegunBy_9 rfl rfl (rg_01 hx1) hF (fun hq2 hF => ?_) (fun hq2 hF => ?_)
  · refine x_ldc (x := 1000000) hC dX1_costBegunBy_32 rfl kwX1_52 ?_
    exact x_ireturn hC dX1_costBegunBy_34 hm (rgc 1000000 rfl) hF
  · refine x_aload_n hC dX1_costBegunBy_12 rfl 0 rfl ?_
    refine x_one hC dX1_costBegunBy_13 rfl kone_X1 ?_
    refine x_iload_n hC dX1_costBegunBy_16 rfl 1 rfl ?_
    refine x_oneld hC dX1_costBegunBy_17 rfl ha1 hF (fun x3 hx3 hF => ?_)
    refine x_iload_n hC dX1_costBegunBy_18 rfl 1 rfl ?_
    refine x_iconst hC dX1_costBegunBy_19 rfl ?_
    refine x_aload_n hC dX1_costBegunBy_20 rfl 0 rfl ?_
    refine x_getI hC dX1_costBegunBy_21 rfl flX1_53 rfl (by decide) rfl rfl ?_
    refine x_iconst hC dX1_costBegunBy_24 rfl ?_
    refine x_isub hC dX1_costBegunBy_25 rfl ?_
    refine x_callV1 (kc2 := 0) (ks2 := 0) (k := 43) (As := [iV x3, iV a1, iV 0, iV (wr ((m 43 12) - 1))]) (rest := []) hC dX1_costBegunBy_26 rfl hm (fun _ _ h => T_X1_cost b _ m x3 hx3 a1 ha1 0 (rgc 0 rfl) (wr ((m 43 12) - 1)) (rg_wr _) h) mlX1_97 vlX1_cost rfl (by decide) rfl rfl (Nat.le_of_ble_eq_true rfl) (by decide) (by decide) rfl rfl hF (fun r4 m5 hr4 hm5 hF => ?_)
    refine x_goto (tgt := 34) hC dX1_costBegunBy_29 rfl ?_
    exact x_ireturn hC dX1_costBegunBy_34 hm5 hr4 hF
set_option maxRecDepth 20000 in
set_option maxHeartbeats 4000000 in
theorem WL_X1_findLeast_19 {g : Gx} {b : Bs} {o : Mm} {Q : Int → Mm → Prop} (hC : Cok g b RX1 cX1_findLeast 2 23 none) : ∀ n : Nat, ∀ v1 : Int, inR v1 → ∀ m : Mm, Rg m → okR (L_X1_findLeast_19 n v1 m) Q → X g b (true, o) 2 (ZM g b (true, o) 0 Q) 19 [(0, .ref (b.1 + 43)), (1, iV v1)] [] m 0 0 := by
  intro n
  induction n with
  | zero => intro v1 hv1 m hm hF; exact absurd hF (fun z => z)
  | succ n ih =>
    intro v1 hv1 m hm hF
    have hF : okR (LB_X1_findLeast_19 (L_X1_findLeast_19 n) v1 m) Q := hF
    unfold LB_X1_findLeast_19 at hF
    refine x_iload_n hC dX1_findLeast_19 rfl 1 rfl ?_
    refine x_aload_n hC dX1_findLeast_20 rfl 0 rfl ?_
    refine x_getI hC dX1_findLeast_21 rfl flX1_56 rfl (by decide) rfl rfl ?_
    refine x_icmp_ge (tgt := 49) hC dX1_findLeast_24 rfl rfl hv1 (hm.i 43 11 rfl) hF (fun hq1 hF => ?_) (fun hq1 hF => ?_)
    · exact x_return hC dX1_findLeast_49 hm hF
    · refine x_aload_n hC dX1_findLeast_27 rfl 0 rfl ?_
      refine x_aload_n hC dX1_findLeast_28 rfl 0 rfl ?_
      refine x_getI hC dX1_findLeast_29 rfl flX1_49 rfl (by decide) rfl rfl ?_
      refine x_aload_n hC dX1_findLeast_32 rfl 0 rfl ?_
      refine x_iload_n hC dX1_findLeast_33 rfl 1 rfl ?_
      refine x_callV1 (kc2 := 0) (ks2 := 0) (k := 43) (As := [iV v1]) (rest := [iV (m 43 14), .ref (b.1 + 43)]) hC dX1_findLeast_34 rfl hm (fun _ _ h => T_X1_costBegunBy b _ m v1 hv1 h) mlX1_89 vlX1_costBegunBy rfl (by decide) rfl rfl (Nat.le_of_ble_eq_true rfl) (by decide) (by decide) rfl rfl hF (fun r2 m3 hr2 hm3 hF => ?_)
      refine x_callS1 (kc2 := 0) (ks2 := 0) (As := [iV (m 43 14), iV r2]) (rest := [.ref (b.1 + 43)]) hC dX1_findLeast_37 rfl hm3 (fun _ _ h => T_J9_min_7cf53 b _ m3 (m 43 14) (hm.i 43 14 rfl) r2 hr2 h) mlX1_92 vsJ9_min_7cf53 rfl rfl (Nat.le_of_ble_eq_true rfl) (by decide) (by decide) rfl rfl hF (fun r4 m5 hr4 hm5 hF => ?_)
      refine x_putI hC dX1_findLeast_40 rfl fpX1_49 rfl (by decide) (by decide) rfl rfl hm5 hr4 rfl hF (fun m6 hm6 hF => ?_)
      refine x_iinc (p := 1) (lv' := [(0, .ref (b.1 + 43))]) hC dX1_findLeast_43 rfl rfl (by decide) rfl hF (fun x7 hx7 hF => ?_)
      refine x_goto (tgt := 19) hC dX1_findLeast_46 rfl ?_
      refine x_sub [1, 0] rfl ?_
      exact ih x7 hx7 m6 hm6 hF
set_option maxRecDepth 20000 in
set_option maxHeartbeats 4000000 in
theorem WJ_X1_findLeast_17 {g : Gx} {b : Bs} {o : Mm} {Q : Int → Mm → Prop} (hC : Cok g b RX1 cX1_findLeast 2 23 none) (m : Mm) (hm : Rg m) (hF : okR (J_X1_findLeast_17  m) Q) : X g b (true, o) 2 (ZM g b (true, o) 0 Q) 17 [(0, .ref (b.1 + 43))] [] m 0 0 := by
  unfold J_X1_findLeast_17 at hF
  refine x_iconst hC dX1_findLeast_17 rfl ?_
  refine x_istore_nZ (lv' := [(0, .ref (b.1 + 43))]) hC dX1_findLeast_18 rfl rfl (by decide) rfl (Or.inl rfl) hF (fun x1 hx1 hF => ?_)
  refine x_sub [1, 0] rfl ?_
  exact WL_X1_findLeast_19 hC 100000  x1 (rg_01 hx1) m hm hF
set_option maxRecDepth 20000 in
set_option maxHeartbeats 4000000 in
theorem T_X1_findLeast (b : Bs) (o : Mm) (m : Mm) {r : Int} {m' : Mm} (h : F_X1_findLeast  m = some (r, m')) : Cn yX1_findLeast cX1_findLeast 2 none (23) 0 0 0 b (true, o) m [.ref (b.1 + 43)] (F_X1_findLeast  m) := by
  refine Cn_of rfl (Nat.le_of_ble_eq_true rfl) (fun g hC hm => ?_)
  have hF := okR_some h
  generalize hQ : (fun (r : Int) (m' : Mm) => F_X1_findLeast  m = some (r, m')) = Q at hF ⊢
  clear hQ h
  replace hC : Cok g b RX1 cX1_findLeast 2 23 none := hC
  refine x_lv (lv' := [(0, .ref (b.1 + 43))]) rfl ?_
  unfold F_X1_findLeast at hF
  refine x_aload_n hC dX1_findLeast_0 rfl 0 rfl ?_
  refine x_aload_n hC dX1_findLeast_1 rfl 0 rfl ?_
  refine x_getI hC dX1_findLeast_2 rfl flX1_53 rfl (by decide) rfl rfl ?_
  refine x_if_ne (tgt := 12) hC dX1_findLeast_5 rfl rfl (hm.i 43 12 rfl) hF (fun hq1 hF => ?_) (fun hq1 hF => ?_)
  · refine x_ldc (x := 1000000) hC dX1_findLeast_12 rfl kwX1_52 ?_
    refine x_putI hC dX1_findLeast_14 rfl fpX1_49 rfl (by decide) (by decide) rfl rfl hm (rgc 1000000 rfl) rfl hF (fun m2 hm2 hF => ?_)
    exact WJ_X1_findLeast_17 hC   m2 hm2 hF
  · refine x_iconst hC dX1_findLeast_8 rfl ?_
    refine x_goto (tgt := 14) hC dX1_findLeast_9 rfl ?_
    refine x_putI hC dX1_findLeast_14 rfl fpX1_49 rfl (by decide) (by decide) rfl rfl hm (rgc 0 rfl) rfl hF (fun m3 hm3 hF => ?_)
    exact WJ_X1_findLeast_17 hC   m3 hm3 hF
set_option maxRecDepth 20000 in
set_option maxHeartbeats 4000000 in
theorem WJ_X1_losslessGaps_133 {g : Gx} {b : Bs} {o : Mm} {Q : Int → Mm → Prop} {k_6 : Int → Int → Int → Int → Int → Int → Int → Mm → Rs} {k_55 : Int → Int → Int → Int → Int → Int → Int → Int → Int → Int → Mm → Rs} (hC : Cok g b RX1 cX1_losslessGaps 12 22 (some .int)) (hk_6 : ∀ v1 : Int, inR v1 → ∀ v2 : Int, inR v2 → ∀ v3 : Int, inR v3 → ∀ v4 : Int, inR v4 → ∀ v5 : Int, inR v5 → ∀ v6 : Int, inR v6 → ∀ v7 : Int, inR v7 → ∀ m : Mm, Rg m → okR (k_6 v1 v2 v3 v4 v5 v6 v7 m) Q → X g b (true, o) 12 (ZM g b (true, o) 1 Q) 6 [(0, .ref (b.1 + 43)), (1, iV v1), (2, iV v2), (3, iV v3), (4, iV v4), (5, iV v5), (6, iV v6), (7, iV v7)] [] m 0 0) (hk_55 : ∀ v1 : Int, inR v1 → ∀ v2 : Int, inR v2 → ∀ v3 : Int, inR v3 → ∀ v4 : Int, inR v4 → ∀ v5 : Int, inR v5 → ∀ v6 : Int, inR v6 → ∀ v7 : Int, inR v7 → ∀ v8 : Int, inR v8 → ∀ v9 : Int, inR v9 → ∀ v10 : Int, inR v10 → ∀ m : Mm, Rg m → okR (k_55 v1 v2 v3 v4 v5 v6 v7 v8 v9 v10 m) Q → X g b (true, o) 12 (ZM g b (true, o) 1 Q) 55 [(0, .ref (b.1 + 43)), (1, iV v1), (2, iV v2), (3, iV v3), (4, iV v4), (5, iV v5), (6, iV v6), (7, iV v7), (8, iV v8), (9, iV v9), (10, iV v10)] [] m 0 0) (v1 : Int) (hv1 : inR v1) (v2 : Int) (hv2 : inR v2) (v3 : Int) (hv3 : inR v3) (v4 : Int) (hv4 : inR v4) (v5 : Int) (hv5 : inR v5) (v6 : Int) (hv6 : inR v6) (v7 : Int) (hv7 : inR v7) (v8 : Int) (hv8 : inR v8) (v9 : Int) (hv9 : inR v9) (v10 : Int) (hv10 : inR v10) (m : Mm) (hm : Rg m) (hF : okR (J_X1_losslessGaps_133 k_6 k_55 v1 v2 v3 v4 v5 v6 v7 v8 v9 v10 m) Q) : X g b (true, o) 12 (ZM g b (true, o) 1 Q) 133 [(0, .ref (b.1 + 43)), (1, iV v1), (2, iV v2), (3, iV v3), (4, iV v4), (5, iV v5), (6, iV v6), (7, iV v7), (8, iV v8), (9, iV v9), (10, iV v10)] [] m 0 0 := by
  unfold J_X1_losslessGaps_133 at hF
  refine x_iinc (p := 10) (lv' := [(0, .ref (b.1 + 43)), (1, iV v1), (2, iV v2), (3, iV v3), (4, iV v4), (5, iV v5), (6, iV v6), (7, iV v7), (8, iV v8), (9, iV v9)]) hC dX1_losslessGaps_133 rfl rfl (by decide) rfl hF (fun x1 hx1 hF => ?_)
  refine x_goto (tgt := 55) hC dX1_losslessGaps_136 rfl ?_
  refine x_sub [1, 2, 3, 4, 5, 6, 7, 8, 9, 10, 0] rfl ?_
  exact hk_55 v1 hv1 v2 hv2 v3 hv3 v4 hv4 v5 hv5 v6 hv6 v7 hv7 v8 hv8 v9 hv9 x1 hx1 m hm hF
set_option maxRecDepth 20000 in
set_option maxHeartbeats 4000000 in
theorem WJ_X1_losslessGaps_91 {g : Gx} {b : Bs} {o : Mm} {Q : Int → Mm → Prop} {k_6 : Int → Int → Int → Int → Int → Int → Int → Mm → Rs} {k_55 : Int → Int → Int → Int → Int → Int → Int → Int → Int → Int → Mm → Rs} (hC : Cok g b RX1 cX1_losslessGaps 12 22 (some .int)) (hk_6 : ∀ v1 : Int, inR v1 → ∀ v2 : Int, inR v2 → ∀ v3 : Int, inR v3 → ∀ v4 : Int, inR v4 → ∀ v5 : Int, inR v5 → ∀ v6 : Int, inR v6 → ∀ v7 : Int, inR v7 → ∀ m : Mm, Rg m → okR (k_6 v1 v2 v3 v4 v5 v6 v7 m) Q → X g b (true, o) 12 (ZM g b (true, o) 1 Q) 6 [(0, .ref (b.1 + 43)), (1, iV v1), (2, iV v2), (3, iV v3), (4, iV v4), (5, iV v5), (6, iV v6), (7, iV v7)] [] m 0 0) (hk_55 : ∀ v1 : Int, inR v1 → ∀ v2 : Int, inR v2 → ∀ v3 : Int, inR v3 → ∀ v4 : Int, inR v4 → ∀ v5 : Int, inR v5 → ∀ v6 : Int, inR v6 → ∀ v7 : Int, inR v7 → ∀ v8 : Int, inR v8 → ∀ v9 : Int, inR v9 → ∀ v10 : Int, inR v10 → ∀ m : Mm, Rg m → okR (k_55 v1 v2 v3 v4 v5 v6 v7 v8 v9 v10 m) Q → X g b (true, o) 12 (ZM g b (true, o) 1 Q) 55 [(0, .ref (b.1 + 43)), (1, iV v1), (2, iV v2), (3, iV v3), (4, iV v4), (5, iV v5), (6, iV v6), (7, iV v7), (8, iV v8), (9, iV v9), (10, iV v10)] [] m 0 0) (v1 : Int) (hv1 : inR v1) (v2 : Int) (hv2 : inR v2) (v3 : Int) (hv3 : inR v3) (v4 : Int) (hv4 : inR v4) (v5 : Int) (hv5 : inR v5) (v6 : Int) (hv6 : inR v6) (v7 : Int) (hv7 : inR v7) (v8 : Int) (hv8 : inR v8) (v9 : Int) (hv9 : inR v9) (v10 : Int) (hv10 : inR v10) (v11 : Int) (hv11 : (v11 = 0 ∨ v11 = 1)) (m : Mm) (hm : Rg m) (hF : okR (J_X1_losslessGaps_91 k_6 k_55 v1 v2 v3 v4 v5 v6 v7 v8 v9 v10 v11 m) Q) : X g b (true, o) 12 (ZM g b (true, o) 1 Q) 91 [(0, .ref (b.1 + 43)), (1, iV v1), (2, iV v2), (3, iV v3), (4, iV v4), (5, iV v5), (6, iV v6), (7, iV v7), (8, iV v8), (9, iV v9), (10, iV v10), (11, iV v11)] [] m 0 0 := by
  unfold J_X1_losslessGaps_91 at hF
  refine x_iload hC dX1_losslessGaps_91 rfl 11 rfl ?_
  refine x_if_eq (tgt := 133) hC dX1_losslessGaps_93 rfl rfl (rg_01 hv11) hF (fun hq1 hF => ?_) (fun hq1 hF => ?_)
  · refine x_sub [0, 1, 2, 3, 4, 5, 6, 7, 8, 9, 10] rfl ?_
    exact WJ_X1_losslessGaps_133 hC hk_6 hk_55  v1 hv1 v2 hv2 v3 hv3 v4 hv4 v5 hv5 v6 hv6 v7 hv7 v8 hv8 v9 hv9 v10 hv10 m hm hF
  · refine x_iload hC dX1_losslessGaps_96 rfl 10 rfl ?_
    refine x_aload_n hC dX1_losslessGaps_98 rfl 0 rfl ?_
    refine x_iload_n hC dX1_losslessGaps_99 rfl 2 rfl ?_
    refine x_one hC dX1_losslessGaps_100 rfl kone_X1 ?_
    refine x_iload hC dX1_losslessGaps_103 rfl 4 rfl ?_
    refine x_oneld hC dX1_losslessGaps_105 rfl hv4 hF (fun x2 hx2 hF => ?_)
    refine x_iadd hC dX1_losslessGaps_106 rfl ?_
    refine x_iload hC dX1_losslessGaps_107 rfl 4 rfl ?_
    refine x_iload hC dX1_losslessGaps_109 rfl 10 rfl ?_
    refine x_iload hC dX1_losslessGaps_111 rfl 5 rfl ?_
    refine x_iconst hC dX1_losslessGaps_113 rfl ?_
    refine x_isub hC dX1_losslessGaps_114 rfl ?_
    refine x_callV1 (kc2 := 0) (ks2 := 0) (k := 43) (As := [iV (wr (v2 + x2)), iV v4, iV v10, iV (wr (v5 - 1))]) (rest := [iV v10]) hC dX1_losslessGaps_115 rfl hm (fun _ _ h => T_X1_cost b _ m (wr (v2 + x2)) (rg_wr _) v4 hv4 v10 hv10 (wr (v5 - 1)) (rg_wr _) h) mlX1_97 vlX1_cost rfl (by decide) rfl rfl (Nat.le_of_ble_eq_true rfl) (by decide) (by decide) rfl rfl hF (fun r3 m4 hr3 hm4 hF => ?_)
    refine x_iadd hC dX1_losslessGaps_118 rfl ?_
    refine x_iload hC dX1_losslessGaps_119 rfl 8 rfl ?_
    refine x_icmp_ne (tgt := 133) hC dX1_losslessGaps_121 rfl rfl (rg_wr _) hv8 hF (fun hq5 hF => ?_) (fun hq5 hF => ?_)
    · refine x_sub [0, 1, 2, 3, 4, 5, 6, 7, 8, 9, 10] rfl ?_
      exact WJ_X1_losslessGaps_133 hC hk_6 hk_55  v1 hv1 v2 hv2 v3 hv3 v4 hv4 v5 hv5 v6 hv6 v7 hv7 v8 hv8 v9 hv9 v10 hv10 m4 hm4 hF
    · refine x_iload hC dX1_losslessGaps_124 rfl 6 rfl ?_
      refine x_iconst hC dX1_losslessGaps_126 rfl ?_
      refine x_iload hC dX1_losslessGaps_127 rfl 10 rfl ?_
      refine x_ishl hC dX1_losslessGaps_129 rfl ?_
      refine x_ior hC dX1_losslessGaps_130 rfl ?_
      refine x_istore (lv' := [(0, .ref (b.1 + 43)), (1, iV v1), (2, iV v2), (3, iV v3), (4, iV v4), (5, iV v5), (7, iV v7), (8, iV v8), (9, iV v9), (10, iV v10), (11, iV v11)]) hC dX1_losslessGaps_131 rfl (by decide) rfl (rg_tI _) hF (fun x6 hx6 hF => ?_)
      refine x_sub [1, 2, 3, 4, 5, 6, 0, 7, 8, 9, 10] rfl ?_
      exact WJ_X1_losslessGaps_133 hC hk_6 hk_55  v1 hv1 v2 hv2 v3 hv3 v4 hv4 v5 hv5 x6 hx6 v7 hv7 v8 hv8 v9 hv9 v10 hv10 m4 hm4 hF
set_option maxRecDepth 20000 in
set_option maxHeartbeats 4000000 in
theorem WJ_X1_losslessGaps_139 {g : Gx} {b : Bs} {o : Mm} {Q : Int → Mm → Prop} {k_6 : Int → Int → Int → Int → Int → Int → Int → Mm → Rs} (hC : Cok g b RX1 cX1_losslessGaps 12 22 (some .int)) (hk_6 : ∀ v1 : Int, inR v1 → ∀ v2 : Int, inR v2 → ∀ v3 : Int, inR v3 → ∀ v4 : Int, inR v4 → ∀ v5 : Int, inR v5 → ∀ v6 : Int, inR v6 → ∀ v7 : Int, inR v7 → ∀ m : Mm, Rg m → okR (k_6 v1 v2 v3 v4 v5 v6 v7 m) Q → X g b (true, o) 12 (ZM g b (true, o) 1 Q) 6 [(0, .ref (b.1 + 43)), (1, iV v1), (2, iV v2), (3, iV v3), (4, iV v4), (5, iV v5), (6, iV v6), (7, iV v7)] [] m 0 0) (v1 : Int) (hv1 : inR v1) (v2 : Int) (hv2 : inR v2) (v3 : Int) (hv3 : inR v3) (v4 : Int) (hv4 : inR v4) (v5 : Int) (hv5 : inR v5) (v6 : Int) (hv6 : inR v6) (v7 : Int) (hv7 : inR v7) (m : Mm) (hm : Rg m) (hF : okR (J_X1_losslessGaps_139 k_6 v1 v2 v3 v4 v5 v6 v7 m) Q) : X g b (true, o) 12 (ZM g b (true, o) 1 Q) 139 [(0, .ref (b.1 + 43)), (1, iV v1), (2, iV v2), (3, iV v3), (4, iV v4), (5, iV v5), (6, iV v6), (7, iV v7)] [] m 0 0 := by
  unfold J_X1_losslessGaps_139 at hF
  refine x_iinc (p := 7) (lv' := [(0, .ref (b.1 + 43)), (1, iV v1), (2, iV v2), (3, iV v3), (4, iV v4), (5, iV v5), (6, iV v6)]) hC dX1_losslessGaps_139 rfl rfl (by decide) rfl hF (fun x1 hx1 hF => ?_)
  refine x_goto (tgt := 6) hC dX1_losslessGaps_142 rfl ?_
  refine x_sub [1, 2, 3, 4, 5, 6, 7, 0] rfl ?_
  exact hk_6 v1 hv1 v2 hv2 v3 hv3 v4 hv4 v5 hv5 v6 hv6 x1 hx1 m hm hF
set_option maxRecDepth 20000 in
set_option maxHeartbeats 4000000 in
theorem WL_X1_losslessGaps_55 {g : Gx} {b : Bs} {o : Mm} {Q : Int → Mm → Prop} {k_6 : Int → Int → Int → Int → Int → Int → Int → Mm → Rs} (hC : Cok g b RX1 cX1_losslessGaps 12 22 (some .int)) (hk_6 : ∀ v1 : Int, inR v1 → ∀ v2 : Int, inR v2 → ∀ v3 : Int, inR v3 → ∀ v4 : Int, inR v4 → ∀ v5 : Int, inR v5 → ∀ v6 : Int, inR v6 → ∀ v7 : Int, inR v7 → ∀ m : Mm, Rg m → okR (k_6 v1 v2 v3 v4 v5 v6 v7 m) Q → X g b (true, o) 12 (ZM g b (true, o) 1 Q) 6 [(0, .ref (b.1 + 43)), (1, iV v1), (2, iV v2), (3, iV v3), (4, iV v4), (5, iV v5), (6, iV v6), (7, iV v7)] [] m 0 0) : ∀ n : Nat, ∀ v1 : Int, inR v1 → ∀ v2 : Int, inR v2 → ∀ v3 : Int, inR v3 → ∀ v4 : Int, inR v4 → ∀ v5 : Int, inR v5 → ∀ v6 : Int, inR v6 → ∀ v7 : Int, inR v7 → ∀ v8 : Int, inR v8 → ∀ v9 : Int, inR v9 → ∀ v10 : Int, inR v10 → ∀ m : Mm, Rg m → okR (L_X1_losslessGaps_55 k_6 n v1 v2 v3 v4 v5 v6 v7 v8 v9 v10 m) Q → X g b (true, o) 12 (ZM g b (true, o) 1 Q) 55 [(0, .ref (b.1 + 43)), (1, iV v1), (2, iV v2), (3, iV v3), (4, iV v4), (5, iV v5), (6, iV v6), (7, iV v7), (8, iV v8), (9, iV v9), (10, iV v10)] [] m 0 0 := by
  intro n
  induction n with
  | zero => intro v1 hv1 v2 hv2 v3 hv3 v4 hv4 v5 hv5 v6 hv6 v7 hv7 v8 hv8 v9 hv9 v10 hv10 m hm hF; exact absurd hF (fun z => z)
  | succ n ih =>
    intro v1 hv1 v2 hv2 v3 hv3 v4 hv4 v5 hv5 v6 hv6 v7 hv7 v8 hv8 v9 hv9 v10 hv10 m hm hF
    have hF : okR (LB_X1_losslessGaps_55 k_6 (L_X1_losslessGaps_55 k_6 n) v1 v2 v3 v4 v5 v6 v7 v8 v9 v10 m) Q := hF
    unfold LB_X1_losslessGaps_55 at hF
    refine x_iload hC dX1_losslessGaps_55 rfl 10 rfl ?_
    refine x_bipush hC dX1_losslessGaps_57 rfl rfl ?_
    refine x_icmp_gt (tgt := 139) hC dX1_losslessGaps_59 rfl rfl hv10 (rgc 20 rfl) hF (fun hq1 hF => ?_) (fun hq1 hF => ?_)
    · refine x_sub [0, 1, 2, 3, 4, 5, 6, 7] rfl ?_
      exact WJ_X1_losslessGaps_139 hC hk_6  v1 hv1 v2 hv2 v3 hv3 v4 hv4 v5 hv5 v6 hv6 v7 hv7 m hm hF
    · refine x_iload hC dX1_losslessGaps_62 rfl 10 rfl ?_
      refine x_iload hC dX1_losslessGaps_64 rfl 5 rfl ?_
      refine x_iadd hC dX1_losslessGaps_66 rfl ?_
      refine x_iconst hC dX1_losslessGaps_67 rfl ?_
      refine x_isub hC dX1_losslessGaps_68 rfl ?_
      refine x_iload hC dX1_losslessGaps_69 rfl 8 rfl ?_
      refine x_icmp_gt (tgt := 139) hC dX1_losslessGaps_71 rfl rfl (rg_wr _) hv8 hF (fun hq2 hF => ?_) (fun hq2 hF => ?_)
      · refine x_sub [0, 1, 2, 3, 4, 5, 6, 7] rfl ?_
        exact WJ_X1_losslessGaps_139 hC hk_6  v1 hv1 v2 hv2 v3 hv3 v4 hv4 v5 hv5 v6 hv6 v7 hv7 m hm hF
      · refine x_iload hC dX1_losslessGaps_74 rfl 9 rfl ?_
        refine x_iload hC dX1_losslessGaps_76 rfl 10 rfl ?_
        refine x_ishr hC dX1_losslessGaps_78 rfl ?_
        refine x_iconst hC dX1_losslessGaps_79 rfl ?_
        refine x_iand hC dX1_losslessGaps_80 rfl ?_
        refine x_if_eq (tgt := 88) hC dX1_losslessGaps_81 rfl rfl (rg_tI _) hF (fun hq3 hF => ?_) (fun hq3 hF => ?_)
        · refine x_iconst hC dX1_losslessGaps_88 rfl ?_
          refine x_istoreZ (lv' := [(0, .ref (b.1 + 43)), (1, iV v1), (2, iV v2), (3, iV v3), (4, iV v4), (5, iV v5), (6, iV v6), (7, iV v7), (8, iV v8), (9, iV v9), (10, iV v10)]) hC dX1_losslessGaps_89 rfl (by decide) rfl (Or.inl rfl) hF (fun x4 hx4 hF => ?_)
          refine x_sub [1, 2, 3, 4, 5, 6, 7, 8, 9, 10, 11, 0] rfl ?_
          exact WJ_X1_losslessGaps_91 hC hk_6 ih  v1 hv1 v2 hv2 v3 hv3 v4 hv4 v5 hv5 v6 hv6 v7 hv7 v8 hv8 v9 hv9 v10 hv10 x4 hx4 m hm hF
        · refine x_iconst hC dX1_losslessGaps_84 rfl ?_
          refine x_goto (tgt := 89) hC dX1_losslessGaps_85 rfl ?_
          refine x_istoreZ (lv' := [(0, .ref (b.1 + 43)), (1, iV v1), (2, iV v2), (3, iV v3), (4, iV v4), (5, iV v5), (6, iV v6), (7, iV v7), (8, iV v8), (9, iV v9), (10, iV v10)]) hC dX1_losslessGaps_89 rfl (by decide) rfl (Or.inr rfl) hF (fun x5 hx5 hF => ?_)
          refine x_sub [1, 2, 3, 4, 5, 6, 7, 8, 9, 10, 11, 0] rfl ?_
          exact WJ_X1_losslessGaps_91 hC hk_6 ih  v1 hv1 v2 hv2 v3 hv3 v4 hv4 v5 hv5 v6 hv6 v7 hv7 v8 hv8 v9 hv9 v10 hv10 x5 hx5 m hm hF
set_option maxRecDepth 20000 in
set_option maxHeartbeats 4000000 in
theorem WL_X1_losslessGaps_6 {g : Gx} {b : Bs} {o : Mm} {Q : Int → Mm → Prop} (hC : Cok g b RX1 cX1_losslessGaps 12 22 (some .int)) : ∀ n : Nat, ∀ v1 : Int, inR v1 → ∀ v2 : Int, inR v2 → ∀ v3 : Int, inR v3 → ∀ v4 : Int, inR v4 → ∀ v5 : Int, inR v5 → ∀ v6 : Int, inR v6 → ∀ v7 : Int, inR v7 → ∀ m : Mm, Rg m → okR (L_X1_losslessGaps_6 n v1 v2 v3 v4 v5 v6 v7 m) Q → X g b (true, o) 12 (ZM g b (true, o) 1 Q) 6 [(0, .ref (b.1 + 43)), (1, iV v1), (2, iV v2), (3, iV v3), (4, iV v4), (5, iV v5), (6, iV v6), (7, iV v7)] [] m 0 0 := by
  intro n
  induction n with
  | zero => intro v1 hv1 v2 hv2 v3 hv3 v4 hv4 v5 hv5 v6 hv6 v7 hv7 m hm hF; exact absurd hF (fun z => z)
  | succ n ih =>
    intro v1 hv1 v2 hv2 v3 hv3 v4 hv4 v5 hv5 v6 hv6 v7 hv7 m hm hF
    have hF : okR (LB_X1_losslessGaps_6 (L_X1_losslessGaps_6 n) v1 v2 v3 v4 v5 v6 v7 m) Q := hF
    unfold LB_X1_losslessGaps_6 at hF
    refine x_iload hC dX1_losslessGaps_6 rfl 7 rfl ?_
    refine x_bipush hC dX1_losslessGaps_8 rfl rfl ?_
    refine x_icmp_ge (tgt := 145) hC dX1_losslessGaps_10 rfl rfl hv7 (rgc 21 rfl) hF (fun hq1 hF => ?_) (fun hq1 hF => ?_)
    · refine x_iload hC dX1_losslessGaps_145 rfl 6 rfl ?_
      exact x_ireturn hC dX1_losslessGaps_147 hm hv6 hF
    · refine x_iload_n hC dX1_losslessGaps_13 rfl 1 rfl ?_
      refine x_iload hC dX1_losslessGaps_14 rfl 7 rfl ?_
      refine x_ishr hC dX1_losslessGaps_16 rfl ?_
      refine x_iconst hC dX1_losslessGaps_17 rfl ?_
      refine x_iand hC dX1_losslessGaps_18 rfl ?_
      refine x_if_eq (tgt := 139) hC dX1_losslessGaps_19 rfl rfl (rg_tI _) hF (fun hq2 hF => ?_) (fun hq2 hF => ?_)
      · exact WJ_X1_losslessGaps_139 hC ih  v1 hv1 v2 hv2 v3 hv3 v4 hv4 v5 hv5 v6 hv6 v7 hv7 m hm hF
      · refine x_aload_n hC dX1_losslessGaps_22 rfl 0 rfl ?_
        refine x_iload_n hC dX1_losslessGaps_23 rfl 2 rfl ?_
        refine x_iload_n hC dX1_losslessGaps_24 rfl 3 rfl ?_
        refine x_iload hC dX1_losslessGaps_25 rfl 7 rfl ?_
        refine x_iload hC dX1_losslessGaps_27 rfl 5 rfl ?_
        refine x_callV1 (kc2 := 0) (ks2 := 0) (k := 43) (As := [iV v2, iV v3, iV v7, iV v5]) (rest := []) hC dX1_losslessGaps_29 rfl hm (fun _ _ h => T_X1_cost b _ m v2 hv2 v3 hv3 v7 hv7 v5 hv5 h) mlX1_97 vlX1_cost rfl (by decide) rfl rfl (Nat.le_of_ble_eq_true rfl) (by decide) (by decide) rfl rfl hF (fun r3 m4 hr3 hm4 hF => ?_)
        refine x_istore (lv' := [(0, .ref (b.1 + 43)), (1, iV v1), (2, iV v2), (3, iV v3), (4, iV v4), (5, iV v5), (6, iV v6), (7, iV v7)]) hC dX1_losslessGaps_32 rfl (by decide) rfl hr3 hF (fun x5 hx5 hF => ?_)
        refine x_aload_n hC dX1_losslessGaps_34 rfl 1 rfl ?_
        refine x_iload_n hC dX1_losslessGaps_35 rfl 4 rfl ?_
        refine x_iload hC dX1_losslessGaps_36 rfl 8 rfl ?_
        refine x_iload hC dX1_losslessGaps_38 rfl 5 rfl ?_
        refine x_aload_n hC dX1_losslessGaps_40 rfl 1 rfl ?_
        refine x_iload_n hC dX1_losslessGaps_41 rfl 3 rfl ?_
        refine x_iload hC dX1_losslessGaps_42 rfl 5 rfl ?_
        refine x_callV1 (kc2 := 0) (ks2 := 0) (k := 43) (As := [iV v2, iV v4]) (rest := [iV v4, iV v7, iV v3, .ref (b.1 + 43)]) hC dX1_losslessGaps_44 rfl hm4 (fun _ _ h => T_X1_wordsOut b _ m4 v2 hv2 v4 hv4 h) mlX1_100 vlX1_wordsOut rfl (by decide) rfl rfl (Nat.le_of_ble_eq_true rfl) (by decide) (by decide) rfl rfl hF (fun r6 m7 hr6 hm7 hF => ?_)
        refine x_callV1 (kc2 := 0) (ks2 := 0) (k := 43) (As := [iV v3, iV v7, iV v4, iV r6]) (rest := []) hC dX1_losslessGaps_47 rfl hm7 (fun _ _ h => T_X1_fittingGaps b _ m7 v3 hv3 v7 hv7 v4 hv4 r6 hr6 h) mlX1_103 vlX1_fittingGaps rfl (by decide) rfl rfl (Nat.le_of_ble_eq_true rfl) (by decide) (by decide) rfl rfl hF (fun r8 m9 hr8 hm9 hF => ?_)
        refine x_istore (lv' := [(8, iV x5), (0, .ref (b.1 + 43)), (1, iV v1), (2, iV v2), (3, iV v3), (4, iV v4), (5, iV v5), (6, iV v6), (7, iV v7)]) hC dX1_losslessGaps_50 rfl (by decide) rfl hr8 hF (fun x10 hx10 hF => ?_)
        refine x_iconst hC dX1_losslessGaps_52 rfl ?_
        refine x_istoreZ (lv' := [(9, iV x10), (8, iV x5), (0, .ref (b.1 + 43)), (1, iV v1), (2, iV v2), (3, iV v3), (4, iV v4), (5, iV v5), (6, iV v6), (7, iV v7)]) hC dX1_losslessGaps_53 rfl (by decide) rfl (Or.inr rfl) hF (fun x11 hx11 hF => ?_)
        refine x_sub [3, 4, 5, 6, 7, 8, 9, 10, 2, 1, 0] rfl ?_
        exact WL_X1_losslessGaps_55 hC ih 100000  v1 hv1 v2 hv2 v3 hv3 v4 hv4 v5 hv5 v6 hv6 v7 hv7 x5 hx5 x10 hx10 x11 (rg_01 hx11) m9 hm9 hF
set_option maxRecDepth 20000 in
set_option maxHeartbeats 4000000 in
theorem T_X1_losslessGaps (b : Bs) (o : Mm) (m : Mm) (a1 : Int) (ha1 : inR a1) (a2 : Int) (ha2 : inR a2) (a3 : Int) (ha3 : inR a3) (a4 : Int) (ha4 : inR a4) (a5 : Int) (ha5 : inR a5) {r : Int} {m' : Mm} (h : F_X1_losslessGaps a1 a2 a3 a4 a5 m = some (r, m')) : Cn yX1_losslessGaps cX1_losslessGaps 12 (some .int) (22) 0 0 1 b (true, o) m [.ref (b.1 + 43), iV a1, iV a2, iV a3, iV a4, iV a5] (F_X1_losslessGaps a1 a2 a3 a4 a5 m) := by
  refine Cn_of rfl (Nat.le_of_ble_eq_true rfl) (fun g hC hm => ?_)
  have hF := okR_some h
  generalize hQ : (fun (r : Int) (m' : Mm) => F_X1_losslessGaps a1 a2 a3 a4 a5 m = some (r, m')) = Q at hF ⊢
  clear hQ h
  replace hC : Cok g b RX1 cX1_losslessGaps 12 22 (some .int) := hC
  refine x_lv (lv' := [(0, .ref (b.1 + 43)), (1, iV a1), (2, iV a2), (3, iV a3), (4, iV a4), (5, iV a5)]) rfl ?_
  unfold F_X1_losslessGaps at hF
  refine x_iconst hC dX1_losslessGaps_0 rfl ?_
  refine x_istoreZ (lv' := [(0, .ref (b.1 + 43)), (1, iV a1), (2, iV a2), (3, iV a3), (4, iV a4), (5, iV a5)]) hC dX1_losslessGaps_1 rfl (by decide) rfl (Or.inl rfl) hF (fun x1 hx1 hF => ?_)
  refine x_iconst hC dX1_losslessGaps_3 rfl ?_
  refine x_istoreZ (lv' := [(6, iV x1), (0, .ref (b.1 + 43)), (1, iV a1), (2, iV a2), (3, iV a3), (4, iV a4), (5, iV a5)]) hC dX1_losslessGaps_4 rfl (by decide) rfl (Or.inl rfl) hF (fun x2 hx2 hF => ?_)
  refine x_sub [2, 3, 4, 5, 6, 7, 1, 0] rfl ?_
  exact WL_X1_losslessGaps_6 hC 100000  a1 ha1 a2 ha2 a3 ha3 a4 ha4 a5 ha5 x1 (rg_01 hx1) x2 (rg_01 hx2) m hm hF
set_option maxRecDepth 20000 in
set_option maxHeartbeats 4000000 in
theorem WJ_X1_findSpeakers_160 {g : Gx} {b : Bs} {o : Mm} {Q : Int → Mm → Prop} {k_67 : Int → Int → Int → Mm → Rs} (hC : Cok g b RX1 cX1_findSpeakers 5 23 none) (hk_67 : ∀ v1 : Int, inR v1 → ∀ v2 : Int, inR v2 → ∀ v3 : Int, inR v3 → ∀ m : Mm, Rg m → okR (k_67 v1 v2 v3 m) Q → X g b (true, o) 5 (ZM g b (true, o) 0 Q) 67 [(0, .ref (b.1 + 43)), (1, iV v1), (2, iV v2), (3, iV v3)] [] m 0 0) (v2 : Int) (hv2 : inR v2) (v3 : Int) (hv3 : inR v3) (v4 : Int) (hv4 : inR v4) (m : Mm) (hm : Rg m) (hF : okR (J_X1_findSpeakers_160 k_67 v2 v3 v4 m) Q) : X g b (true, o) 5 (ZM g b (true, o) 0 Q) 160 [(0, .ref (b.1 + 43)), (2, iV v2), (3, iV v3), (4, iV v4)] [] m 0 0 := by
  unfold J_X1_findSpeakers_160 at hF
  refine x_aload_n hC dX1_findSpeakers_160 rfl 0 rfl ?_
  refine x_getR (t := 48) hC dX1_findSpeakers_161 rfl flX1_25 rfl (by decide) rfl rfl ?_
  refine x_iload_n hC dX1_findSpeakers_164 rfl 2 rfl ?_
  refine x_iload hC dX1_findSpeakers_165 rfl 3 rfl ?_
  refine x_iast hC dX1_findSpeakers_167 rfl rfl (by decide) rfl hm hv3 hv4 hF (fun m1 hm1 hF => ?_)
  refine x_iload_n hC dX1_findSpeakers_168 rfl 1 rfl ?_
  refine x_one hC dX1_findSpeakers_169 rfl kone_X1 ?_
  refine x_iload hC dX1_findSpeakers_172 rfl 3 rfl ?_
  refine x_oneld hC dX1_findSpeakers_174 rfl hv4 hF (fun x2 hx2 hF => ?_)
  refine x_iadd hC dX1_findSpeakers_175 rfl ?_
  refine x_istore_n (lv' := [(0, .ref (b.1 + 43)), (3, iV v3), (4, iV v4)]) hC dX1_findSpeakers_176 rfl rfl (by decide) rfl (rg_wr _) hF (fun x3 hx3 hF => ?_)
  refine x_iload hC dX1_findSpeakers_177 rfl 3 rfl ?_
  refine x_istore_n (lv' := [(2, iV x3), (0, .ref (b.1 + 43)), (3, iV v3), (4, iV v4)]) hC dX1_findSpeakers_179 rfl rfl (by decide) rfl hv4 hF (fun x4 hx4 hF => ?_)
  refine x_iinc (p := 3) (lv' := [(1, iV x4), (2, iV x3), (0, .ref (b.1 + 43)), (4, iV v4)]) hC dX1_findSpeakers_180 rfl rfl (by decide) rfl hF (fun x5 hx5 hF => ?_)
  refine x_goto (tgt := 67) hC dX1_findSpeakers_183 rfl ?_
  refine x_sub [3, 1, 2, 0] rfl ?_
  exact hk_67 x4 hx4 x3 hx3 x5 hx5 m1 hm1 hF
set_option maxRecDepth 20000 in
set_option maxHeartbeats 4000000 in
theorem WL_X1_findSpeakers_106 {g : Gx} {b : Bs} {o : Mm} {Q : Int → Mm → Prop} {k_67 : Int → Int → Int → Mm → Rs} (hC : Cok g b RX1 cX1_findSpeakers 5 23 none) (hk_67 : ∀ v1 : Int, inR v1 → ∀ v2 : Int, inR v2 → ∀ v3 : Int, inR v3 → ∀ m : Mm, Rg m → okR (k_67 v1 v2 v3 m) Q → X g b (true, o) 5 (ZM g b (true, o) 0 Q) 67 [(0, .ref (b.1 + 43)), (1, iV v1), (2, iV v2), (3, iV v3)] [] m 0 0) : ∀ n : Nat, ∀ v1 : Int, inR v1 → ∀ v2 : Int, inR v2 → ∀ v3 : Int, inR v3 → ∀ v4 : Int, inR v4 → ∀ m : Mm, Rg m → okR (L_X1_findSpeakers_106 k_67 n v1 v2 v3 v4 m) Q → X g b (true, o) 5 (ZM g b (true, o) 0 Q) 106 [(0, .ref (b.1 + 43)), (1, iV v1), (2, iV v2), (3, iV v3), (4, iV v4)] [] m 0 0 := by
  intro n
  induction n with
  | zero => intro v1 hv1 v2 hv2 v3 hv3 v4 hv4 m hm hF; exact absurd hF (fun z => z)
  | succ n ih =>
    intro v1 hv1 v2 hv2 v3 hv3 v4 hv4 m hm hF
    have hF : okR (LB_X1_findSpeakers_106 k_67 (L_X1_findSpeakers_106 k_67 n) v1 v2 v3 v4 m) Q := hF
    unfold LB_X1_findSpeakers_106 at hF
    refine x_iload hC dX1_findSpeakers_106 rfl 4 rfl ?_
    refine x_aload_n hC dX1_findSpeakers_108 rfl 0 rfl ?_
    refine x_getI hC dX1_findSpeakers_109 rfl flX1_56 rfl (by decide) rfl rfl ?_
    refine x_iconst hC dX1_findSpeakers_112 rfl ?_
    refine x_isub hC dX1_findSpeakers_113 rfl ?_
    refine x_icmp_ge (tgt := 160) hC dX1_findSpeakers_114 rfl rfl hv4 (rg_wr _) hF (fun hq1 hF => ?_) (fun hq1 hF => ?_)
    · refine x_sub [0, 2, 3, 4] rfl ?_
      exact WJ_X1_findSpeakers_160 hC hk_67  v2 hv2 v3 hv3 v4 hv4 m hm hF
    · refine x_aload_n hC dX1_findSpeakers_117 rfl 0 rfl ?_
      refine x_getR (t := 50) hC dX1_findSpeakers_118 rfl flX1_31 rfl (by decide) rfl rfl ?_
      refine x_iload_n hC dX1_findSpeakers_121 rfl 3 rfl ?_
      refine x_iald hC dX1_findSpeakers_122 rfl rfl (by decide) rfl hm hv3 hF (fun x2 hx2 hF => ?_)
      refine x_if_ne (tgt := 160) hC dX1_findSpeakers_123 rfl rfl hx2 hF (fun hq3 hF => ?_) (fun hq3 hF => ?_)
      · refine x_sub [0, 2, 3, 4] rfl ?_
        exact WJ_X1_findSpeakers_160 hC hk_67  v2 hv2 v3 hv3 v4 hv4 m hm hF
      · refine x_iinc (p := 4) (lv' := [(0, .ref (b.1 + 43)), (1, iV v1), (2, iV v2), (3, iV v3)]) hC dX1_findSpeakers_126 rfl rfl (by decide) rfl hF (fun x4 hx4 hF => ?_)
        refine x_aload_n hC dX1_findSpeakers_129 rfl 1 rfl ?_
        refine x_getR (t := 50) hC dX1_findSpeakers_130 rfl flX1_31 rfl (by decide) rfl rfl ?_
        refine x_iload_n hC dX1_findSpeakers_133 rfl 4 rfl ?_
        refine x_aload_n hC dX1_findSpeakers_134 rfl 1 rfl ?_
        refine x_aload_n hC dX1_findSpeakers_135 rfl 1 rfl ?_
        refine x_getR (t := 50) hC dX1_findSpeakers_136 rfl flX1_31 rfl (by decide) rfl rfl ?_
        refine x_iload_n hC dX1_findSpeakers_139 rfl 4 rfl ?_
        refine x_iconst hC dX1_findSpeakers_140 rfl ?_
        refine x_isub hC dX1_findSpeakers_141 rfl ?_
        refine x_iald hC dX1_findSpeakers_142 rfl rfl (by decide) rfl hm (rg_wr _) hF (fun x5 hx5 hF => ?_)
        refine x_iload_n hC dX1_findSpeakers_143 rfl 3 rfl ?_
        refine x_iload_n hC dX1_findSpeakers_144 rfl 2 rfl ?_
        refine x_iload hC dX1_findSpeakers_145 rfl 0 rfl ?_
        refine x_aload_n hC dX1_findSpeakers_147 rfl 1 rfl ?_
        refine x_getI hC dX1_findSpeakers_148 rfl flX1_53 rfl (by decide) rfl rfl ?_
        refine x_iload_n hC dX1_findSpeakers_151 rfl 4 rfl ?_
        refine x_isub hC dX1_findSpeakers_152 rfl ?_
        refine x_callV1 (kc2 := 0) (ks2 := 0) (k := 43) (As := [iV x5, iV v2, iV v1, iV x4, iV (wr ((m 43 12) - v3))]) (rest := [iV v3, .ref (b.1 + 50)]) hC dX1_findSpeakers_153 rfl hm (fun _ _ h => T_X1_losslessGaps b _ m x5 hx5 v2 hv2 v1 hv1 x4 hx4 (wr ((m 43 12) - v3)) (rg_wr _) h) mlX1_110 vlX1_losslessGaps rfl (by decide) rfl rfl (Nat.le_of_ble_eq_true rfl) (by decide) (by decide) rfl rfl hF (fun r6 m7 hr6 hm7 hF => ?_)
        refine x_iast hC dX1_findSpeakers_156 rfl rfl (by decide) rfl hm7 hv3 hr6 hF (fun m8 hm8 hF => ?_)
        refine x_goto (tgt := 106) hC dX1_findSpeakers_157 rfl ?_
        refine x_sub [1, 2, 3, 4, 0] rfl ?_
        exact ih v1 hv1 v2 hv2 v3 hv3 x4 hx4 m8 hm8 hF
set_option maxRecDepth 20000 in
set_option maxHeartbeats 4000000 in
theorem WL_X1_findSpeakers_67 {g : Gx} {b : Bs} {o : Mm} {Q : Int → Mm → Prop} (hC : Cok g b RX1 cX1_findSpeakers 5 23 none) : ∀ n : Nat, ∀ v1 : Int, inR v1 → ∀ v2 : Int, inR v2 → ∀ v3 : Int, inR v3 → ∀ m : Mm, Rg m → okR (L_X1_findSpeakers_67 n v1 v2 v3 m) Q → X g b (true, o) 5 (ZM g b (true, o) 0 Q) 67 [(0, .ref (b.1 + 43)), (1, iV v1), (2, iV v2), (3, iV v3)] [] m 0 0 := by
  intro n
  induction n with
  | zero => intro v1 hv1 v2 hv2 v3 hv3 m hm hF; exact absurd hF (fun z => z)
  | succ n ih =>
    intro v1 hv1 v2 hv2 v3 hv3 m hm hF
    have hF : okR (LB_X1_findSpeakers_67 (L_X1_findSpeakers_67 n) v1 v2 v3 m) Q := hF
    unfold LB_X1_findSpeakers_67 at hF
    refine x_iload_n hC dX1_findSpeakers_67 rfl 3 rfl ?_
    refine x_aload_n hC dX1_findSpeakers_68 rfl 0 rfl ?_
    refine x_getI hC dX1_findSpeakers_69 rfl flX1_53 rfl (by decide) rfl rfl ?_
    refine x_icmp_ge (tgt := 186) hC dX1_findSpeakers_72 rfl rfl hv3 (hm.i 43 12 rfl) hF (fun hq1 hF => ?_) (fun hq1 hF => ?_)
    · exact x_return hC dX1_findSpeakers_186 hm hF
    · refine x_iconst hC dX1_findSpeakers_75 rfl ?_
      refine x_istoreZ (lv' := [(0, .ref (b.1 + 43)), (1, iV v1), (2, iV v2), (3, iV v3)]) hC dX1_findSpeakers_76 rfl (by decide) rfl (Or.inl rfl) hF (fun x2 hx2 hF => ?_)
      refine x_aload_n hC dX1_findSpeakers_78 rfl 1 rfl ?_
      refine x_getR (t := 50) hC dX1_findSpeakers_79 rfl flX1_31 rfl (by decide) rfl rfl ?_
      refine x_iload_n hC dX1_findSpeakers_82 rfl 4 rfl ?_
      refine x_aload_n hC dX1_findSpeakers_83 rfl 1 rfl ?_
      refine x_aload_n hC dX1_findSpeakers_84 rfl 1 rfl ?_
      refine x_getR (t := 50) hC dX1_findSpeakers_85 rfl flX1_31 rfl (by decide) rfl rfl ?_
      refine x_iload_n hC dX1_findSpeakers_88 rfl 4 rfl ?_
      refine x_iconst hC dX1_findSpeakers_89 rfl ?_
      refine x_isub hC dX1_findSpeakers_90 rfl ?_
      refine x_iald hC dX1_findSpeakers_91 rfl rfl (by decide) rfl hm (rg_wr _) hF (fun x3 hx3 hF => ?_)
      refine x_iload_n hC dX1_findSpeakers_92 rfl 3 rfl ?_
      refine x_iload_n hC dX1_findSpeakers_93 rfl 2 rfl ?_
      refine x_iload hC dX1_findSpeakers_94 rfl 0 rfl ?_
      refine x_aload_n hC dX1_findSpeakers_96 rfl 1 rfl ?_
      refine x_getI hC dX1_findSpeakers_97 rfl flX1_53 rfl (by decide) rfl rfl ?_
      refine x_iload_n hC dX1_findSpeakers_100 rfl 4 rfl ?_
      refine x_isub hC dX1_findSpeakers_101 rfl ?_
      refine x_callV1 (kc2 := 0) (ks2 := 0) (k := 43) (As := [iV x3, iV v2, iV v1, iV x2, iV (wr ((m 43 12) - v3))]) (rest := [iV v3, .ref (b.1 + 50)]) hC dX1_findSpeakers_102 rfl hm (fun _ _ h => T_X1_losslessGaps b _ m x3 hx3 v2 hv2 v1 hv1 x2 (rg_01 hx2) (wr ((m 43 12) - v3)) (rg_wr _) h) mlX1_110 vlX1_losslessGaps rfl (by decide) rfl rfl (Nat.le_of_ble_eq_true rfl) (by decide) (by decide) rfl rfl hF (fun r4 m5 hr4 hm5 hF => ?_)
      refine x_iast hC dX1_findSpeakers_105 rfl rfl (by decide) rfl hm5 hv3 hr4 hF (fun m6 hm6 hF => ?_)
      refine x_sub [1, 2, 3, 4, 0] rfl ?_
      exact WL_X1_findSpeakers_106 hC ih 100000  v1 hv1 v2 hv2 v3 hv3 x2 (rg_01 hx2) m6 hm6 hF
set_option maxRecDepth 20000 in
set_option maxHeartbeats 4000000 in
theorem WJ_X1_findSpeakers_45 {g : Gx} {b : Bs} {o : Mm} {Q : Int → Mm → Prop} (hC : Cok g b RX1 cX1_findSpeakers 5 23 none) (v1 : Int) (hv1 : inR v1) (m : Mm) (hm : Rg m) (hF : okR (J_X1_findSpeakers_45 v1 m) Q) : X g b (true, o) 5 (ZM g b (true, o) 0 Q) 45 [(0, .ref (b.1 + 43)), (1, iV v1)] [] m 0 0 := by
  unfold J_X1_findSpeakers_45 at hF
  refine x_aload_n hC dX1_findSpeakers_45 rfl 0 rfl ?_
  refine x_getR (t := 48) hC dX1_findSpeakers_46 rfl flX1_25 rfl (by decide) rfl rfl ?_
  refine x_iconst hC dX1_findSpeakers_49 rfl ?_
  refine x_iload_n hC dX1_findSpeakers_50 rfl 1 rfl ?_
  refine x_iast hC dX1_findSpeakers_51 rfl rfl (by decide) rfl hm (rgc 0 rfl) hv1 hF (fun m1 hm1 hF => ?_)
  refine x_aload_n hC dX1_findSpeakers_52 rfl 0 rfl ?_
  refine x_getR (t := 50) hC dX1_findSpeakers_53 rfl flX1_31 rfl (by decide) rfl rfl ?_
  refine x_iconst hC dX1_findSpeakers_56 rfl ?_
  refine x_iconst hC dX1_findSpeakers_57 rfl ?_
  refine x_iast hC dX1_findSpeakers_58 rfl rfl (by decide) rfl hm1 (rgc 0 rfl) (rgc 1 rfl) hF (fun m2 hm2 hF => ?_)
  refine x_one hC dX1_findSpeakers_59 rfl kone_X1 ?_
  refine x_iload_n hC dX1_findSpeakers_62 rfl 1 rfl ?_
  refine x_oneld hC dX1_findSpeakers_63 rfl hv1 hF (fun x3 hx3 hF => ?_)
  refine x_istore_n (lv' := [(0, .ref (b.1 + 43)), (1, iV v1)]) hC dX1_findSpeakers_64 rfl rfl (by decide) rfl hx3 hF (fun x4 hx4 hF => ?_)
  refine x_iconst hC dX1_findSpeakers_65 rfl ?_
  refine x_istore_nZ (lv' := [(2, iV x4), (0, .ref (b.1 + 43)), (1, iV v1)]) hC dX1_findSpeakers_66 rfl rfl (by decide) rfl (Or.inr rfl) hF (fun x5 hx5 hF => ?_)
  refine x_sub [2, 3, 1, 0] rfl ?_
  exact WL_X1_findSpeakers_67 hC 100000  v1 hv1 x4 hx4 x5 (rg_01 hx5) m2 hm2 hF
set_option maxRecDepth 20000 in
set_option maxHeartbeats 4000000 in
theorem WL_X1_findSpeakers_17 {g : Gx} {b : Bs} {o : Mm} {Q : Int → Mm → Prop} (hC : Cok g b RX1 cX1_findSpeakers 5 23 none) : ∀ n : Nat, ∀ v1 : Int, inR v1 → ∀ m : Mm, Rg m → okR (L_X1_findSpeakers_17 n v1 m) Q → X g b (true, o) 5 (ZM g b (true, o) 0 Q) 17 [(0, .ref (b.1 + 43)), (1, iV v1)] [] m 0 0 := by
  intro n
  induction n with
  | zero => intro v1 hv1 m hm hF; exact absurd hF (fun z => z)
  | succ n ih =>
    intro v1 hv1 m hm hF
    have hF : okR (LB_X1_findSpeakers_17 (L_X1_findSpeakers_17 n) v1 m) Q := hF
    unfold LB_X1_findSpeakers_17 at hF
    refine x_iload_n hC dX1_findSpeakers_17 rfl 1 rfl ?_
    refine x_aload_n hC dX1_findSpeakers_18 rfl 0 rfl ?_
    refine x_getI hC dX1_findSpeakers_19 rfl flX1_56 rfl (by decide) rfl rfl ?_
    refine x_iconst hC dX1_findSpeakers_22 rfl ?_
    refine x_isub hC dX1_findSpeakers_23 rfl ?_
    refine x_icmp_ge (tgt := 45) hC dX1_findSpeakers_24 rfl rfl hv1 (rg_wr _) hF (fun hq1 hF => ?_) (fun hq1 hF => ?_)
    · exact WJ_X1_findSpeakers_45 hC  v1 hv1 m hm hF
    · refine x_aload_n hC dX1_findSpeakers_27 rfl 0 rfl ?_
      refine x_iload_n hC dX1_findSpeakers_28 rfl 1 rfl ?_
      refine x_callV1 (kc2 := 0) (ks2 := 0) (k := 43) (As := [iV v1]) (rest := []) hC dX1_findSpeakers_29 rfl hm (fun _ _ h => T_X1_costBegunBy b _ m v1 hv1 h) mlX1_89 vlX1_costBegunBy rfl (by decide) rfl rfl (Nat.le_of_ble_eq_true rfl) (by decide) (by decide) rfl rfl hF (fun r2 m3 hr2 hm3 hF => ?_)
      refine x_aload_n hC dX1_findSpeakers_32 rfl 0 rfl ?_
      refine x_getI hC dX1_findSpeakers_33 rfl flX1_49 rfl (by decide) rfl rfl ?_
      refine x_icmp_eq (tgt := 45) hC dX1_findSpeakers_36 rfl rfl hr2 (hm3.i 43 14 rfl) hF (fun hq4 hF => ?_) (fun hq4 hF => ?_)
      · exact WJ_X1_findSpeakers_45 hC  v1 hv1 m3 hm3 hF
      · refine x_iinc (p := 1) (lv' := [(0, .ref (b.1 + 43))]) hC dX1_findSpeakers_39 rfl rfl (by decide) rfl hF (fun x5 hx5 hF => ?_)
        refine x_goto (tgt := 17) hC dX1_findSpeakers_42 rfl ?_
        refine x_sub [1, 0] rfl ?_
        exact ih x5 hx5 m3 hm3 hF
set_option maxRecDepth 20000 in
set_option maxHeartbeats 4000000 in
theorem T_X1_findSpeakers (b : Bs) (o : Mm) (m : Mm) {r : Int} {m' : Mm} (h : F_X1_findSpeakers  m = some (r, m')) : Cn yX1_findSpeakers cX1_findSpeakers 5 none (23) 0 0 0 b (true, o) m [.ref (b.1 + 43)] (F_X1_findSpeakers  m) := by
  refine Cn_of rfl (Nat.le_of_ble_eq_true rfl) (fun g hC hm => ?_)
  have hF := okR_some h
  generalize hQ : (fun (r : Int) (m' : Mm) => F_X1_findSpeakers  m = some (r, m')) = Q at hF ⊢
  clear hQ h
  replace hC : Cok g b RX1 cX1_findSpeakers 5 23 none := hC
  refine x_lv (lv' := [(0, .ref (b.1 + 43))]) rfl ?_
  unfold F_X1_findSpeakers at hF
  refine x_aload_n hC dX1_findSpeakers_0 rfl 0 rfl ?_
  refine x_callV3 (kc2 := 0) (ks2 := 0) (k := 43) (As := []) (rest := []) hC dX1_findSpeakers_1 rfl hm (fun _ _ h => T_X1_canBe b _ m  h) mlX1_106 vlX1_canBe rfl (by decide) rfl rfl (Nat.le_of_ble_eq_true rfl) (by decide) (by decide) rfl rfl hF (fun r1 m2 hr1 hm2 hF => ?_)
  refine x_if_eq (tgt := 14) hC dX1_findSpeakers_4 rfl rfl (rg_01 hr1) hF (fun hq3 hF => ?_) (fun hq3 hF => ?_)
  · exact x_return hC dX1_findSpeakers_14 hm2 hF
  · refine x_aload_n hC dX1_findSpeakers_7 rfl 0 rfl ?_
    refine x_getI hC dX1_findSpeakers_8 rfl flX1_53 rfl (by decide) rfl rfl ?_
    refine x_if_ne (tgt := 15) hC dX1_findSpeakers_11 rfl rfl (hm2.i 43 12 rfl) hF (fun hq4 hF => ?_) (fun hq4 hF => ?_)
    · refine x_iconst hC dX1_findSpeakers_15 rfl ?_
      refine x_istore_nZ (lv' := [(0, .ref (b.1 + 43))]) hC dX1_findSpeakers_16 rfl rfl (by decide) rfl (Or.inl rfl) hF (fun x5 hx5 hF => ?_)
      refine x_sub [1, 0] rfl ?_
      exact WL_X1_findSpeakers_17 hC 100000  x5 (rg_01 hx5) m2 hm2 hF
    · exact x_return hC dX1_findSpeakers_14 hm2 hF
set_option maxRecDepth 20000 in
set_option maxHeartbeats 4000000 in
theorem WJ_J6_numberOfTrailingZeros_0f7a4_74 {g : Gx} {b : Bs} {o : Mm} {Q : Int → Mm → Prop} (hC : Cok g b RJ6 cJ6_numberOfTrailingZeros_0f7a4 2 0 (some .int)) (v0 : Int) (hv0 : inR v0) (v1 : Int) (hv1 : inR v1) (m : Mm) (hm : Rg m) (hF : okR (J_J6_numberOfTrailingZeros_0f7a4_74 v0 v1 m) Q) : X g b (true, o) 2 (ZM g b (true, o) 1 Q) 74 [(0, iV v0), (1, iV v1)] [] m 0 0 := by
  unfold J_J6_numberOfTrailingZeros_0f7a4_74 at hF
  refine x_iload_n hC dJ6_numberOfTrailingZeros_0f7a4_74 rfl 1 rfl ?_
  refine x_iload_n hC dJ6_numberOfTrailingZeros_0f7a4_75 rfl 0 rfl ?_
  refine x_iconst hC dJ6_numberOfTrailingZeros_0f7a4_76 rfl ?_
  refine x_iushr hC dJ6_numberOfTrailingZeros_0f7a4_77 rfl ?_
  refine x_iadd hC dJ6_numberOfTrailingZeros_0f7a4_78 rfl ?_
  exact x_ireturn hC dJ6_numberOfTrailingZeros_0f7a4_79 hm (rg_wr _) hF
set_option maxRecDepth 20000 in
set_option maxHeartbeats 4000000 in
theorem WJ_J6_numberOfTrailingZeros_0f7a4_62 {g : Gx} {b : Bs} {o : Mm} {Q : Int → Mm → Prop} (hC : Cok g b RJ6 cJ6_numberOfTrailingZeros_0f7a4 2 0 (some .int)) (v0 : Int) (hv0 : inR v0) (v1 : Int) (hv1 : inR v1) (m : Mm) (hm : Rg m) (hF : okR (J_J6_numberOfTrailingZeros_0f7a4_62 v0 v1 m) Q) : X g b (true, o) 2 (ZM g b (true, o) 1 Q) 62 [(0, iV v0), (1, iV v1)] [] m 0 0 := by
  unfold J_J6_numberOfTrailingZeros_0f7a4_62 at hF
  refine x_iload_n hC dJ6_numberOfTrailingZeros_0f7a4_62 rfl 0 rfl ?_
  refine x_iconst hC dJ6_numberOfTrailingZeros_0f7a4_63 rfl ?_
  refine x_icmp_le (tgt := 74) hC dJ6_numberOfTrailingZeros_0f7a4_64 rfl rfl hv0 (rgc 4 rfl) hF (fun hq1 hF => ?_) (fun hq1 hF => ?_)
  · exact WJ_J6_numberOfTrailingZeros_0f7a4_74 hC  v0 hv0 v1 hv1 m hm hF
  · refine x_iinc (p := 1) (lv' := [(0, iV v0)]) hC dJ6_numberOfTrailingZeros_0f7a4_67 rfl rfl (by decide) rfl hF (fun x2 hx2 hF => ?_)
    refine x_iload_n hC dJ6_numberOfTrailingZeros_0f7a4_70 rfl 1 rfl ?_
    refine x_iconst hC dJ6_numberOfTrailingZeros_0f7a4_71 rfl ?_
    refine x_iushr hC dJ6_numberOfTrailingZeros_0f7a4_72 rfl ?_
    refine x_istore_n (lv' := [(1, iV x2)]) hC dJ6_numberOfTrailingZeros_0f7a4_73 rfl rfl (by decide) rfl (rg_tI _) hF (fun x3 hx3 hF => ?_)
    exact WJ_J6_numberOfTrailingZeros_0f7a4_74 hC  x3 hx3 x2 hx2 m hm hF
set_option maxRecDepth 20000 in
set_option maxHeartbeats 4000000 in
theorem WJ_J6_numberOfTrailingZeros_0f7a4_49 {g : Gx} {b : Bs} {o : Mm} {Q : Int → Mm → Prop} (hC : Cok g b RJ6 cJ6_numberOfTrailingZeros_0f7a4 2 0 (some .int)) (v0 : Int) (hv0 : inR v0) (v1 : Int) (hv1 : inR v1) (m : Mm) (hm : Rg m) (hF : okR (J_J6_numberOfTrailingZeros_0f7a4_49 v0 v1 m) Q) : X g b (true, o) 2 (ZM g b (true, o) 1 Q) 49 [(0, iV v0), (1, iV v1)] [] m 0 0 := by
  unfold J_J6_numberOfTrailingZeros_0f7a4_49 at hF
  refine x_iload_n hC dJ6_numberOfTrailingZeros_0f7a4_49 rfl 0 rfl ?_
  refine x_bipush hC dJ6_numberOfTrailingZeros_0f7a4_50 rfl rfl ?_
  refine x_icmp_le (tgt := 62) hC dJ6_numberOfTrailingZeros_0f7a4_52 rfl rfl hv0 (rgc 16 rfl) hF (fun hq1 hF => ?_) (fun hq1 hF => ?_)
  · exact WJ_J6_numberOfTrailingZeros_0f7a4_62 hC  v0 hv0 v1 hv1 m hm hF
  · refine x_iinc (p := 1) (lv' := [(0, iV v0)]) hC dJ6_numberOfTrailingZeros_0f7a4_55 rfl rfl (by decide) rfl hF (fun x2 hx2 hF => ?_)
    refine x_iload_n hC dJ6_numberOfTrailingZeros_0f7a4_58 rfl 1 rfl ?_
    refine x_iconst hC dJ6_numberOfTrailingZeros_0f7a4_59 rfl ?_
    refine x_iushr hC dJ6_numberOfTrailingZeros_0f7a4_60 rfl ?_
    refine x_istore_n (lv' := [(1, iV x2)]) hC dJ6_numberOfTrailingZeros_0f7a4_61 rfl rfl (by decide) rfl (rg_tI _) hF (fun x3 hx3 hF => ?_)
    exact WJ_J6_numberOfTrailingZeros_0f7a4_62 hC  x3 hx3 x2 hx2 m hm hF
set_option maxRecDepth 20000 in
set_option maxHeartbeats 4000000 in
theorem WJ_J6_numberOfTrailingZeros_0f7a4_34 {g : Gx} {b : Bs} {o : Mm} {Q : Int → Mm → Prop} (hC : Cok g b RJ6 cJ6_numberOfTrailingZeros_0f7a4 2 0 (some .int)) (v0 : Int) (hv0 : inR v0) (v1 : Int) (hv1 : inR v1) (m : Mm) (hm : Rg m) (hF : okR (J_J6_numberOfTrailingZeros_0f7a4_34 v0 v1 m) Q) : X g b (true, o) 2 (ZM g b (true, o) 1 Q) 34 [(0, iV v0), (1, iV v1)] [] m 0 0 := by
  unfold J_J6_numberOfTrailingZeros_0f7a4_34 at hF
  refine x_iload_n hC dJ6_numberOfTrailingZeros_0f7a4_34 rfl 0 rfl ?_
  refine x_sipush hC dJ6_numberOfTrailingZeros_0f7a4_35 rfl rfl ?_
  refine x_icmp_le (tgt := 49) hC dJ6_numberOfTrailingZeros_0f7a4_38 rfl rfl hv0 (rgc 256 rfl) hF (fun hq1 hF => ?_) (fun hq1 hF => ?_)
  · exact WJ_J6_numberOfTrailingZeros_0f7a4_49 hC  v0 hv0 v1 hv1 m hm hF
  · refine x_iinc (p := 1) (lv' := [(0, iV v0)]) hC dJ6_numberOfTrailingZeros_0f7a4_41 rfl rfl (by decide) rfl hF (fun x2 hx2 hF => ?_)
    refine x_iload_n hC dJ6_numberOfTrailingZeros_0f7a4_44 rfl 1 rfl ?_
    refine x_bipush hC dJ6_numberOfTrailingZeros_0f7a4_45 rfl rfl ?_
    refine x_iushr hC dJ6_numberOfTrailingZeros_0f7a4_47 rfl ?_
    refine x_istore_n (lv' := [(1, iV x2)]) hC dJ6_numberOfTrailingZeros_0f7a4_48 rfl rfl (by decide) rfl (rg_tI _) hF (fun x3 hx3 hF => ?_)
    exact WJ_J6_numberOfTrailingZeros_0f7a4_49 hC  x3 hx3 x2 hx2 m hm hF
set_option maxRecDepth 20000 in
set_option maxHeartbeats 4000000 in
theorem T_J6_numberOfTrailingZeros_0f7a4 (b : Bs) (o : Mm) (m : Mm) (a1 : Int) (ha1 : inR a1) {r : Int} {m' : Mm} (h : F_J6_numberOfTrailingZeros_0f7a4 a1 m = some (r, m')) : Cn yJ6_numberOfTrailingZeros_0f7a4 cJ6_numberOfTrailingZeros_0f7a4 2 (some .int) (0) 0 0 1 b (true, o) m [iV a1] (F_J6_numberOfTrailingZeros_0f7a4 a1 m) := by
  refine Cn_ofF (by decide +kernel) (Nat.le_of_ble_eq_true rfl) (fun g hC hm => ?_)
  have hF := okR_some h
  generalize hQ : (fun (r : Int) (m' : Mm) => F_J6_numberOfTrailingZeros_0f7a4 a1 m = some (r, m')) = Q at hF ⊢
  clear hQ h
  replace hC : Cok g b RJ6 cJ6_numberOfTrailingZeros_0f7a4 2 0 (some .int) := hC
  refine x_lv (lv' := [(0, iV a1)]) rfl ?_
  unfold F_J6_numberOfTrailingZeros_0f7a4 at hF
  refine x_iload_n hC dJ6_numberOfTrailingZeros_0f7a4_0 rfl 0 rfl ?_
  refine x_iconst hC dJ6_numberOfTrailingZeros_0f7a4_1 rfl ?_
  refine x_ixor hC dJ6_numberOfTrailingZeros_0f7a4_2 rfl ?_
  refine x_iload_n hC dJ6_numberOfTrailingZeros_0f7a4_3 rfl 0 rfl ?_
  refine x_iconst hC dJ6_numberOfTrailingZeros_0f7a4_4 rfl ?_
  refine x_isub hC dJ6_numberOfTrailingZeros_0f7a4_5 rfl ?_
  refine x_iand hC dJ6_numberOfTrailingZeros_0f7a4_6 rfl ?_
  refine x_istore_n (lv' := []) hC dJ6_numberOfTrailingZeros_0f7a4_7 rfl rfl (by decide) rfl (rg_tI _) hF (fun x1 hx1 hF => ?_)
  refine x_iload_n hC dJ6_numberOfTrailingZeros_0f7a4_8 rfl 0 rfl ?_
  refine x_if_gt (tgt := 17) hC dJ6_numberOfTrailingZeros_0f7a4_9 rfl rfl hx1 hF (fun hq2 hF => ?_) (fun hq2 hF => ?_)
  · refine x_iconst hC dJ6_numberOfTrailingZeros_0f7a4_17 rfl ?_
    refine x_istore_nZ (lv' := [(0, iV x1)]) hC dJ6_numberOfTrailingZeros_0f7a4_18 rfl rfl (by decide) rfl (Or.inr rfl) hF (fun x3 hx3 hF => ?_)
    refine x_iload_n hC dJ6_numberOfTrailingZeros_0f7a4_19 rfl 1 rfl ?_
    refine x_ldc_w (x := 65536) hC dJ6_numberOfTrailingZeros_0f7a4_20 rfl kwJ6_264 ?_
    refine x_icmp_le (tgt := 34) hC dJ6_numberOfTrailingZeros_0f7a4_23 rfl rfl hx1 (rgc 65536 rfl) hF (fun hq4 hF => ?_) (fun hq4 hF => ?_)
    · refine x_sub [1, 0] rfl ?_
      exact WJ_J6_numberOfTrailingZeros_0f7a4_34 hC  x1 hx1 x3 (rg_01 hx3) m hm hF
    · refine x_iinc (p := 0) (lv' := [(0, iV x1)]) hC dJ6_numberOfTrailingZeros_0f7a4_26 rfl rfl (by decide) rfl hF (fun x5 hx5 hF => ?_)
      refine x_iload_n hC dJ6_numberOfTrailingZeros_0f7a4_29 rfl 1 rfl ?_
      refine x_bipush hC dJ6_numberOfTrailingZeros_0f7a4_30 rfl rfl ?_
      refine x_iushr hC dJ6_numberOfTrailingZeros_0f7a4_32 rfl ?_
      refine x_istore_n (lv' := [(1, iV x5)]) hC dJ6_numberOfTrailingZeros_0f7a4_33 rfl rfl (by decide) rfl (rg_tI _) hF (fun x6 hx6 hF => ?_)
      exact WJ_J6_numberOfTrailingZeros_0f7a4_34 hC  x6 hx6 x5 hx5 m hm hF
  · refine x_iload_n hC dJ6_numberOfTrailingZeros_0f7a4_12 rfl 0 rfl ?_
    refine x_bipush hC dJ6_numberOfTrailingZeros_0f7a4_13 rfl rfl ?_
    refine x_iand hC dJ6_numberOfTrailingZeros_0f7a4_15 rfl ?_
    exact x_ireturn hC dJ6_numberOfTrailingZeros_0f7a4_16 hm (rg_tI _) hF

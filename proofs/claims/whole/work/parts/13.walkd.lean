set_option maxRecDepth 20000 in
set_option maxHeartbeats 4000000 in
theorem T_X9_add (b : Bs) (o : Mm) (m : Mm) (a1 : Int) (ha1 : inR a1) (a2 : Int) (ha2 : inR a2) {r : Int} {m' : Mm} (h : F_X9_add a1 a2 m = some (r, m')) : Cn yX9_add cX9_add 3 (some .boolean) (1) 0 0 3 b (true, o) m [.ref (b.1 + 9), iV a1, iV a2] (F_X9_add a1 a2 m) := by
  refine Cn_of rfl (Nat.le_of_ble_eq_true rfl) (fun g hC hm => ?_)
  have hF := okR_some h
  generalize hQ : (fun (r : Int) (m' : Mm) => F_X9_add a1 a2 m = some (r, m')) = Q at hF ⊢
  clear hQ h
  replace hC : Cok g b RX9 cX9_add 3 1 (some .boolean) := hC
  refine x_lv (lv' := [(0, .ref (b.1 + 9)), (1, iV a1), (2, iV a2)]) rfl ?_
  unfold F_X9_add at hF
  refine x_aload_n hC dX9_add_0 rfl 0 rfl ?_
  refine x_getI hC dX9_add_1 rfl flX9_31 rfl (by decide) rfl rfl ?_
  refine x_sipush hC dX9_add_4 rfl rfl ?_
  refine x_icmp_ge (tgt := 31) hC dX9_add_7 rfl rfl (hm.i 9 4 rfl) (rgc 150 rfl) hF (fun hq1 hF => ?_) (fun hq1 hF => ?_)
  · refine x_iconst hC dX9_add_31 rfl ?_
    exact x_zreturn hC dX9_add_32 hm (Or.inl rfl) hF
  · refine x_iload_n hC dX9_add_10 rfl 2 rfl ?_
    refine x_sipush hC dX9_add_11 rfl rfl ?_
    refine x_icmp_gt (tgt := 31) hC dX9_add_14 rfl rfl ha2 (rgc 9999 rfl) hF (fun hq2 hF => ?_) (fun hq2 hF => ?_)
    · refine x_iconst hC dX9_add_31 rfl ?_
      exact x_zreturn hC dX9_add_32 hm (Or.inl rfl) hF
    · refine x_iload_n hC dX9_add_17 rfl 2 rfl ?_
      refine x_aload_n hC dX9_add_18 rfl 0 rfl ?_
      refine x_aload_n hC dX9_add_19 rfl 0 rfl ?_
      refine x_getI hC dX9_add_20 rfl flX9_31 rfl (by decide) rfl rfl ?_
      refine x_iconst hC dX9_add_23 rfl ?_
      refine x_isub hC dX9_add_24 rfl ?_
      refine x_callV1 (kc2 := 0) (ks2 := 0) (k := 9) (As := [iV (wr ((m 9 4) - 1))]) (rest := [iV a2]) hC dX9_add_25 rfl hm (fun _ _ h => T_X9_breathOf b _ m (wr ((m 9 4) - 1)) (rg_wr _) h) mlX9_34 vlX9_breathOf rfl (by decide) rfl rfl (Nat.le_of_ble_eq_true rfl) (by decide) (by decide) rfl rfl hF (fun r3 m4 hr3 hm4 hF => ?_)
      refine x_icmp_ge (tgt := 33) hC dX9_add_28 rfl rfl ha2 hr3 hF (fun hq5 hF => ?_) (fun hq5 hF => ?_)
      · refine x_aload_n hC dX9_add_33 rfl 0 rfl ?_
        refine x_getR (t := 10) hC dX9_add_34 rfl flX9_9 rfl (by decide) rfl rfl ?_
        refine x_aload_n hC dX9_add_37 rfl 0 rfl ?_
        refine x_getI hC dX9_add_38 rfl flX9_31 rfl (by decide) rfl rfl ?_
        refine x_iload_n hC dX9_add_41 rfl 1 rfl ?_
        refine x_iast hC dX9_add_42 rfl rfl (by decide) rfl hm4 (hm4.i 9 4 rfl) ha1 hF (fun m6 hm6 hF => ?_)
        refine x_aload_n hC dX9_add_43 rfl 0 rfl ?_
        refine x_getR (t := 11) hC dX9_add_44 rfl flX9_15 rfl (by decide) rfl rfl ?_
        refine x_aload_n hC dX9_add_47 rfl 0 rfl ?_
        refine x_getI hC dX9_add_48 rfl flX9_31 rfl (by decide) rfl rfl ?_
        refine x_iload_n hC dX9_add_51 rfl 2 rfl ?_
        refine x_iast hC dX9_add_52 rfl rfl (by decide) rfl hm6 (hm6.i 9 4 rfl) ha2 hF (fun m7 hm7 hF => ?_)
        refine x_aload_n hC dX9_add_53 rfl 0 rfl ?_
        refine x_dup hC dX9_add_54 rfl rfl ?_
        refine x_getI hC dX9_add_55 rfl flX9_31 rfl (by decide) rfl rfl ?_
        refine x_iconst hC dX9_add_58 rfl ?_
        refine x_iadd hC dX9_add_59 rfl ?_
        refine x_putI hC dX9_add_60 rfl fpX9_31 rfl (by decide) (by decide) rfl rfl hm7 (rg_wr _) rfl hF (fun m8 hm8 hF => ?_)
        refine x_iconst hC dX9_add_63 rfl ?_
        exact x_zreturn hC dX9_add_64 hm8 (Or.inr rfl) hF
      · refine x_iconst hC dX9_add_31 rfl ?_
        exact x_zreturn hC dX9_add_32 hm4 (Or.inl rfl) hF
set_option maxRecDepth 20000 in
set_option maxHeartbeats 4000000 in
theorem WJ_X9_goOn_95 {g : Gx} {b : Bs} {o : Mm} {Q : Int → Mm → Prop} {k_22 : Int → Int → Int → Int → Mm → Rs} (hC : Cok g b RX9 cX9_goOn 7 2 (some .int)) (hk_22 : ∀ v1 : Int, inR v1 → ∀ v3 : Int, inR v3 → ∀ v4 : Int, inR v4 → ∀ v5 : Int, inR v5 → ∀ m : Mm, Rg m → okR (k_22 v1 v3 v4 v5 m) Q → X g b (true, o) 7 (ZM g b (true, o) 1 Q) 22 [(0, .ref (b.1 + 9)), (1, iV v1), (2, .ref (b.1 + 1)), (3, iV v3), (4, iV v4), (5, iV v5)] [] m 0 0) (v1 : Int) (hv1 : inR v1) (v3 : Int) (hv3 : inR v3) (v4 : Int) (hv4 : inR v4) (v5 : Int) (hv5 : inR v5) (m : Mm) (hm : Rg m) (hF : okR (J_X9_goOn_95 k_22 v1 v3 v4 v5 m) Q) : X g b (true, o) 7 (ZM g b (true, o) 1 Q) 95 [(0, .ref (b.1 + 9)), (1, iV v1), (2, .ref (b.1 + 1)), (3, iV v3), (4, iV v4), (5, iV v5)] [] m 0 0 := by
  unfold J_X9_goOn_95 at hF
  refine x_iinc (p := 5) (lv' := [(0, .ref (b.1 + 9)), (1, iV v1), (2, .ref (b.1 + 1)), (3, iV v3), (4, iV v4)]) hC dX9_goOn_95 rfl rfl (by decide) rfl hF (fun x1 hx1 hF => ?_)
  refine x_goto (tgt := 22) hC dX9_goOn_98 rfl ?_
  refine x_sub [1, 2, 3, 4, 5, 0] rfl ?_
  exact hk_22 v1 hv1 v3 hv3 v4 hv4 x1 hx1 m hm hF
set_option maxRecDepth 20000 in
set_option maxHeartbeats 4000000 in
theorem WL_X9_goOn_22 {g : Gx} {b : Bs} {o : Mm} {Q : Int → Mm → Prop} (hC : Cok g b RX9 cX9_goOn 7 2 (some .int)) : ∀ n : Nat, ∀ v1 : Int, inR v1 → ∀ v3 : Int, inR v3 → ∀ v4 : Int, inR v4 → ∀ v5 : Int, inR v5 → ∀ m : Mm, Rg m → okR (L_X9_goOn_22 n v1 v3 v4 v5 m) Q → X g b (true, o) 7 (ZM g b (true, o) 1 Q) 22 [(0, .ref (b.1 + 9)), (1, iV v1), (2, .ref (b.1 + 1)), (3, iV v3), (4, iV v4), (5, iV v5)] [] m 0 0 := by
  intro n
  induction n with
  | zero => intro v1 hv1 v3 hv3 v4 hv4 v5 hv5 m hm hF; exact absurd hF (fun z => z)
  | succ n ih =>
    intro v1 hv1 v3 hv3 v4 hv4 v5 hv5 m hm hF
    have hF : okR (LB_X9_goOn_22 (L_X9_goOn_22 n) v1 v3 v4 v5 m) Q := hF
    unfold LB_X9_goOn_22 at hF
    refine x_iload hC dX9_goOn_22 rfl 5 rfl ?_
    refine x_iload_n hC dX9_goOn_24 rfl 1 rfl ?_
    refine x_icmp_ge (tgt := 101) hC dX9_goOn_25 rfl rfl hv5 hv1 hF (fun hq1 hF => ?_) (fun hq1 hF => ?_)
    · refine x_aload_n hC dX9_goOn_101 rfl 0 rfl ?_
      refine x_getI hC dX9_goOn_102 rfl flX9_31 rfl (by decide) rfl rfl ?_
      refine x_iload hC dX9_goOn_105 rfl 4 rfl ?_
      refine x_isub hC dX9_goOn_107 rfl ?_
      exact x_ireturn hC dX9_goOn_108 hm (rg_wr _) hF
    · refine x_aload_n hC dX9_goOn_28 rfl 0 rfl ?_
      refine x_sipush hC dX9_goOn_29 rfl rfl ?_
      refine x_aload_n hC dX9_goOn_32 rfl 0 rfl ?_
      refine x_getI hC dX9_goOn_33 rfl flX9_24 rfl (by decide) rfl rfl ?_
      refine x_imul hC dX9_goOn_36 rfl ?_
      refine x_sipush hC dX9_goOn_37 rfl rfl ?_
      refine x_iadd hC dX9_goOn_40 rfl ?_
      refine x_ldc (x := 65535) hC dX9_goOn_41 rfl kwX9_38 ?_
      refine x_iand hC dX9_goOn_43 rfl ?_
      refine x_putI hC dX9_goOn_44 rfl fpX9_24 rfl (by decide) (by decide) rfl rfl hm (rg_tI _) rfl hF (fun m2 hm2 hF => ?_)
      refine x_aload_n hC dX9_goOn_47 rfl 0 rfl ?_
      refine x_getI hC dX9_goOn_48 rfl flX9_24 rfl (by decide) rfl rfl ?_
      refine x_bipush hC dX9_goOn_51 rfl rfl ?_
      refine x_iand hC dX9_goOn_53 rfl ?_
      refine x_istore (lv' := [(0, .ref (b.1 + 9)), (1, iV v1), (2, .ref (b.1 + 1)), (3, iV v3), (4, iV v4), (5, iV v5)]) hC dX9_goOn_54 rfl (by decide) rfl (rg_tI _) hF (fun x3 hx3 hF => ?_)
      refine x_aload_n hC dX9_goOn_56 rfl 3 rfl ?_
      refine x_iload hC dX9_goOn_57 rfl 0 rfl ?_
      refine x_callV3 (kc2 := 0) (ks2 := 0) (k := 1) (As := [iV x3]) (rest := []) hC dX9_goOn_59 rfl hm2 (fun _ _ h => T_X4_has b _ m2 x3 hx3 h) mlX9_39 vlX4_has rfl (by decide) rfl rfl (Nat.le_of_ble_eq_true rfl) (by decide) (by decide) rfl rfl hF (fun r4 m5 hr4 hm5 hF => ?_)
      refine x_if_eq (tgt := 95) hC dX9_goOn_62 rfl rfl (rg_01 hr4) hF (fun hq6 hF => ?_) (fun hq6 hF => ?_)
      · refine x_sub [1, 2, 3, 4, 5, 6] rfl ?_
        exact WJ_X9_goOn_95 hC ih  v1 hv1 v3 hv3 v4 hv4 v5 hv5 m5 hm5 hF
      · refine x_aload_n hC dX9_goOn_65 rfl 1 rfl ?_
        refine x_getI hC dX9_goOn_66 rfl flX9_24 rfl (by decide) rfl rfl ?_
        refine x_iconst hC dX9_goOn_69 rfl ?_
        refine x_ishr hC dX9_goOn_70 rfl ?_
        refine x_sipush hC dX9_goOn_71 rfl rfl ?_
        refine x_irem hC dX9_goOn_74 rfl (rg_tI _) (rgc 1000 rfl) hF (fun hz7 hF => ?_)
        refine x_aload_n hC dX9_goOn_75 rfl 3 rfl ?_
        refine x_iload hC dX9_goOn_76 rfl 0 rfl ?_
        refine x_callV1 (kc2 := 0) (ks2 := 0) (k := 1) (As := [iV x3]) (rest := [iV (wr ((ishr (m5 9 5) 3).tmod 1000))]) hC dX9_goOn_78 rfl hm5 (fun _ _ h => T_X4_thousandthsOf b _ m5 x3 hx3 h) mlX9_45 vlX4_thousandthsOf rfl (by decide) rfl rfl (Nat.le_of_ble_eq_true rfl) (by decide) (by decide) rfl rfl hF (fun r8 m9 hr8 hm9 hF => ?_)
        refine x_icmp_ge (tgt := 95) hC dX9_goOn_81 rfl rfl (rg_wr _) hr8 hF (fun hq10 hF => ?_) (fun hq10 hF => ?_)
        · refine x_sub [1, 2, 3, 4, 5, 6] rfl ?_
          exact WJ_X9_goOn_95 hC ih  v1 hv1 v3 hv3 v4 hv4 v5 hv5 m9 hm9 hF
        · refine x_aload_n hC dX9_goOn_84 rfl 1 rfl ?_
          refine x_iload hC dX9_goOn_85 rfl 0 rfl ?_
          refine x_iload_n hC dX9_goOn_87 rfl 4 rfl ?_
          refine x_iload hC dX9_goOn_88 rfl 6 rfl ?_
          refine x_iadd hC dX9_goOn_90 rfl ?_
          refine x_callV3 (kc2 := 0) (ks2 := 0) (k := 9) (As := [iV x3, iV (wr (v3 + v5))]) (rest := []) hC dX9_goOn_91 rfl hm9 (fun _ _ h => T_X9_add b _ m9 x3 hx3 (wr (v3 + v5)) (rg_wr _) h) mlX9_48 vlX9_add rfl (by decide) rfl rfl (Nat.le_of_ble_eq_true rfl) (by decide) (by decide) rfl rfl hF (fun r11 m12 hr11 hm12 hF => ?_)
          refine x_pop hC dX9_goOn_94 rfl rfl ?_
          refine x_sub [1, 2, 3, 4, 5, 6] rfl ?_
          exact WJ_X9_goOn_95 hC ih  v1 hv1 v3 hv3 v4 hv4 v5 hv5 m12 hm12 hF
set_option maxRecDepth 20000 in
set_option maxHeartbeats 4000000 in
theorem T_X9_goOn (b : Bs) (o : Mm) (m : Mm) (a1 : Int) (ha1 : inR a1) {r : Int} {m' : Mm} (h : F_X9_goOn a1 m = some (r, m')) : Cn yX9_goOn cX9_goOn 7 (some .int) (2) 0 0 1 b (true, o) m [.ref (b.1 + 9), iV a1, .ref (b.1 + 1)] (F_X9_goOn a1 m) := by
  refine Cn_of rfl (Nat.le_of_ble_eq_true rfl) (fun g hC hm => ?_)
  have hF := okR_some h
  generalize hQ : (fun (r : Int) (m' : Mm) => F_X9_goOn a1 m = some (r, m')) = Q at hF ⊢
  clear hQ h
  replace hC : Cok g b RX9 cX9_goOn 7 2 (some .int) := hC
  refine x_lv (lv' := [(0, .ref (b.1 + 9)), (1, iV a1), (2, .ref (b.1 + 1))]) rfl ?_
  unfold F_X9_goOn at hF
  refine x_aload_n hC dX9_goOn_0 rfl 0 rfl ?_
  refine x_aload_n hC dX9_goOn_1 rfl 0 rfl ?_
  refine x_getI hC dX9_goOn_2 rfl flX9_31 rfl (by decide) rfl rfl ?_
  refine x_iconst hC dX9_goOn_5 rfl ?_
  refine x_isub hC dX9_goOn_6 rfl ?_
  refine x_callV1 (kc2 := 0) (ks2 := 0) (k := 9) (As := [iV (wr ((m 9 4) - 1))]) (rest := []) hC dX9_goOn_7 rfl hm (fun _ _ h => T_X9_breathOf b _ m (wr ((m 9 4) - 1)) (rg_wr _) h) mlX9_34 vlX9_breathOf rfl (by decide) rfl rfl (Nat.le_of_ble_eq_true rfl) (by decide) (by decide) rfl rfl hF (fun r1 m2 hr1 hm2 hF => ?_)
  refine x_iconst hC dX9_goOn_10 rfl ?_
  refine x_iadd hC dX9_goOn_11 rfl ?_
  refine x_istore_n (lv' := [(0, .ref (b.1 + 9)), (1, iV a1), (2, .ref (b.1 + 1))]) hC dX9_goOn_12 rfl rfl (by decide) rfl (rg_wr _) hF (fun x3 hx3 hF => ?_)
  refine x_aload_n hC dX9_goOn_13 rfl 1 rfl ?_
  refine x_getI hC dX9_goOn_14 rfl flX9_31 rfl (by decide) rfl rfl ?_
  refine x_istore (lv' := [(3, iV x3), (0, .ref (b.1 + 9)), (1, iV a1), (2, .ref (b.1 + 1))]) hC dX9_goOn_17 rfl (by decide) rfl (hm2.i 9 4 rfl) hF (fun x4 hx4 hF => ?_)
  refine x_iconst hC dX9_goOn_19 rfl ?_
  refine x_istoreZ (lv' := [(4, iV x4), (3, iV x3), (0, .ref (b.1 + 9)), (1, iV a1), (2, .ref (b.1 + 1))]) hC dX9_goOn_20 rfl (by decide) rfl (Or.inl rfl) hF (fun x5 hx5 hF => ?_)
  refine x_sub [3, 4, 5, 2, 1, 0] rfl ?_
  exact WL_X9_goOn_22 hC 100000  a1 ha1 x3 hx3 x4 hx4 x5 (rg_01 hx5) m2 hm2 hF
set_option maxRecDepth 20000 in
set_option maxHeartbeats 4000000 in
theorem T_X9_store (b : Bs) (o : Mm) (m : Mm) {r : Int} {m' : Mm} (h : F_X9_store  m = some (r, m')) : Cn yX9_store cX9_store 1 none (1) 0 0 0 b (true, o) m [.ref (b.1 + 9)] (F_X9_store  m) := by
  refine Cn_of rfl (Nat.le_of_ble_eq_true rfl) (fun g hC hm => ?_)
  have hF := okR_some h
  generalize hQ : (fun (r : Int) (m' : Mm) => F_X9_store  m = some (r, m')) = Q at hF ⊢
  clear hQ h
  replace hC : Cok g b RX9 cX9_store 1 1 none := hC
  refine x_lv (lv' := [(0, .ref (b.1 + 9))]) rfl ?_
  unfold F_X9_store at hF
  refine x_aload_n hC dX9_store_0 rfl 0 rfl ?_
  refine x_getR (t := 10) hC dX9_store_1 rfl flX9_9 rfl (by decide) rfl rfl ?_
  refine x_iconst hC dX9_store_4 rfl ?_
  refine x_aload_n hC dX9_store_5 rfl 0 rfl ?_
  refine x_getR (t := 12) hC dX9_store_6 rfl flX9_18 rfl (by decide) rfl rfl ?_
  refine x_iconst hC dX9_store_9 rfl ?_
  refine x_sipush hC dX9_store_10 rfl rfl ?_
  refine x_copy (L := 150) hC dX9_store_13 rfl kcp_X9_52 rfl rfl (by decide) (by decide) (by decide) rfl rfl (Nat.le_of_ble_eq_true rfl) (by decide) hm hF (fun m1 hm1 hF => ?_)
  refine x_aload_n hC dX9_store_16 rfl 0 rfl ?_
  refine x_getR (t := 11) hC dX9_store_17 rfl flX9_15 rfl (by decide) rfl rfl ?_
  refine x_iconst hC dX9_store_20 rfl ?_
  refine x_aload_n hC dX9_store_21 rfl 0 rfl ?_
  refine x_getR (t := 13) hC dX9_store_22 rfl flX9_21 rfl (by decide) rfl rfl ?_
  refine x_iconst hC dX9_store_25 rfl ?_
  refine x_sipush hC dX9_store_26 rfl rfl ?_
  refine x_copy (L := 150) hC dX9_store_29 rfl kcp_X9_52 rfl rfl (by decide) (by decide) (by decide) rfl rfl (Nat.le_of_ble_eq_true rfl) (by decide) hm1 hF (fun m2 hm2 hF => ?_)
  refine x_aload_n hC dX9_store_32 rfl 0 rfl ?_
  refine x_aload_n hC dX9_store_33 rfl 0 rfl ?_
  refine x_getI hC dX9_store_34 rfl flX9_31 rfl (by decide) rfl rfl ?_
  refine x_putI hC dX9_store_37 rfl fpX9_28 rfl (by decide) (by decide) rfl rfl hm2 (hm2.i 9 4 rfl) rfl hF (fun m3 hm3 hF => ?_)
  refine x_aload_n hC dX9_store_40 rfl 0 rfl ?_
  refine x_aload_n hC dX9_store_41 rfl 0 rfl ?_
  refine x_getI hC dX9_store_42 rfl flX9_24 rfl (by decide) rfl rfl ?_
  refine x_putI hC dX9_store_45 rfl fpX9_58 rfl (by decide) (by decide) rfl rfl hm3 (hm3.i 9 5 rfl) rfl hF (fun m4 hm4 hF => ?_)
  exact x_return hC dX9_store_48 hm4 hF
set_option maxRecDepth 20000 in
set_option maxHeartbeats 4000000 in
theorem T_X9_restore (b : Bs) (o : Mm) (m : Mm) {r : Int} {m' : Mm} (h : F_X9_restore  m = some (r, m')) : Cn yX9_restore cX9_restore 1 (some .boolean) (1) 0 0 3 b (true, o) m [.ref (b.1 + 9)] (F_X9_restore  m) := by
  refine Cn_of rfl (Nat.le_of_ble_eq_true rfl) (fun g hC hm => ?_)
  have hF := okR_some h
  generalize hQ : (fun (r : Int) (m' : Mm) => F_X9_restore  m = some (r, m')) = Q at hF ⊢
  clear hQ h
  replace hC : Cok g b RX9 cX9_restore 1 1 (some .boolean) := hC
  refine x_lv (lv' := [(0, .ref (b.1 + 9))]) rfl ?_
  unfold F_X9_restore at hF
  refine x_aload_n hC dX9_restore_0 rfl 0 rfl ?_
  refine x_getI hC dX9_restore_1 rfl flX9_28 rfl (by decide) rfl rfl ?_
  refine x_iconst hC dX9_restore_4 rfl ?_
  refine x_icmp_ne (tgt := 10) hC dX9_restore_5 rfl rfl (hm.i 9 6 rfl) (rgc (-1) rfl) hF (fun hq1 hF => ?_) (fun hq1 hF => ?_)
  · refine x_aload_n hC dX9_restore_10 rfl 0 rfl ?_
    refine x_getR (t := 12) hC dX9_restore_11 rfl flX9_18 rfl (by decide) rfl rfl ?_
    refine x_iconst hC dX9_restore_14 rfl ?_
    refine x_aload_n hC dX9_restore_15 rfl 0 rfl ?_
    refine x_getR (t := 10) hC dX9_restore_16 rfl flX9_9 rfl (by decide) rfl rfl ?_
    refine x_iconst hC dX9_restore_19 rfl ?_
    refine x_sipush hC dX9_restore_20 rfl rfl ?_
    refine x_copy (L := 150) hC dX9_restore_23 rfl kcp_X9_52 rfl rfl (by decide) (by decide) (by decide) rfl rfl (Nat.le_of_ble_eq_true rfl) (by decide) hm hF (fun m2 hm2 hF => ?_)
    refine x_aload_n hC dX9_restore_26 rfl 0 rfl ?_
    refine x_getR (t := 13) hC dX9_restore_27 rfl flX9_21 rfl (by decide) rfl rfl ?_
    refine x_iconst hC dX9_restore_30 rfl ?_
    refine x_aload_n hC dX9_restore_31 rfl 0 rfl ?_
    refine x_getR (t := 11) hC dX9_restore_32 rfl flX9_15 rfl (by decide) rfl rfl ?_
    refine x_iconst hC dX9_restore_35 rfl ?_
    refine x_sipush hC dX9_restore_36 rfl rfl ?_
    refine x_copy (L := 150) hC dX9_restore_39 rfl kcp_X9_52 rfl rfl (by decide) (by decide) (by decide) rfl rfl (Nat.le_of_ble_eq_true rfl) (by decide) hm2 hF (fun m3 hm3 hF => ?_)
    refine x_aload_n hC dX9_restore_42 rfl 0 rfl ?_
    refine x_aload_n hC dX9_restore_43 rfl 0 rfl ?_
    refine x_getI hC dX9_restore_44 rfl flX9_28 rfl (by decide) rfl rfl ?_
    refine x_putI hC dX9_restore_47 rfl fpX9_31 rfl (by decide) (by decide) rfl rfl hm3 (hm3.i 9 6 rfl) rfl hF (fun m4 hm4 hF => ?_)
    refine x_aload_n hC dX9_restore_50 rfl 0 rfl ?_
    refine x_aload_n hC dX9_restore_51 rfl 0 rfl ?_
    refine x_getI hC dX9_restore_52 rfl flX9_58 rfl (by decide) rfl rfl ?_
    refine x_putI hC dX9_restore_55 rfl fpX9_24 rfl (by decide) (by decide) rfl rfl hm4 (hm4.i 9 7 rfl) rfl hF (fun m5 hm5 hF => ?_)
    refine x_iconst hC dX9_restore_58 rfl ?_
    exact x_zreturn hC dX9_restore_59 hm5 (Or.inr rfl) hF
  · refine x_iconst hC dX9_restore_8 rfl ?_
    exact x_zreturn hC dX9_restore_9 hm (Or.inl rfl) hF
set_option maxRecDepth 20000 in
set_option maxHeartbeats 4000000 in
theorem WL_X10_putNumber_3 {g : Gx} {b : Bs} {o : Mm} {Q : Int → Mm → Prop} (hC : Cok g b RX10 cX10_putNumber 3 0 none) : ∀ n : Nat, ∀ v1 : Int, inR v1 → ∀ v2 : Int, inR v2 → ∀ m : Mm, Rg m → okR (L_X10_putNumber_3 n v1 v2 m) Q → X g b (true, o) 3 (ZM g b (true, o) 0 Q) 3 [(0, .ref (b.1 + 7)), (1, iV v1), (2, iV v2)] [] m 0 0 := by
  intro n
  induction n with
  | zero => intro v1 hv1 v2 hv2 m hm hF; exact absurd hF (fun z => z)
  | succ n ih =>
    intro v1 hv1 v2 hv2 m hm hF
    have hF : okR (LB_X10_putNumber_3 (L_X10_putNumber_3 n) v1 v2 m) Q := hF
    unfold LB_X10_putNumber_3 at hF
    refine x_iload_n hC dX10_putNumber_3 rfl 2 rfl ?_
    refine x_if_lt (tgt := 49) hC dX10_putNumber_4 rfl rfl hv2 hF (fun hq1 hF => ?_) (fun hq1 hF => ?_)
    · exact x_return hC dX10_putNumber_49 hm hF
    · refine x_aload_n hC dX10_putNumber_7 rfl 0 rfl ?_
      refine x_getI hC dX10_putNumber_8 rfl flX10_15 rfl (by decide) rfl rfl ?_
      refine x_sipush hC dX10_putNumber_11 rfl rfl ?_
      refine x_icmp_ge (tgt := 49) hC dX10_putNumber_14 rfl rfl (hm.i 7 1 rfl) (rgc 220 rfl) hF (fun hq2 hF => ?_) (fun hq2 hF => ?_)
      · exact x_return hC dX10_putNumber_49 hm hF
      · refine x_aload_n hC dX10_putNumber_17 rfl 0 rfl ?_
        refine x_getR (t := 8) hC dX10_putNumber_18 rfl flX10_9 rfl (by decide) rfl rfl ?_
        refine x_aload_n hC dX10_putNumber_21 rfl 0 rfl ?_
        refine x_getI hC dX10_putNumber_22 rfl flX10_15 rfl (by decide) rfl rfl ?_
        refine x_iload_n hC dX10_putNumber_25 rfl 1 rfl ?_
        refine x_iload_n hC dX10_putNumber_26 rfl 2 rfl ?_
        refine x_iushr hC dX10_putNumber_27 rfl ?_
        refine x_sipush hC dX10_putNumber_28 rfl rfl ?_
        refine x_iand hC dX10_putNumber_31 rfl ?_
        refine x_iast hC dX10_putNumber_32 rfl rfl (by decide) rfl hm (hm.i 7 1 rfl) (rg_tI _) hF (fun m3 hm3 hF => ?_)
        refine x_aload_n hC dX10_putNumber_33 rfl 0 rfl ?_
        refine x_dup hC dX10_putNumber_34 rfl rfl ?_
        refine x_getI hC dX10_putNumber_35 rfl flX10_15 rfl (by decide) rfl rfl ?_
        refine x_iconst hC dX10_putNumber_38 rfl ?_
        refine x_iadd hC dX10_putNumber_39 rfl ?_
        refine x_putI hC dX10_putNumber_40 rfl fpX10_15 rfl (by decide) (by decide) rfl rfl hm3 (rg_wr _) rfl hF (fun m4 hm4 hF => ?_)
        refine x_iinc (p := 2) (lv' := [(0, .ref (b.1 + 7)), (1, iV v1)]) hC dX10_putNumber_43 rfl rfl (by decide) rfl hF (fun x5 hx5 hF => ?_)
        refine x_goto (tgt := 3) hC dX10_putNumber_46 rfl ?_
        refine x_sub [1, 2, 0] rfl ?_
        exact ih v1 hv1 x5 hx5 m4 hm4 hF
set_option maxRecDepth 20000 in
set_option maxHeartbeats 4000000 in
theorem T_X10_putNumber (b : Bs) (o : Mm) (m : Mm) (a1 : Int) (ha1 : inR a1) {r : Int} {m' : Mm} (h : F_X10_putNumber a1 m = some (r, m')) : Cn yX10_putNumber cX10_putNumber 3 none (0) 0 0 0 b (true, o) m [.ref (b.1 + 7), iV a1] (F_X10_putNumber a1 m) := by
  refine Cn_of rfl (Nat.le_of_ble_eq_true rfl) (fun g hC hm => ?_)
  have hF := okR_some h
  generalize hQ : (fun (r : Int) (m' : Mm) => F_X10_putNumber a1 m = some (r, m')) = Q at hF ⊢
  clear hQ h
  replace hC : Cok g b RX10 cX10_putNumber 3 0 none := hC
  refine x_lv (lv' := [(0, .ref (b.1 + 7)), (1, iV a1)]) rfl ?_
  unfold F_X10_putNumber at hF
  refine x_bipush hC dX10_putNumber_0 rfl rfl ?_
  refine x_istore_n (lv' := [(0, .ref (b.1 + 7)), (1, iV a1)]) hC dX10_putNumber_2 rfl rfl (by decide) rfl (rgc 24 rfl) hF (fun x1 hx1 hF => ?_)
  refine x_sub [1, 2, 0] rfl ?_
  exact WL_X10_putNumber_3 hC 100000  a1 ha1 x1 hx1 m hm hF
set_option maxRecDepth 20000 in
set_option maxHeartbeats 4000000 in
theorem T_X10_put (b : Bs) (o : Mm) (m : Mm) (a1 : Int) (ha1 : inR a1) (a2 : Int) (ha2 : inR a2) (a3 : Int) (ha3 : inR a3) (a4 : Int) (ha4 : inR a4) (a5 : Int) (ha5 : inR a5) {r : Int} {m' : Mm} (h : F_X10_put a1 a2 a3 a4 a5 m = some (r, m')) : Cn yX10_put cX10_put 6 (some .int) (1) 0 0 1 b (true, o) m [.ref (b.1 + 7), iV a1, iV a2, iV a3, iV a4, iV a5] (F_X10_put a1 a2 a3 a4 a5 m) := by
  refine Cn_of rfl (Nat.le_of_ble_eq_true rfl) (fun g hC hm => ?_)
  have hF := okR_some h
  generalize hQ : (fun (r : Int) (m' : Mm) => F_X10_put a1 a2 a3 a4 a5 m = some (r, m')) = Q at hF ⊢
  clear hQ h
  replace hC : Cok g b RX10 cX10_put 6 1 (some .int) := hC
  refine x_lv (lv' := [(0, .ref (b.1 + 7)), (1, iV a1), (2, iV a2), (3, iV a3), (4, iV a4), (5, iV a5)]) rfl ?_
  unfold F_X10_put at hF
  refine x_aload_n hC dX10_put_0 rfl 0 rfl ?_
  refine x_getI hC dX10_put_1 rfl flX10_15 rfl (by decide) rfl rfl ?_
  refine x_bipush hC dX10_put_4 rfl rfl ?_
  refine x_iadd hC dX10_put_6 rfl ?_
  refine x_sipush hC dX10_put_7 rfl rfl ?_
  refine x_icmp_le (tgt := 15) hC dX10_put_10 rfl rfl (rg_wr _) (rgc 220 rfl) hF (fun hq1 hF => ?_) (fun hq1 hF => ?_)
  · refine x_aload_n hC dX10_put_15 rfl 0 rfl ?_
    refine x_iload_n hC dX10_put_16 rfl 1 rfl ?_
    refine x_callV0 (kc2 := 0) (ks2 := 0) (k := 7) (As := [iV a1]) (rest := []) hC dX10_put_17 rfl hm (fun _ _ h => T_X10_putNumber b _ m a1 ha1 h) mlX10_19 vlX10_putNumber rfl (by decide) rfl rfl (Nat.le_of_ble_eq_true rfl) (by decide) (by decide) rfl rfl hF (fun r2 m3 hr2 hm3 hF => ?_)
    refine x_aload_n hC dX10_put_20 rfl 0 rfl ?_
    refine x_iload_n hC dX10_put_21 rfl 2 rfl ?_
    refine x_callV0 (kc2 := 0) (ks2 := 0) (k := 7) (As := [iV a2]) (rest := []) hC dX10_put_22 rfl hm3 (fun _ _ h => T_X10_putNumber b _ m3 a2 ha2 h) mlX10_19 vlX10_putNumber rfl (by decide) rfl rfl (Nat.le_of_ble_eq_true rfl) (by decide) (by decide) rfl rfl hF (fun r4 m5 hr4 hm5 hF => ?_)
    refine x_aload_n hC dX10_put_25 rfl 0 rfl ?_
    refine x_iload_n hC dX10_put_26 rfl 3 rfl ?_
    refine x_callV0 (kc2 := 0) (ks2 := 0) (k := 7) (As := [iV a3]) (rest := []) hC dX10_put_27 rfl hm5 (fun _ _ h => T_X10_putNumber b _ m5 a3 ha3 h) mlX10_19 vlX10_putNumber rfl (by decide) rfl rfl (Nat.le_of_ble_eq_true rfl) (by decide) (by decide) rfl rfl hF (fun r6 m7 hr6 hm7 hF => ?_)
    refine x_aload_n hC dX10_put_30 rfl 0 rfl ?_
    refine x_iload hC dX10_put_31 rfl 4 rfl ?_
    refine x_callV0 (kc2 := 0) (ks2 := 0) (k := 7) (As := [iV a4]) (rest := []) hC dX10_put_33 rfl hm7 (fun _ _ h => T_X10_putNumber b _ m7 a4 ha4 h) mlX10_19 vlX10_putNumber rfl (by decide) rfl rfl (Nat.le_of_ble_eq_true rfl) (by decide) (by decide) rfl rfl hF (fun r8 m9 hr8 hm9 hF => ?_)
    refine x_aload_n hC dX10_put_36 rfl 0 rfl ?_
    refine x_iload hC dX10_put_37 rfl 5 rfl ?_
    refine x_callV0 (kc2 := 0) (ks2 := 0) (k := 7) (As := [iV a5]) (rest := []) hC dX10_put_39 rfl hm9 (fun _ _ h => T_X10_putNumber b _ m9 a5 ha5 h) mlX10_19 vlX10_putNumber rfl (by decide) rfl rfl (Nat.le_of_ble_eq_true rfl) (by decide) (by decide) rfl rfl hF (fun r10 m11 hr10 hm11 hF => ?_)
    refine x_aload_n hC dX10_put_42 rfl 0 rfl ?_
    refine x_getI hC dX10_put_43 rfl flX10_15 rfl (by decide) rfl rfl ?_
    exact x_ireturn hC dX10_put_46 hm11 (hm11.i 7 1 rfl) hF
  · refine x_iconst hC dX10_put_13 rfl ?_
    exact x_ireturn hC dX10_put_14 hm (rgc (-1) rfl) hF
set_option maxRecDepth 20000 in
set_option maxHeartbeats 4000000 in
theorem T_X10_has (b : Bs) (o : Mm) (m : Mm) (a1 : Int) (ha1 : inR a1) {r : Int} {m' : Mm} (h : F_X10_has a1 m = some (r, m')) : Cn yX10_has cX10_has 2 (some .boolean) (0) 0 0 3 b (true, o) m [.ref (b.1 + 7), iV a1] (F_X10_has a1 m) := by
  refine Cn_of rfl (Nat.le_of_ble_eq_true rfl) (fun g hC hm => ?_)
  have hF := okR_some h
  generalize hQ : (fun (r : Int) (m' : Mm) => F_X10_has a1 m = some (r, m')) = Q at hF ⊢
  clear hQ h
  replace hC : Cok g b RX10 cX10_has 2 0 (some .boolean) := hC
  refine x_lv (lv' := [(0, .ref (b.1 + 7)), (1, iV a1)]) rfl ?_
  unfold F_X10_has at hF
  refine x_iload_n hC dX10_has_0 rfl 1 rfl ?_
  refine x_aload_n hC dX10_has_1 rfl 0 rfl ?_
  refine x_getI hC dX10_has_2 rfl flX10_15 rfl (by decide) rfl rfl ?_
  refine x_icmp_gt (tgt := 12) hC dX10_has_5 rfl rfl ha1 (hm.i 7 1 rfl) hF (fun hq1 hF => ?_) (fun hq1 hF => ?_)
  · refine x_iconst hC dX10_has_12 rfl ?_
    exact x_zreturn hC dX10_has_13 hm (Or.inl rfl) hF
  · refine x_iconst hC dX10_has_8 rfl ?_
    refine x_goto (tgt := 13) hC dX10_has_9 rfl ?_
    exact x_zreturn hC dX10_has_13 hm (Or.inr rfl) hF
set_option maxRecDepth 20000 in
set_option maxHeartbeats 4000000 in
theorem T_X10_numberAt (b : Bs) (o : Mm) (m : Mm) (a1 : Int) (ha1 : inR a1) {r : Int} {m' : Mm} (h : F_X10_numberAt a1 m = some (r, m')) : Cn yX10_numberAt cX10_numberAt 3 (some .int) (1) 0 0 1 b (true, o) m [.ref (b.1 + 7), iV a1] (F_X10_numberAt a1 m) := by
  refine Cn_of rfl (Nat.le_of_ble_eq_true rfl) (fun g hC hm => ?_)
  have hF := okR_some h
  generalize hQ : (fun (r : Int) (m' : Mm) => F_X10_numberAt a1 m = some (r, m')) = Q at hF ⊢
  clear hQ h
  replace hC : Cok g b RX10 cX10_numberAt 3 1 (some .int) := hC
  refine x_lv (lv' := [(0, .ref (b.1 + 7)), (1, iV a1)]) rfl ?_
  unfold F_X10_numberAt at hF
  refine x_iconst hC dX10_numberAt_0 rfl ?_
  refine x_iload_n hC dX10_numberAt_1 rfl 1 rfl ?_
  refine x_imul hC dX10_numberAt_2 rfl ?_
  refine x_istore_n (lv' := [(0, .ref (b.1 + 7)), (1, iV a1)]) hC dX10_numberAt_3 rfl rfl (by decide) rfl (rg_wr _) hF (fun x1 hx1 hF => ?_)
  refine x_aload_n hC dX10_numberAt_4 rfl 1 rfl ?_
  refine x_iload_n hC dX10_numberAt_5 rfl 0 rfl ?_
  refine x_callV1 (kc2 := 0) (ks2 := 0) (k := 7) (As := [iV x1]) (rest := []) hC dX10_numberAt_6 rfl hm (fun _ _ h => T_X10_byteAt b _ m x1 hx1 h) mlX10_23 vlX10_byteAt rfl (by decide) rfl rfl (Nat.le_of_ble_eq_true rfl) (by decide) (by decide) rfl rfl hF (fun r2 m3 hr2 hm3 hF => ?_)
  refine x_bipush hC dX10_numberAt_9 rfl rfl ?_
  refine x_ishl hC dX10_numberAt_11 rfl ?_
  refine x_aload_n hC dX10_numberAt_12 rfl 1 rfl ?_
  refine x_iload_n hC dX10_numberAt_13 rfl 0 rfl ?_
  refine x_iconst hC dX10_numberAt_14 rfl ?_
  refine x_iadd hC dX10_numberAt_15 rfl ?_
  refine x_callV1 (kc2 := 0) (ks2 := 0) (k := 7) (As := [iV (wr (x1 + 1))]) (rest := [iV (ishl r2 24)]) hC dX10_numberAt_16 rfl hm3 (fun _ _ h => T_X10_byteAt b _ m3 (wr (x1 + 1)) (rg_wr _) h) mlX10_23 vlX10_byteAt rfl (by decide) rfl rfl (Nat.le_of_ble_eq_true rfl) (by decide) (by decide) rfl rfl hF (fun r4 m5 hr4 hm5 hF => ?_)
  refine x_bipush hC dX10_numberAt_19 rfl rfl ?_
  refine x_ishl hC dX10_numberAt_21 rfl ?_
  refine x_ior hC dX10_numberAt_22 rfl ?_
  refine x_aload_n hC dX10_numberAt_23 rfl 1 rfl ?_
  refine x_iload_n hC dX10_numberAt_24 rfl 0 rfl ?_
  refine x_iconst hC dX10_numberAt_25 rfl ?_
  refine x_iadd hC dX10_numberAt_26 rfl ?_
  refine x_callV1 (kc2 := 0) (ks2 := 0) (k := 7) (As := [iV (wr (x1 + 2))]) (rest := [iV (ior (ishl r2 24) (ishl r4 16))]) hC dX10_numberAt_27 rfl hm5 (fun _ _ h => T_X10_byteAt b _ m5 (wr (x1 + 2)) (rg_wr _) h) mlX10_23 vlX10_byteAt rfl (by decide) rfl rfl (Nat.le_of_ble_eq_true rfl) (by decide) (by decide) rfl rfl hF (fun r6 m7 hr6 hm7 hF => ?_)
  refine x_bipush hC dX10_numberAt_30 rfl rfl ?_
  refine x_ishl hC dX10_numberAt_32 rfl ?_
  refine x_ior hC dX10_numberAt_33 rfl ?_
  refine x_aload_n hC dX10_numberAt_34 rfl 1 rfl ?_
  refine x_iload_n hC dX10_numberAt_35 rfl 0 rfl ?_
  refine x_iconst hC dX10_numberAt_36 rfl ?_
  refine x_iadd hC dX10_numberAt_37 rfl ?_
  refine x_callV1 (kc2 := 0) (ks2 := 0) (k := 7) (As := [iV (wr (x1 + 3))]) (rest := [iV (ior (ior (ishl r2 24) (ishl r4 16)) (ishl r6 8))]) hC dX10_numberAt_38 rfl hm7 (fun _ _ h => T_X10_byteAt b _ m7 (wr (x1 + 3)) (rg_wr _) h) mlX10_23 vlX10_byteAt rfl (by decide) rfl rfl (Nat.le_of_ble_eq_true rfl) (by decide) (by decide) rfl rfl hF (fun r8 m9 hr8 hm9 hF => ?_)
  refine x_ior hC dX10_numberAt_41 rfl ?_
  exact x_ireturn hC dX10_numberAt_42 hm9 (rg_tI _) hF
set_option maxRecDepth 20000 in
set_option maxHeartbeats 4000000 in
theorem T_X10_empty (b : Bs) (o : Mm) (m : Mm) {r : Int} {m' : Mm} (h : F_X10_empty  m = some (r, m')) : Cn yX10_empty cX10_empty 1 none (0) 0 0 0 b (true, o) m [.ref (b.1 + 7)] (F_X10_empty  m) := by
  refine Cn_of rfl (Nat.le_of_ble_eq_true rfl) (fun g hC hm => ?_)
  have hF := okR_some h
  generalize hQ : (fun (r : Int) (m' : Mm) => F_X10_empty  m = some (r, m')) = Q at hF ⊢
  clear hQ h
  replace hC : Cok g b RX10 cX10_empty 1 0 none := hC
  refine x_lv (lv' := [(0, .ref (b.1 + 7))]) rfl ?_
  unfold F_X10_empty at hF
  refine x_aload_n hC dX10_empty_0 rfl 0 rfl ?_
  refine x_iconst hC dX10_empty_1 rfl ?_
  refine x_putI hC dX10_empty_2 rfl fpX10_15 rfl (by decide) (by decide) rfl rfl hm (rgc 0 rfl) rfl hF (fun m1 hm1 hF => ?_)
  exact x_return hC dX10_empty_5 hm1 hF
set_option maxRecDepth 20000 in
set_option maxHeartbeats 4000000 in
theorem WJ_X11_mouth_29 {g : Gx} {b : Bs} {o : Mm} {Q : Int → Mm → Prop} (hC : Cok g b RX11 cX11_mouth 5 1 (some .int)) (v1 : Int) (hv1 : inR v1) (v2 : Int) (hv2 : inR v2) (v3 : Int) (hv3 : inR v3) (v4 : Int) (hv4 : (v4 = 0 ∨ v4 = 1)) (m : Mm) (hm : Rg m) (hF : okR (J_X11_mouth_29 v1 v2 v3 v4 m) Q) : X g b (true, o) 5 (ZM g b (true, o) 1 Q) 29 [(0, .ref (b.1 + 0)), (1, iV v1), (2, iV v2), (3, iV v3), (4, iV v4)] [] m 0 0 := by
  unfold J_X11_mouth_29 at hF
  refine x_iload hC dX11_mouth_29 rfl 4 rfl ?_
  refine x_if_eq (tgt := 45) hC dX11_mouth_31 rfl rfl (rg_01 hv4) hF (fun hq1 hF => ?_) (fun hq1 hF => ?_)
  · refine x_iconst hC dX11_mouth_45 rfl ?_
    exact x_ireturn hC dX11_mouth_46 hm (rgc (-1) rfl) hF
  · refine x_iload_n hC dX11_mouth_34 rfl 3 rfl ?_
    refine x_iconst hC dX11_mouth_35 rfl ?_
    refine x_sipush hC dX11_mouth_36 rfl rfl ?_
    refine x_callS3 (kc2 := 0) (ks2 := 0) (As := [iV v3, iV 0, iV 1000]) (rest := []) hC dX11_mouth_39 rfl hm (fun _ _ h => T_X11_within b _ m v3 hv3 0 (rgc 0 rfl) 1000 (rgc 1000 rfl) h) mlX11_84 vsX11_within rfl rfl (Nat.le_of_ble_eq_true rfl) (by decide) (by decide) rfl rfl hF (fun r2 m3 hr2 hm3 hF => ?_)
    refine x_if_ne (tgt := 47) hC dX11_mouth_42 rfl rfl (rg_01 hr2) hF (fun hq4 hF => ?_) (fun hq4 hF => ?_)
    · refine x_aload_n hC dX11_mouth_47 rfl 0 rfl ?_
      refine x_getR (t := 1) hC dX11_mouth_48 rfl flX11_10 rfl (by decide) rfl rfl ?_
      refine x_iload_n hC dX11_mouth_51 rfl 1 rfl ?_
      refine x_iload_n hC dX11_mouth_52 rfl 2 rfl ?_
      refine x_iload_n hC dX11_mouth_53 rfl 3 rfl ?_
      refine x_callV1 (kc2 := 0) (ks2 := 0) (k := 1) (As := [iV v1, iV v2, iV v3]) (rest := []) hC dX11_mouth_54 rfl hm3 (fun _ _ h => T_X4_join b _ m3 v1 hv1 v2 hv2 v3 hv3 h) mlX11_88 vlX4_join rfl (by decide) rfl rfl (Nat.le_of_ble_eq_true rfl) (by decide) (by decide) rfl rfl hF (fun r5 m6 hr5 hm6 hF => ?_)
      exact x_ireturn hC dX11_mouth_57 hm6 hr5 hF
    · refine x_iconst hC dX11_mouth_45 rfl ?_
      exact x_ireturn hC dX11_mouth_46 hm3 (rgc (-1) rfl) hF
set_option maxRecDepth 20000 in
set_option maxHeartbeats 4000000 in
theorem WJ_X11_mouth_26 {g : Gx} {b : Bs} {o : Mm} {Q : Int → Mm → Prop} (hC : Cok g b RX11 cX11_mouth 5 1 (some .int)) (v1 : Int) (hv1 : inR v1) (v2 : Int) (hv2 : inR v2) (v3 : Int) (hv3 : inR v3) (m : Mm) (hm : Rg m) (hF : okR (J_X11_mouth_26 v1 v2 v3 m) Q) : X g b (true, o) 5 (ZM g b (true, o) 1 Q) 26 [(0, .ref (b.1 + 0)), (1, iV v1), (2, iV v2), (3, iV v3)] [] m 0 0 := by
  unfold J_X11_mouth_26 at hF
  refine x_iconst hC dX11_mouth_26 rfl ?_
  refine x_istoreZ (lv' := [(0, .ref (b.1 + 0)), (1, iV v1), (2, iV v2), (3, iV v3)]) hC dX11_mouth_27 rfl (by decide) rfl (Or.inl rfl) hF (fun x1 hx1 hF => ?_)
  refine x_sub [1, 2, 3, 4, 0] rfl ?_
  exact WJ_X11_mouth_29 hC  v1 hv1 v2 hv2 v3 hv3 x1 hx1 m hm hF
set_option maxRecDepth 20000 in
set_option maxHeartbeats 4000000 in
theorem T_X11_mouth (b : Bs) (o : Mm) (m : Mm) (a1 : Int) (ha1 : inR a1) (a2 : Int) (ha2 : inR a2) (a3 : Int) (ha3 : inR a3) {r : Int} {m' : Mm} (h : F_X11_mouth a1 a2 a3 m = some (r, m')) : Cn yX11_mouth cX11_mouth 5 (some .int) (1) 0 0 1 b (true, o) m [.ref (b.1 + 0), iV a1, iV a2, iV a3] (F_X11_mouth a1 a2 a3 m) := by
  refine Cn_of rfl (Nat.le_of_ble_eq_true rfl) (fun g hC hm => ?_)
  have hF := okR_some h
  generalize hQ : (fun (r : Int) (m' : Mm) => F_X11_mouth a1 a2 a3 m = some (r, m')) = Q at hF ⊢
  clear hQ h
  replace hC : Cok g b RX11 cX11_mouth 5 1 (some .int) := hC
  refine x_lv (lv' := [(0, .ref (b.1 + 0)), (1, iV a1), (2, iV a2), (3, iV a3)]) rfl ?_
  unfold F_X11_mouth at hF
  refine x_iload_n hC dX11_mouth_0 rfl 1 rfl ?_
  refine x_bipush hC dX11_mouth_1 rfl rfl ?_
  refine x_bipush hC dX11_mouth_3 rfl rfl ?_
  refine x_callS3 (kc2 := 0) (ks2 := 0) (As := [iV a1, iV (-50), iV 50]) (rest := []) hC dX11_mouth_5 rfl hm (fun _ _ h => T_X11_within b _ m a1 ha1 (-50) (rgc (-50) rfl) 50 (rgc 50 rfl) h) mlX11_84 vsX11_within rfl rfl (Nat.le_of_ble_eq_true rfl) (by decide) (by decide) rfl rfl hF (fun r1 m2 hr1 hm2 hF => ?_)
  refine x_if_eq (tgt := 26) hC dX11_mouth_8 rfl rfl (rg_01 hr1) hF (fun hq3 hF => ?_) (fun hq3 hF => ?_)
  · exact WJ_X11_mouth_26 hC  a1 ha1 a2 ha2 a3 ha3 m2 hm2 hF
  · refine x_iload_n hC dX11_mouth_11 rfl 2 rfl ?_
    refine x_bipush hC dX11_mouth_12 rfl rfl ?_
    refine x_bipush hC dX11_mouth_14 rfl rfl ?_
    refine x_callS3 (kc2 := 0) (ks2 := 0) (As := [iV a2, iV (-50), iV 50]) (rest := []) hC dX11_mouth_16 rfl hm2 (fun _ _ h => T_X11_within b _ m2 a2 ha2 (-50) (rgc (-50) rfl) 50 (rgc 50 rfl) h) mlX11_84 vsX11_within rfl rfl (Nat.le_of_ble_eq_true rfl) (by decide) (by decide) rfl rfl hF (fun r4 m5 hr4 hm5 hF => ?_)
    refine x_if_eq (tgt := 26) hC dX11_mouth_19 rfl rfl (rg_01 hr4) hF (fun hq6 hF => ?_) (fun hq6 hF => ?_)
    · exact WJ_X11_mouth_26 hC  a1 ha1 a2 ha2 a3 ha3 m5 hm5 hF
    · refine x_iconst hC dX11_mouth_22 rfl ?_
      refine x_goto (tgt := 27) hC dX11_mouth_23 rfl ?_
      refine x_istoreZ (lv' := [(0, .ref (b.1 + 0)), (1, iV a1), (2, iV a2), (3, iV a3)]) hC dX11_mouth_27 rfl (by decide) rfl (Or.inr rfl) hF (fun x7 hx7 hF => ?_)
      refine x_sub [1, 2, 3, 4, 0] rfl ?_
      exact WJ_X11_mouth_29 hC  a1 ha1 a2 ha2 a3 ha3 x7 hx7 m5 hm5 hF
set_option maxRecDepth 20000 in
set_option maxHeartbeats 4000000 in
theorem T_X11_air (b : Bs) (o : Mm) (m : Mm) (a1 : Int) (ha1 : inR a1) (a2 : Int) (ha2 : inR a2) {r : Int} {m' : Mm} (h : F_X11_air a1 a2 m = some (r, m')) : Cn yX11_air cX11_air 3 (some .boolean) (1) 0 0 3 b (true, o) m [.ref (b.1 + 0), iV a1, iV a2] (F_X11_air a1 a2 m) := by
  refine Cn_of rfl (Nat.le_of_ble_eq_true rfl) (fun g hC hm => ?_)
  have hF := okR_some h
  generalize hQ : (fun (r : Int) (m' : Mm) => F_X11_air a1 a2 m = some (r, m')) = Q at hF ⊢
  clear hQ h
  replace hC : Cok g b RX11 cX11_air 3 1 (some .boolean) := hC
  refine x_lv (lv' := [(0, .ref (b.1 + 0)), (1, iV a1), (2, iV a2)]) rfl ?_
  unfold F_X11_air at hF
  refine x_iload_n hC dX11_air_0 rfl 1 rfl ?_
  refine x_iconst hC dX11_air_1 rfl ?_
  refine x_sipush hC dX11_air_2 rfl rfl ?_
  refine x_callS3 (kc2 := 0) (ks2 := 0) (As := [iV a1, iV 0, iV 200]) (rest := []) hC dX11_air_5 rfl hm (fun _ _ h => T_X11_within b _ m a1 ha1 0 (rgc 0 rfl) 200 (rgc 200 rfl) h) mlX11_84 vsX11_within rfl rfl (Nat.le_of_ble_eq_true rfl) (by decide) (by decide) rfl rfl hF (fun r1 m2 hr1 hm2 hF => ?_)
  refine x_if_eq (tgt := 21) hC dX11_air_8 rfl rfl (rg_01 hr1) hF (fun hq3 hF => ?_) (fun hq3 hF => ?_)
  · refine x_iconst hC dX11_air_21 rfl ?_
    exact x_zreturn hC dX11_air_22 hm2 (Or.inl rfl) hF
  · refine x_iload_n hC dX11_air_11 rfl 2 rfl ?_
    refine x_iconst hC dX11_air_12 rfl ?_
    refine x_bipush hC dX11_air_13 rfl rfl ?_
    refine x_callS3 (kc2 := 0) (ks2 := 0) (As := [iV a2, iV 1, iV 100]) (rest := []) hC dX11_air_15 rfl hm2 (fun _ _ h => T_X11_within b _ m2 a2 ha2 1 (rgc 1 rfl) 100 (rgc 100 rfl) h) mlX11_84 vsX11_within rfl rfl (Nat.le_of_ble_eq_true rfl) (by decide) (by decide) rfl rfl hF (fun r4 m5 hr4 hm5 hF => ?_)
    refine x_if_ne (tgt := 23) hC dX11_air_18 rfl rfl (rg_01 hr4) hF (fun hq6 hF => ?_) (fun hq6 hF => ?_)
    · refine x_aload_n hC dX11_air_23 rfl 0 rfl ?_
      refine x_getR (t := 1) hC dX11_air_24 rfl flX11_10 rfl (by decide) rfl rfl ?_
      refine x_iload_n hC dX11_air_27 rfl 1 rfl ?_
      refine x_putI hC dX11_air_28 rfl fpX11_92 rfl (by decide) (by decide) rfl rfl hm5 ha1 rfl hF (fun m7 hm7 hF => ?_)
      refine x_aload_n hC dX11_air_31 rfl 0 rfl ?_
      refine x_getR (t := 1) hC dX11_air_32 rfl flX11_10 rfl (by decide) rfl rfl ?_
      refine x_iload_n hC dX11_air_35 rfl 2 rfl ?_
      refine x_putI hC dX11_air_36 rfl fpX11_96 rfl (by decide) (by decide) rfl rfl hm7 ha2 rfl hF (fun m8 hm8 hF => ?_)
      refine x_aload_n hC dX11_air_39 rfl 0 rfl ?_
      refine x_getR (t := 14) hC dX11_air_40 rfl flX11_35 rfl (by decide) rfl rfl ?_
      refine x_callV0 (kc2 := 0) (ks2 := 0) (k := 14) (As := []) (rest := []) hC dX11_air_43 rfl hm8 (fun _ _ h => T_X3_forget b _ m8  h) mlX11_99 vlX3_forget rfl (by decide) rfl rfl (Nat.le_of_ble_eq_true rfl) (by decide) (by decide) rfl rfl hF (fun r9 m10 hr9 hm10 hF => ?_)
      refine x_iconst hC dX11_air_46 rfl ?_
      exact x_zreturn hC dX11_air_47 hm10 (Or.inr rfl) hF
    · refine x_iconst hC dX11_air_21 rfl ?_
      exact x_zreturn hC dX11_air_22 hm5 (Or.inl rfl) hF
set_option maxRecDepth 20000 in
set_option maxHeartbeats 4000000 in
theorem T_X11_feed (b : Bs) (o : Mm) (m : Mm) (a1 : Int) (ha1 : inR a1) (a2 : Int) (ha2 : inR a2) (a3 : Int) (ha3 : inR a3) (a4 : Int) (ha4 : inR a4) (a5 : Int) (ha5 : inR a5) {r : Int} {m' : Mm} (h : F_X11_feed a1 a2 a3 a4 a5 m = some (r, m')) : Cn yX11_feed cX11_feed 6 (some .int) (2) 0 0 1 b (true, o) m [.ref (b.1 + 0), iV a1, iV a2, iV a3, iV a4, iV a5] (F_X11_feed a1 a2 a3 a4 a5 m) := by
  refine Cn_of rfl (Nat.le_of_ble_eq_true rfl) (fun g hC hm => ?_)
  have hF := okR_some h
  generalize hQ : (fun (r : Int) (m' : Mm) => F_X11_feed a1 a2 a3 a4 a5 m = some (r, m')) = Q at hF ⊢
  clear hQ h
  replace hC : Cok g b RX11 cX11_feed 6 2 (some .int) := hC
  refine x_lv (lv' := [(0, .ref (b.1 + 0)), (1, iV a1), (2, iV a2), (3, iV a3), (4, iV a4), (5, iV a5)]) rfl ?_
  unfold F_X11_feed at hF
  refine x_aload_n hC dX11_feed_0 rfl 0 rfl ?_
  refine x_getR (t := 7) hC dX11_feed_1 rfl flX11_19 rfl (by decide) rfl rfl ?_
  refine x_iload_n hC dX11_feed_4 rfl 1 rfl ?_
  refine x_iload_n hC dX11_feed_5 rfl 2 rfl ?_
  refine x_iload_n hC dX11_feed_6 rfl 3 rfl ?_
  refine x_iload hC dX11_feed_7 rfl 4 rfl ?_
  refine x_iload hC dX11_feed_9 rfl 5 rfl ?_
  refine x_callV1 (kc2 := 0) (ks2 := 0) (k := 7) (As := [iV a1, iV a2, iV a3, iV a4, iV a5]) (rest := []) hC dX11_feed_11 rfl hm (fun _ _ h => T_X10_put b _ m a1 ha1 a2 ha2 a3 ha3 a4 ha4 a5 ha5 h) mlX11_102 vlX10_put rfl (by decide) rfl rfl (Nat.le_of_ble_eq_true rfl) (by decide) (by decide) rfl rfl hF (fun r1 m2 hr1 hm2 hF => ?_)
  exact x_ireturn hC dX11_feed_14 hm2 hr1 hF
set_option maxRecDepth 20000 in
set_option maxHeartbeats 4000000 in
theorem T_X11_tongue (b : Bs) (o : Mm) (m : Mm) (a1 : Int) (ha1 : inR a1) {r : Int} {m' : Mm} (h : F_X11_tongue a1 m = some (r, m')) : Cn yX11_tongue cX11_tongue 3 (some .int) (130) 0 0 1 b (true, o) m [.ref (b.1 + 0), iV a1] (F_X11_tongue a1 m) := by
  refine Cn_of rfl (Nat.le_of_ble_eq_true rfl) (fun g hC hm => ?_)
  have hF := okR_some h
  generalize hQ : (fun (r : Int) (m' : Mm) => F_X11_tongue a1 m = some (r, m')) = Q at hF ⊢
  clear hQ h
  replace hC : Cok g b RX11 cX11_tongue 3 130 (some .int) := hC
  refine x_lv (lv' := [(0, .ref (b.1 + 0)), (1, iV a1)]) rfl ?_
  unfold F_X11_tongue at hF
  refine x_iload_n hC dX11_tongue_0 rfl 1 rfl ?_
  refine x_iconst hC dX11_tongue_1 rfl ?_
  refine x_sipush hC dX11_tongue_2 rfl rfl ?_
  refine x_callS3 (kc2 := 0) (ks2 := 0) (As := [iV a1, iV 1, iV 200]) (rest := []) hC dX11_tongue_5 rfl hm (fun _ _ h => T_X11_within b _ m a1 ha1 1 (rgc 1 rfl) 200 (rgc 200 rfl) h) mlX11_84 vsX11_within rfl rfl (Nat.le_of_ble_eq_true rfl) (by decide) (by decide) rfl rfl hF (fun r1 m2 hr1 hm2 hF => ?_)
  refine x_if_eq (tgt := 22) hC dX11_tongue_8 rfl rfl (rg_01 hr1) hF (fun hq3 hF => ?_) (fun hq3 hF => ?_)
  · refine x_iconst hC dX11_tongue_22 rfl ?_
    exact x_ireturn hC dX11_tongue_23 hm2 (rgc (-1) rfl) hF
  · refine x_aload_n hC dX11_tongue_11 rfl 0 rfl ?_
    refine x_getR (t := 7) hC dX11_tongue_12 rfl flX11_19 rfl (by decide) rfl rfl ?_
    refine x_iload_n hC dX11_tongue_15 rfl 1 rfl ?_
    refine x_callV3 (kc2 := 0) (ks2 := 0) (k := 7) (As := [iV a1]) (rest := []) hC dX11_tongue_16 rfl hm2 (fun _ _ h => T_X10_has b _ m2 a1 ha1 h) mlX11_106 vlX10_has rfl (by decide) rfl rfl (Nat.le_of_ble_eq_true rfl) (by decide) (by decide) rfl rfl hF (fun r4 m5 hr4 hm5 hF => ?_)
    refine x_if_ne (tgt := 24) hC dX11_tongue_19 rfl rfl (rg_01 hr4) hF (fun hq6 hF => ?_) (fun hq6 hF => ?_)
    · refine x_aload_n hC dX11_tongue_24 rfl 0 rfl ?_
      refine x_getR (t := 32) hC dX11_tongue_25 rfl flX11_57 rfl (by decide) rfl rfl ?_
      refine x_aload_n hC dX11_tongue_28 rfl 0 rfl ?_
      refine x_getR (t := 7) hC dX11_tongue_29 rfl flX11_19 rfl (by decide) rfl rfl ?_
      refine x_iload_n hC dX11_tongue_32 rfl 1 rfl ?_
      refine x_aload_n hC dX11_tongue_33 rfl 0 rfl ?_
      refine x_getR (t := 17) hC dX11_tongue_34 rfl flX11_44 rfl (by decide) rfl rfl ?_
      refine x_getD hC dX11_tongue_37 rfl flX11_50 rfl (by decide) rfl rfl ?_
      refine x_grd hF (fun hg7 hF => ?_)
      refine x_callV1 (kc2 := 0) (ks2 := 0) (k := 32) (As := [.ref (b.1 + 7), iV a1, .ref (b.1 + (m5 17 4).toNat)]) (rest := []) hC dX11_tongue_40 rfl hm5 (fun _ _ h => T_X2_translate b _ m5 a1 ha1 (m5 17 4).toNat (isCd_k hg7) h) mlX11_110 vlX2_translate rfl (by decide) rfl rfl (Nat.le_of_ble_eq_true rfl) (by decide) (by decide) rfl rfl hF (fun r8 m9 hr8 hm9 hF => ?_)
      refine x_istore_n (lv' := [(0, .ref (b.1 + 0)), (1, iV a1)]) hC dX11_tongue_43 rfl rfl (by decide) rfl hr8 hF (fun x10 hx10 hF => ?_)
      refine x_aload_n hC dX11_tongue_44 rfl 1 rfl ?_
      refine x_getR (t := 7) hC dX11_tongue_45 rfl flX11_19 rfl (by decide) rfl rfl ?_
      refine x_callV0 (kc2 := 0) (ks2 := 0) (k := 7) (As := []) (rest := []) hC dX11_tongue_48 rfl hm9 (fun _ _ h => T_X10_empty b _ m9  h) mlX11_114 vlX10_empty rfl (by decide) rfl rfl (Nat.le_of_ble_eq_true rfl) (by decide) (by decide) rfl rfl hF (fun r11 m12 hr11 hm12 hF => ?_)
      refine x_iload_n hC dX11_tongue_51 rfl 0 rfl ?_
      refine x_if_le (tgt := 69) hC dX11_tongue_52 rfl rfl hx10 hF (fun hq13 hF => ?_) (fun hq13 hF => ?_)
      · refine x_iload_n hC dX11_tongue_69 rfl 0 rfl ?_
        exact x_ireturn hC dX11_tongue_70 hm12 hx10 hF
      · refine x_aload_n hC dX11_tongue_55 rfl 1 rfl ?_
        refine x_getR (t := 17) hC dX11_tongue_56 rfl flX11_44 rfl (by decide) rfl rfl ?_
        refine x_callV0 (kc2 := 0) (ks2 := 0) (k := 17) (As := []) (rest := []) hC dX11_tongue_59 rfl hm12 (fun _ _ h => T_X7_takeSpare b _ m12  h) mlX11_117 vlX7_takeSpare rfl (by decide) rfl rfl (Nat.le_of_ble_eq_true rfl) (by decide) (by decide) rfl rfl hF (fun r14 m15 hr14 hm15 hF => ?_)
        refine x_aload_n hC dX11_tongue_62 rfl 1 rfl ?_
        refine x_getR (t := 43) hC dX11_tongue_63 rfl flX11_73 rfl (by decide) rfl rfl ?_
        refine x_callV0 (kc2 := 0) (ks2 := 0) (k := 43) (As := []) (rest := []) hC dX11_tongue_66 rfl hm15 (fun _ _ h => T_X1_forget b _ m15  h) mlX11_120 vlX1_forget rfl (by decide) rfl rfl (Nat.le_of_ble_eq_true rfl) (by decide) (by decide) rfl rfl hF (fun r16 m17 hr16 hm17 hF => ?_)
        refine x_iload_n hC dX11_tongue_69 rfl 0 rfl ?_
        exact x_ireturn hC dX11_tongue_70 hm17 hx10 hF
    · refine x_iconst hC dX11_tongue_22 rfl ?_
      exact x_ireturn hC dX11_tongue_23 hm5 (rgc (-1) rfl) hF
set_option maxRecDepth 20000 in
set_option maxHeartbeats 4000000 in
theorem T_X11_sentence (b : Bs) (o : Mm) (m : Mm) (a1 : Int) (ha1 : inR a1) (a2 : Int) (ha2 : inR a2) {r : Int} {m' : Mm} (h : F_X11_sentence a1 a2 m = some (r, m')) : Cn yX11_sentence cX11_sentence 4 (some .int) (2) 0 0 1 b (true, o) m [.ref (b.1 + 0), iV a1, iV a2] (F_X11_sentence a1 a2 m) := by
  refine Cn_of rfl (Nat.le_of_ble_eq_true rfl) (fun g hC hm => ?_)
  have hF := okR_some h
  generalize hQ : (fun (r : Int) (m' : Mm) => F_X11_sentence a1 a2 m = some (r, m')) = Q at hF ⊢
  clear hQ h
  replace hC : Cok g b RX11 cX11_sentence 4 2 (some .int) := hC
  refine x_lv (lv' := [(0, .ref (b.1 + 0)), (1, iV a1), (2, iV a2)]) rfl ?_
  unfold F_X11_sentence at hF
  refine x_aload_n hC dX11_sentence_0 rfl 0 rfl ?_
  refine x_getR (t := 1) hC dX11_sentence_1 rfl flX11_10 rfl (by decide) rfl rfl ?_
  refine x_iload_n hC dX11_sentence_4 rfl 1 rfl ?_
  refine x_callV3 (kc2 := 0) (ks2 := 0) (k := 1) (As := [iV a1]) (rest := []) hC dX11_sentence_5 rfl hm (fun _ _ h => T_X4_has b _ m a1 ha1 h) mlX11_121 vlX4_has rfl (by decide) rfl rfl (Nat.le_of_ble_eq_true rfl) (by decide) (by decide) rfl rfl hF (fun r1 m2 hr1 hm2 hF => ?_)
  refine x_if_eq (tgt := 31) hC dX11_sentence_8 rfl rfl (rg_01 hr1) hF (fun hq3 hF => ?_) (fun hq3 hF => ?_)
  · refine x_iconst hC dX11_sentence_31 rfl ?_
    exact x_ireturn hC dX11_sentence_32 hm2 (rgc (-1) rfl) hF
  · refine x_iload_n hC dX11_sentence_11 rfl 2 rfl ?_
    refine x_iconst hC dX11_sentence_12 rfl ?_
    refine x_iconst hC dX11_sentence_13 rfl ?_
    refine x_callS3 (kc2 := 0) (ks2 := 0) (As := [iV a2, iV 0, iV 4]) (rest := []) hC dX11_sentence_14 rfl hm2 (fun _ _ h => T_X11_within b _ m2 a2 ha2 0 (rgc 0 rfl) 4 (rgc 4 rfl) h) mlX11_84 vsX11_within rfl rfl (Nat.le_of_ble_eq_true rfl) (by decide) (by decide) rfl rfl hF (fun r4 m5 hr4 hm5 hF => ?_)
    refine x_if_eq (tgt := 31) hC dX11_sentence_17 rfl rfl (rg_01 hr4) hF (fun hq6 hF => ?_) (fun hq6 hF => ?_)
    · refine x_iconst hC dX11_sentence_31 rfl ?_
      exact x_ireturn hC dX11_sentence_32 hm5 (rgc (-1) rfl) hF
    · refine x_aload_n hC dX11_sentence_20 rfl 0 rfl ?_
      refine x_getR (t := 7) hC dX11_sentence_21 rfl flX11_19 rfl (by decide) rfl rfl ?_
      refine x_iload_n hC dX11_sentence_24 rfl 2 rfl ?_
      refine x_callV3 (kc2 := 0) (ks2 := 0) (k := 7) (As := [iV a2]) (rest := []) hC dX11_sentence_25 rfl hm5 (fun _ _ h => T_X10_has b _ m5 a2 ha2 h) mlX11_106 vlX10_has rfl (by decide) rfl rfl (Nat.le_of_ble_eq_true rfl) (by decide) (by decide) rfl rfl hF (fun r7 m8 hr7 hm8 hF => ?_)
      refine x_if_ne (tgt := 33) hC dX11_sentence_28 rfl rfl (rg_01 hr7) hF (fun hq9 hF => ?_) (fun hq9 hF => ?_)
      · refine x_aload_n hC dX11_sentence_33 rfl 0 rfl ?_
        refine x_getR (t := 1) hC dX11_sentence_34 rfl flX11_10 rfl (by decide) rfl rfl ?_
        refine x_iload_n hC dX11_sentence_37 rfl 1 rfl ?_
        refine x_aload_n hC dX11_sentence_38 rfl 0 rfl ?_
        refine x_getR (t := 7) hC dX11_sentence_39 rfl flX11_19 rfl (by decide) rfl rfl ?_
        refine x_iload_n hC dX11_sentence_42 rfl 2 rfl ?_
        refine x_callV3 (kc2 := 0) (ks2 := 0) (k := 1) (As := [iV a1, .ref (b.1 + 7), iV a2]) (rest := []) hC dX11_sentence_43 rfl hm8 (fun _ _ h => T_X4_takeSentence b _ m8 a1 ha1 a2 ha2 h) mlX11_122 vlX4_takeSentence rfl (by decide) rfl rfl (Nat.le_of_ble_eq_true rfl) (by decide) (by decide) rfl rfl hF (fun r10 m11 hr10 hm11 hF => ?_)
        refine x_istore_nZ (lv' := [(0, .ref (b.1 + 0)), (1, iV a1), (2, iV a2)]) hC dX11_sentence_46 rfl rfl (by decide) rfl hr10 hF (fun x12 hx12 hF => ?_)
        refine x_aload_n hC dX11_sentence_47 rfl 1 rfl ?_
        refine x_getR (t := 7) hC dX11_sentence_48 rfl flX11_19 rfl (by decide) rfl rfl ?_
        refine x_callV0 (kc2 := 0) (ks2 := 0) (k := 7) (As := []) (rest := []) hC dX11_sentence_51 rfl hm11 (fun _ _ h => T_X10_empty b _ m11  h) mlX11_114 vlX10_empty rfl (by decide) rfl rfl (Nat.le_of_ble_eq_true rfl) (by decide) (by decide) rfl rfl hF (fun r13 m14 hr13 hm14 hF => ?_)
        refine x_iload_n hC dX11_sentence_54 rfl 0 rfl ?_
        refine x_if_ne (tgt := 61) hC dX11_sentence_55 rfl rfl (rg_01 hx12) hF (fun hq15 hF => ?_) (fun hq15 hF => ?_)
        · refine x_aload_n hC dX11_sentence_61 rfl 1 rfl ?_
          refine x_getR (t := 43) hC dX11_sentence_62 rfl flX11_73 rfl (by decide) rfl rfl ?_
          refine x_callV0 (kc2 := 0) (ks2 := 0) (k := 43) (As := []) (rest := []) hC dX11_sentence_65 rfl hm14 (fun _ _ h => T_X1_forget b _ m14  h) mlX11_120 vlX1_forget rfl (by decide) rfl rfl (Nat.le_of_ble_eq_true rfl) (by decide) (by decide) rfl rfl hF (fun r16 m17 hr16 hm17 hF => ?_)
          refine x_iload_n hC dX11_sentence_68 rfl 3 rfl ?_
          exact x_ireturn hC dX11_sentence_69 hm17 ha2 hF
        · refine x_bipush hC dX11_sentence_58 rfl rfl ?_
          exact x_ireturn hC dX11_sentence_60 hm14 (rgc (-2) rfl) hF
      · refine x_iconst hC dX11_sentence_31 rfl ?_
        exact x_ireturn hC dX11_sentence_32 hm8 (rgc (-1) rfl) hF
set_option maxRecDepth 20000 in
set_option maxHeartbeats 4000000 in
theorem T_X11_say (b : Bs) (o : Mm) (m : Mm) (a1 : Int) (ha1 : inR a1) (a2 : Int) (ha2 : inR a2) {r : Int} {m' : Mm} (h : F_X11_say a1 a2 m = some (r, m')) : Cn yX11_say cX11_say 3 (some .int) (2) 0 0 1 b (true, o) m [.ref (b.1 + 0), iV a1, iV a2] (F_X11_say a1 a2 m) := by
  refine Cn_of rfl (Nat.le_of_ble_eq_true rfl) (fun g hC hm => ?_)
  have hF := okR_some h
  generalize hQ : (fun (r : Int) (m' : Mm) => F_X11_say a1 a2 m = some (r, m')) = Q at hF ⊢
  clear hQ h
  replace hC : Cok g b RX11 cX11_say 3 2 (some .int) := hC
  refine x_lv (lv' := [(0, .ref (b.1 + 0)), (1, iV a1), (2, iV a2)]) rfl ?_
  unfold F_X11_say at hF
  refine x_aload_n hC dX11_say_0 rfl 0 rfl ?_
  refine x_getR (t := 1) hC dX11_say_1 rfl flX11_10 rfl (by decide) rfl rfl ?_
  refine x_iload_n hC dX11_say_4 rfl 1 rfl ?_
  refine x_callV3 (kc2 := 0) (ks2 := 0) (k := 1) (As := [iV a1]) (rest := []) hC dX11_say_5 rfl hm (fun _ _ h => T_X4_has b _ m a1 ha1 h) mlX11_121 vlX4_has rfl (by decide) rfl rfl (Nat.le_of_ble_eq_true rfl) (by decide) (by decide) rfl rfl hF (fun r1 m2 hr1 hm2 hF => ?_)
  refine x_if_eq (tgt := 34) hC dX11_say_8 rfl rfl (rg_01 hr1) hF (fun hq3 hF => ?_) (fun hq3 hF => ?_)
  · refine x_iconst hC dX11_say_34 rfl ?_
    exact x_ireturn hC dX11_say_35 hm2 (rgc (-1) rfl) hF
  · refine x_iload_n hC dX11_say_11 rfl 2 rfl ?_
    refine x_iconst hC dX11_say_12 rfl ?_
    refine x_sipush hC dX11_say_13 rfl rfl ?_
    refine x_callS3 (kc2 := 0) (ks2 := 0) (As := [iV a2, iV 0, iV 9999]) (rest := []) hC dX11_say_16 rfl hm2 (fun _ _ h => T_X11_within b _ m2 a2 ha2 0 (rgc 0 rfl) 9999 (rgc 9999 rfl) h) mlX11_84 vsX11_within rfl rfl (Nat.le_of_ble_eq_true rfl) (by decide) (by decide) rfl rfl hF (fun r4 m5 hr4 hm5 hF => ?_)
    refine x_if_eq (tgt := 34) hC dX11_say_19 rfl rfl (rg_01 hr4) hF (fun hq6 hF => ?_) (fun hq6 hF => ?_)
    · refine x_iconst hC dX11_say_34 rfl ?_
      exact x_ireturn hC dX11_say_35 hm5 (rgc (-1) rfl) hF
    · refine x_aload_n hC dX11_say_22 rfl 0 rfl ?_
      refine x_getR (t := 9) hC dX11_say_23 rfl flX11_26 rfl (by decide) rfl rfl ?_
      refine x_iload_n hC dX11_say_26 rfl 1 rfl ?_
      refine x_iload_n hC dX11_say_27 rfl 2 rfl ?_
      refine x_callV3 (kc2 := 0) (ks2 := 0) (k := 9) (As := [iV a1, iV a2]) (rest := []) hC dX11_say_28 rfl hm5 (fun _ _ h => T_X9_add b _ m5 a1 ha1 a2 ha2 h) mlX11_126 vlX9_add rfl (by decide) rfl rfl (Nat.le_of_ble_eq_true rfl) (by decide) (by decide) rfl rfl hF (fun r7 m8 hr7 hm8 hF => ?_)
      refine x_if_ne (tgt := 36) hC dX11_say_31 rfl rfl (rg_01 hr7) hF (fun hq9 hF => ?_) (fun hq9 hF => ?_)
      · refine x_aload_n hC dX11_say_36 rfl 0 rfl ?_
        refine x_getR (t := 14) hC dX11_say_37 rfl flX11_35 rfl (by decide) rfl rfl ?_
        refine x_callV0 (kc2 := 0) (ks2 := 0) (k := 14) (As := []) (rest := []) hC dX11_say_40 rfl hm8 (fun _ _ h => T_X3_forget b _ m8  h) mlX11_99 vlX3_forget rfl (by decide) rfl rfl (Nat.le_of_ble_eq_true rfl) (by decide) (by decide) rfl rfl hF (fun r10 m11 hr10 hm11 hF => ?_)
        refine x_aload_n hC dX11_say_43 rfl 0 rfl ?_
        refine x_getR (t := 9) hC dX11_say_44 rfl flX11_26 rfl (by decide) rfl rfl ?_
        refine x_getI hC dX11_say_47 rfl flX11_130 rfl (by decide) rfl rfl ?_
        exact x_ireturn hC dX11_say_50 hm11 (hm11.i 9 4 rfl) hF
      · refine x_iconst hC dX11_say_34 rfl ?_
        exact x_ireturn hC dX11_say_35 hm8 (rgc (-1) rfl) hF
set_option maxRecDepth 20000 in
set_option maxHeartbeats 4000000 in
theorem T_X11_heard (b : Bs) (o : Mm) (m : Mm) (a1 : Int) (ha1 : inR a1) {r : Int} {m' : Mm} (h : F_X11_heard a1 m = some (r, m')) : Cn yX11_heard cX11_heard 2 (some .int) (5) 0 0 1 b (true, o) m [.ref (b.1 + 0), iV a1] (F_X11_heard a1 m) := by
  refine Cn_of rfl (Nat.le_of_ble_eq_true rfl) (fun g hC hm => ?_)
  have hF := okR_some h
  generalize hQ : (fun (r : Int) (m' : Mm) => F_X11_heard a1 m = some (r, m')) = Q at hF ⊢
  clear hQ h
  replace hC : Cok g b RX11 cX11_heard 2 5 (some .int) := hC
  refine x_lv (lv' := [(0, .ref (b.1 + 0)), (1, iV a1)]) rfl ?_
  unfold F_X11_heard at hF
  refine x_aload_n hC dX11_heard_0 rfl 0 rfl ?_
  refine x_getR (t := 1) hC dX11_heard_1 rfl flX11_10 rfl (by decide) rfl rfl ?_
  refine x_iload_n hC dX11_heard_4 rfl 1 rfl ?_
  refine x_callV3 (kc2 := 0) (ks2 := 0) (k := 1) (As := [iV a1]) (rest := []) hC dX11_heard_5 rfl hm (fun _ _ h => T_X4_has b _ m a1 ha1 h) mlX11_121 vlX4_has rfl (by decide) rfl rfl (Nat.le_of_ble_eq_true rfl) (by decide) (by decide) rfl rfl hF (fun r1 m2 hr1 hm2 hF => ?_)
  refine x_if_ne (tgt := 13) hC dX11_heard_8 rfl rfl (rg_01 hr1) hF (fun hq3 hF => ?_) (fun hq3 hF => ?_)
  · refine x_aload_n hC dX11_heard_13 rfl 0 rfl ?_
    refine x_getR (t := 14) hC dX11_heard_14 rfl flX11_35 rfl (by decide) rfl rfl ?_
    refine x_iload_n hC dX11_heard_17 rfl 1 rfl ?_
    refine x_callV0 (kc2 := 0) (ks2 := 0) (k := 14) (As := [iV a1]) (rest := []) hC dX11_heard_18 rfl hm2 (fun _ _ h => T_X3_listen b _ m2 a1 ha1 h) mlX11_133 vlX3_listen rfl (by decide) rfl rfl (Nat.le_of_ble_eq_true rfl) (by decide) (by decide) rfl rfl hF (fun r4 m5 hr4 hm5 hF => ?_)
    refine x_aload_n hC dX11_heard_21 rfl 0 rfl ?_
    refine x_getR (t := 14) hC dX11_heard_22 rfl flX11_35 rfl (by decide) rfl rfl ?_
    refine x_getI hC dX11_heard_25 rfl flX11_137 rfl (by decide) rfl rfl ?_
    exact x_ireturn hC dX11_heard_28 hm5 (hm5.i 14 4 rfl) hF
  · refine x_iconst hC dX11_heard_11 rfl ?_
    exact x_ireturn hC dX11_heard_12 hm2 (rgc (-1) rfl) hF
set_option maxRecDepth 20000 in
set_option maxHeartbeats 4000000 in
theorem T_X11_meaningOf (b : Bs) (o : Mm) (m : Mm) (a1 : Int) (ha1 : inR a1) (a2 : Int) (ha2 : inR a2) {r : Int} {m' : Mm} (h : F_X11_meaningOf a1 a2 m = some (r, m')) : Cn yX11_meaningOf cX11_meaningOf 3 (some .int) (4) 0 0 1 b (true, o) m [.ref (b.1 + 0), iV a1, iV a2] (F_X11_meaningOf a1 a2 m) := by
  refine Cn_of rfl (Nat.le_of_ble_eq_true rfl) (fun g hC hm => ?_)
  have hF := okR_some h
  generalize hQ : (fun (r : Int) (m' : Mm) => F_X11_meaningOf a1 a2 m = some (r, m')) = Q at hF ⊢
  clear hQ h
  replace hC : Cok g b RX11 cX11_meaningOf 3 4 (some .int) := hC
  refine x_lv (lv' := [(0, .ref (b.1 + 0)), (1, iV a1), (2, iV a2)]) rfl ?_
  unfold F_X11_meaningOf at hF
  refine x_aload_n hC dX11_meaningOf_0 rfl 0 rfl ?_
  refine x_getR (t := 17) hC dX11_meaningOf_1 rfl flX11_44 rfl (by decide) rfl rfl ?_
  refine x_iload_n hC dX11_meaningOf_4 rfl 1 rfl ?_
  refine x_aload_n hC dX11_meaningOf_5 rfl 0 rfl ?_
  refine x_getR (t := 14) hC dX11_meaningOf_6 rfl flX11_35 rfl (by decide) rfl rfl ?_
  refine x_iload_n hC dX11_meaningOf_9 rfl 2 rfl ?_
  refine x_callV1 (kc2 := 0) (ks2 := 0) (k := 14) (As := [iV a2]) (rest := [iV a1, .ref (b.1 + 17)]) hC dX11_meaningOf_10 rfl hm (fun _ _ h => T_X3_gapOf b _ m a2 ha2 h) mlX11_145 vlX3_gapOf rfl (by decide) rfl rfl (Nat.le_of_ble_eq_true rfl) (by decide) (by decide) rfl rfl hF (fun r1 m2 hr1 hm2 hF => ?_)
  refine x_aload_n hC dX11_meaningOf_13 rfl 0 rfl ?_
  refine x_getR (t := 14) hC dX11_meaningOf_14 rfl flX11_35 rfl (by decide) rfl rfl ?_
  refine x_iload_n hC dX11_meaningOf_17 rfl 2 rfl ?_
  refine x_callV1 (kc2 := 0) (ks2 := 0) (k := 14) (As := [iV a2]) (rest := [iV r1, iV a1, .ref (b.1 + 17)]) hC dX11_meaningOf_18 rfl hm2 (fun _ _ h => T_X3_whoOf b _ m2 a2 ha2 h) mlX11_142 vlX3_whoOf rfl (by decide) rfl rfl (Nat.le_of_ble_eq_true rfl) (by decide) (by decide) rfl rfl hF (fun r3 m4 hr3 hm4 hF => ?_)
  refine x_aload_n hC dX11_meaningOf_21 rfl 0 rfl ?_
  refine x_getR (t := 14) hC dX11_meaningOf_22 rfl flX11_35 rfl (by decide) rfl rfl ?_
  refine x_iload_n hC dX11_meaningOf_25 rfl 2 rfl ?_
  refine x_iconst hC dX11_meaningOf_26 rfl ?_
  refine x_isub hC dX11_meaningOf_27 rfl ?_
  refine x_callV1 (kc2 := 0) (ks2 := 0) (k := 14) (As := [iV (wr (a2 - 1))]) (rest := [iV r3, iV r1, iV a1, .ref (b.1 + 17)]) hC dX11_meaningOf_28 rfl hm4 (fun _ _ h => T_X3_whoOf b _ m4 (wr (a2 - 1)) (rg_wr _) h) mlX11_142 vlX3_whoOf rfl (by decide) rfl rfl (Nat.le_of_ble_eq_true rfl) (by decide) (by decide) rfl rfl hF (fun r5 m6 hr5 hm6 hF => ?_)
  refine x_aload_n hC dX11_meaningOf_31 rfl 0 rfl ?_
  refine x_getR (t := 14) hC dX11_meaningOf_32 rfl flX11_35 rfl (by decide) rfl rfl ?_
  refine x_iload_n hC dX11_meaningOf_35 rfl 2 rfl ?_
  refine x_iconst hC dX11_meaningOf_36 rfl ?_
  refine x_isub hC dX11_meaningOf_37 rfl ?_
  refine x_callV1 (kc2 := 0) (ks2 := 0) (k := 14) (As := [iV (wr (a2 - 1))]) (rest := [iV r5, iV r3, iV r1, iV a1, .ref (b.1 + 17)]) hC dX11_meaningOf_38 rfl hm6 (fun _ _ h => T_X3_gapOf b _ m6 (wr (a2 - 1)) (rg_wr _) h) mlX11_145 vlX3_gapOf rfl (by decide) rfl rfl (Nat.le_of_ble_eq_true rfl) (by decide) (by decide) rfl rfl hF (fun r7 m8 hr7 hm8 hF => ?_)
  refine x_callV1 (kc2 := 0) (ks2 := 0) (k := 17) (As := [iV a1, iV r1, iV r3, iV r5, iV r7]) (rest := []) hC dX11_meaningOf_41 rfl hm8 (fun _ _ h => T_X7_byEar b _ m8 a1 ha1 r1 hr1 r3 hr3 r5 hr5 r7 hr7 h) mlX11_155 vlX7_byEar rfl (by decide) rfl rfl (Nat.le_of_ble_eq_true rfl) (by decide) (by decide) rfl rfl hF (fun r9 m10 hr9 hm10 hF => ?_)
  exact x_ireturn hC dX11_meaningOf_44 hm10 hr9 hF
set_option maxRecDepth 20000 in
set_option maxHeartbeats 4000000 in
theorem T_X11_hearing (b : Bs) (o : Mm) (m : Mm) (a1 : Int) (ha1 : inR a1) (a2 : Int) (ha2 : inR a2) (a3 : Int) (ha3 : inR a3) {r : Int} {m' : Mm} (h : F_X11_hearing a1 a2 a3 m = some (r, m')) : Cn yX11_hearing cX11_hearing 4 (some .int) (5) 0 0 1 b (true, o) m [.ref (b.1 + 0), iV a1, iV a2, iV a3] (F_X11_hearing a1 a2 a3 m) := by
  refine Cn_of rfl (Nat.le_of_ble_eq_true rfl) (fun g hC hm => ?_)
  have hF := okR_some h
  generalize hQ : (fun (r : Int) (m' : Mm) => F_X11_hearing a1 a2 a3 m = some (r, m')) = Q at hF ⊢
  clear hQ h
  replace hC : Cok g b RX11 cX11_hearing 4 5 (some .int) := hC
  refine x_lv (lv' := [(0, .ref (b.1 + 0)), (1, iV a1), (2, iV a2), (3, iV a3)]) rfl ?_
  unfold F_X11_hearing at hF
  refine x_aload_n hC dX11_hearing_0 rfl 0 rfl ?_
  refine x_getR (t := 1) hC dX11_hearing_1 rfl flX11_10 rfl (by decide) rfl rfl ?_
  refine x_iload_n hC dX11_hearing_4 rfl 1 rfl ?_
  refine x_callV3 (kc2 := 0) (ks2 := 0) (k := 1) (As := [iV a1]) (rest := []) hC dX11_hearing_5 rfl hm (fun _ _ h => T_X4_has b _ m a1 ha1 h) mlX11_121 vlX4_has rfl (by decide) rfl rfl (Nat.le_of_ble_eq_true rfl) (by decide) (by decide) rfl rfl hF (fun r1 m2 hr1 hm2 hF => ?_)
  refine x_if_ne (tgt := 13) hC dX11_hearing_8 rfl rfl (rg_01 hr1) hF (fun hq3 hF => ?_) (fun hq3 hF => ?_)
  · refine x_aload_n hC dX11_hearing_13 rfl 0 rfl ?_
    refine x_getR (t := 14) hC dX11_hearing_14 rfl flX11_35 rfl (by decide) rfl rfl ?_
    refine x_iload_n hC dX11_hearing_17 rfl 1 rfl ?_
    refine x_callV0 (kc2 := 0) (ks2 := 0) (k := 14) (As := [iV a1]) (rest := []) hC dX11_hearing_18 rfl hm2 (fun _ _ h => T_X3_listen b _ m2 a1 ha1 h) mlX11_133 vlX3_listen rfl (by decide) rfl rfl (Nat.le_of_ble_eq_true rfl) (by decide) (by decide) rfl rfl hF (fun r4 m5 hr4 hm5 hF => ?_)
    refine x_iload_n hC dX11_hearing_21 rfl 2 rfl ?_
    refine x_iconst hC dX11_hearing_22 rfl ?_
    refine x_aload_n hC dX11_hearing_23 rfl 0 rfl ?_
    refine x_getR (t := 14) hC dX11_hearing_24 rfl flX11_35 rfl (by decide) rfl rfl ?_
    refine x_getI hC dX11_hearing_27 rfl flX11_137 rfl (by decide) rfl rfl ?_
    refine x_iconst hC dX11_hearing_30 rfl ?_
    refine x_isub hC dX11_hearing_31 rfl ?_
    refine x_callS3 (kc2 := 0) (ks2 := 0) (As := [iV a2, iV 0, iV (wr ((m5 14 4) - 1))]) (rest := []) hC dX11_hearing_32 rfl hm5 (fun _ _ h => T_X11_within b _ m5 a2 ha2 0 (rgc 0 rfl) (wr ((m5 14 4) - 1)) (rg_wr _) h) mlX11_84 vsX11_within rfl rfl (Nat.le_of_ble_eq_true rfl) (by decide) (by decide) rfl rfl hF (fun r6 m7 hr6 hm7 hF => ?_)
    refine x_if_ne (tgt := 40) hC dX11_hearing_35 rfl rfl (rg_01 hr6) hF (fun hq8 hF => ?_) (fun hq8 hF => ?_)
    · refine x_iload_n hC dX11_hearing_40 rfl 3 rfl ?_
      refine x_tab1 (v := 0) (off := 31) (tgt := 72) hC dX11_hearing_41 (by decide) rfl ha3 hF (fun hq9 hF => ?_) (fun hq9 hF => ?_)
      · refine x_aload_n hC dX11_hearing_72 rfl 0 rfl ?_
        refine x_getR (t := 14) hC dX11_hearing_73 rfl flX11_35 rfl (by decide) rfl rfl ?_
        refine x_iload_n hC dX11_hearing_76 rfl 2 rfl ?_
        refine x_callV1 (kc2 := 0) (ks2 := 0) (k := 14) (As := [iV a2]) (rest := []) hC dX11_hearing_77 rfl hm7 (fun _ _ h => T_X3_breathOf b _ m7 a2 ha2 h) mlX11_138 vlX3_breathOf rfl (by decide) rfl rfl (Nat.le_of_ble_eq_true rfl) (by decide) (by decide) rfl rfl hF (fun r10 m11 hr10 hm11 hF => ?_)
        exact x_ireturn hC dX11_hearing_80 hm11 hr10 hF
      refine x_tab1 (v := 1) (off := 40) (tgt := 81) hC dX11_hearing_41 (by decide) rfl ha3 hF (fun hq12 hF => ?_) (fun hq12 hF => ?_)
      · refine x_aload_n hC dX11_hearing_81 rfl 0 rfl ?_
        refine x_getR (t := 14) hC dX11_hearing_82 rfl flX11_35 rfl (by decide) rfl rfl ?_
        refine x_iload_n hC dX11_hearing_85 rfl 2 rfl ?_
        refine x_callV1 (kc2 := 0) (ks2 := 0) (k := 14) (As := [iV a2]) (rest := []) hC dX11_hearing_86 rfl hm7 (fun _ _ h => T_X3_whoOf b _ m7 a2 ha2 h) mlX11_142 vlX3_whoOf rfl (by decide) rfl rfl (Nat.le_of_ble_eq_true rfl) (by decide) (by decide) rfl rfl hF (fun r13 m14 hr13 hm14 hF => ?_)
        exact x_ireturn hC dX11_hearing_89 hm14 hr13 hF
      refine x_tab1 (v := 2) (off := 49) (tgt := 90) hC dX11_hearing_41 (by decide) rfl ha3 hF (fun hq15 hF => ?_) (fun hq15 hF => ?_)
      · refine x_aload_n hC dX11_hearing_90 rfl 0 rfl ?_
        refine x_getR (t := 14) hC dX11_hearing_91 rfl flX11_35 rfl (by decide) rfl rfl ?_
        refine x_iload_n hC dX11_hearing_94 rfl 2 rfl ?_
        refine x_callV1 (kc2 := 0) (ks2 := 0) (k := 14) (As := [iV a2]) (rest := []) hC dX11_hearing_95 rfl hm7 (fun _ _ h => T_X3_gapOf b _ m7 a2 ha2 h) mlX11_145 vlX3_gapOf rfl (by decide) rfl rfl (Nat.le_of_ble_eq_true rfl) (by decide) (by decide) rfl rfl hF (fun r16 m17 hr16 hm17 hF => ?_)
        exact x_ireturn hC dX11_hearing_98 hm17 hr16 hF
      refine x_tab1 (v := 3) (off := 58) (tgt := 99) hC dX11_hearing_41 (by decide) rfl ha3 hF (fun hq18 hF => ?_) (fun hq18 hF => ?_)
      · refine x_aload_n hC dX11_hearing_99 rfl 0 rfl ?_
        refine x_iload_n hC dX11_hearing_100 rfl 1 rfl ?_
        refine x_iload_n hC dX11_hearing_101 rfl 2 rfl ?_
        refine x_callV1 (kc2 := 0) (ks2 := 0) (k := 0) (As := [iV a1, iV a2]) (rest := []) hC dX11_hearing_102 rfl hm7 (fun _ _ h => T_X11_meaningOf b _ m7 a1 ha1 a2 ha2 h) mlX11_148 vlX11_meaningOf rfl (by decide) rfl rfl (Nat.le_of_ble_eq_true rfl) (by decide) (by decide) rfl rfl hF (fun r19 m20 hr19 hm20 hF => ?_)
        exact x_ireturn hC dX11_hearing_105 hm20 hr19 hF
      refine x_tabD (tgt := 106) [0, 1, 2, 3] hC dX11_hearing_41 rfl ha3 rfl (List.forall_mem_cons.mpr ⟨hq9, (List.forall_mem_cons.mpr ⟨hq12, (List.forall_mem_cons.mpr ⟨hq15, (List.forall_mem_cons.mpr ⟨hq18, (fun _ h => absurd h List.not_mem_nil)⟩)⟩)⟩)⟩) ?_
      refine x_iconst hC dX11_hearing_106 rfl ?_
      exact x_ireturn hC dX11_hearing_107 hm7 (rgc (-1) rfl) hF
    · refine x_iconst hC dX11_hearing_38 rfl ?_
      exact x_ireturn hC dX11_hearing_39 hm7 (rgc (-1) rfl) hF
  · refine x_iconst hC dX11_hearing_11 rfl ?_
    exact x_ireturn hC dX11_hearing_12 hm2 (rgc (-1) rfl) hF
set_option maxRecDepth 20000 in
set_option maxHeartbeats 4000000 in
theorem T_X11_way (b : Bs) (o : Mm) (m : Mm) (a1 : Int) (ha1 : inR a1) (a2 : Int) (ha2 : inR a2) {r : Int} {m' : Mm} (h : F_X11_way a1 a2 m = some (r, m')) : Cn yX11_way cX11_way 3 (some .int) (2) 0 0 1 b (true, o) m [.ref (b.1 + 0), iV a1, iV a2] (F_X11_way a1 a2 m) := by
  refine Cn_of rfl (Nat.le_of_ble_eq_true rfl) (fun g hC hm => ?_)
  have hF := okR_some h
  generalize hQ : (fun (r : Int) (m' : Mm) => F_X11_way a1 a2 m = some (r, m')) = Q at hF ⊢
  clear hQ h
  replace hC : Cok g b RX11 cX11_way 3 2 (some .int) := hC
  refine x_lv (lv' := [(0, .ref (b.1 + 0)), (1, iV a1), (2, iV a2)]) rfl ?_
  unfold F_X11_way at hF
  refine x_aload_n hC dX11_way_0 rfl 0 rfl ?_
  refine x_getR (t := 1) hC dX11_way_1 rfl flX11_10 rfl (by decide) rfl rfl ?_
  refine x_iload_n hC dX11_way_4 rfl 1 rfl ?_
  refine x_callV3 (kc2 := 0) (ks2 := 0) (k := 1) (As := [iV a1]) (rest := []) hC dX11_way_5 rfl hm (fun _ _ h => T_X4_has b _ m a1 ha1 h) mlX11_121 vlX4_has rfl (by decide) rfl rfl (Nat.le_of_ble_eq_true rfl) (by decide) (by decide) rfl rfl hF (fun r1 m2 hr1 hm2 hF => ?_)
  refine x_if_eq (tgt := 22) hC dX11_way_8 rfl rfl (rg_01 hr1) hF (fun hq3 hF => ?_) (fun hq3 hF => ?_)
  · refine x_iconst hC dX11_way_22 rfl ?_
    exact x_ireturn hC dX11_way_23 hm2 (rgc (-1) rfl) hF
  · refine x_aload_n hC dX11_way_11 rfl 0 rfl ?_
    refine x_getR (t := 1) hC dX11_way_12 rfl flX11_10 rfl (by decide) rfl rfl ?_
    refine x_iload_n hC dX11_way_15 rfl 2 rfl ?_
    refine x_callV3 (kc2 := 0) (ks2 := 0) (k := 1) (As := [iV a2]) (rest := []) hC dX11_way_16 rfl hm2 (fun _ _ h => T_X4_has b _ m2 a2 ha2 h) mlX11_121 vlX4_has rfl (by decide) rfl rfl (Nat.le_of_ble_eq_true rfl) (by decide) (by decide) rfl rfl hF (fun r4 m5 hr4 hm5 hF => ?_)
    refine x_if_ne (tgt := 24) hC dX11_way_19 rfl rfl (rg_01 hr4) hF (fun hq6 hF => ?_) (fun hq6 hF => ?_)
    · refine x_aload_n hC dX11_way_24 rfl 0 rfl ?_
      refine x_getR (t := 1) hC dX11_way_25 rfl flX11_10 rfl (by decide) rfl rfl ?_
      refine x_iload_n hC dX11_way_28 rfl 1 rfl ?_
      refine x_iload_n hC dX11_way_29 rfl 2 rfl ?_
      refine x_callV1 (kc2 := 0) (ks2 := 0) (k := 1) (As := [iV a1, iV a2]) (rest := []) hC dX11_way_30 rfl hm5 (fun _ _ h => T_X4_wayBetween b _ m5 a1 ha1 a2 ha2 h) mlX11_152 vlX4_wayBetween rfl (by decide) rfl rfl (Nat.le_of_ble_eq_true rfl) (by decide) (by decide) rfl rfl hF (fun r7 m8 hr7 hm8 hF => ?_)
      exact x_ireturn hC dX11_way_33 hm8 hr7 hF
    · refine x_iconst hC dX11_way_22 rfl ?_
      exact x_ireturn hC dX11_way_23 hm5 (rgc (-1) rfl) hF
set_option maxRecDepth 20000 in
set_option maxHeartbeats 4000000 in
theorem T_X11_meaning (b : Bs) (o : Mm) (m : Mm) (a1 : Int) (ha1 : inR a1) (a2 : Int) (ha2 : inR a2) (a3 : Int) (ha3 : inR a3) (a4 : Int) (ha4 : inR a4) (a5 : Int) (ha5 : inR a5) {r : Int} {m' : Mm} (h : F_X11_meaning a1 a2 a3 a4 a5 m = some (r, m')) : Cn yX11_meaning cX11_meaning 6 (some .int) (4) 0 0 1 b (true, o) m [.ref (b.1 + 0), iV a1, iV a2, iV a3, iV a4, iV a5] (F_X11_meaning a1 a2 a3 a4 a5 m) := by
  refine Cn_of rfl (Nat.le_of_ble_eq_true rfl) (fun g hC hm => ?_)
  have hF := okR_some h
  generalize hQ : (fun (r : Int) (m' : Mm) => F_X11_meaning a1 a2 a3 a4 a5 m = some (r, m')) = Q at hF ⊢
  clear hQ h
  replace hC : Cok g b RX11 cX11_meaning 6 4 (some .int) := hC
  refine x_lv (lv' := [(0, .ref (b.1 + 0)), (1, iV a1), (2, iV a2), (3, iV a3), (4, iV a4), (5, iV a5)]) rfl ?_
  unfold F_X11_meaning at hF
  refine x_aload_n hC dX11_meaning_0 rfl 0 rfl ?_
  refine x_getR (t := 1) hC dX11_meaning_1 rfl flX11_10 rfl (by decide) rfl rfl ?_
  refine x_iload_n hC dX11_meaning_4 rfl 1 rfl ?_
  refine x_callV3 (kc2 := 0) (ks2 := 0) (k := 1) (As := [iV a1]) (rest := []) hC dX11_meaning_5 rfl hm (fun _ _ h => T_X4_has b _ m a1 ha1 h) mlX11_121 vlX4_has rfl (by decide) rfl rfl (Nat.le_of_ble_eq_true rfl) (by decide) (by decide) rfl rfl hF (fun r1 m2 hr1 hm2 hF => ?_)
  refine x_if_eq (tgt := 22) hC dX11_meaning_8 rfl rfl (rg_01 hr1) hF (fun hq3 hF => ?_) (fun hq3 hF => ?_)
  · refine x_iconst hC dX11_meaning_22 rfl ?_
    exact x_ireturn hC dX11_meaning_23 hm2 (rgc (-1) rfl) hF
  · refine x_aload_n hC dX11_meaning_11 rfl 0 rfl ?_
    refine x_getR (t := 1) hC dX11_meaning_12 rfl flX11_10 rfl (by decide) rfl rfl ?_
    refine x_iload_n hC dX11_meaning_15 rfl 3 rfl ?_
    refine x_callV3 (kc2 := 0) (ks2 := 0) (k := 1) (As := [iV a3]) (rest := []) hC dX11_meaning_16 rfl hm2 (fun _ _ h => T_X4_has b _ m2 a3 ha3 h) mlX11_121 vlX4_has rfl (by decide) rfl rfl (Nat.le_of_ble_eq_true rfl) (by decide) (by decide) rfl rfl hF (fun r4 m5 hr4 hm5 hF => ?_)
    refine x_if_ne (tgt := 24) hC dX11_meaning_19 rfl rfl (rg_01 hr4) hF (fun hq6 hF => ?_) (fun hq6 hF => ?_)
    · refine x_iload_n hC dX11_meaning_24 rfl 2 rfl ?_
      refine x_iconst hC dX11_meaning_25 rfl ?_
      refine x_bipush hC dX11_meaning_26 rfl rfl ?_
      refine x_callS3 (kc2 := 0) (ks2 := 0) (As := [iV a2, iV 1, iV 63]) (rest := []) hC dX11_meaning_28 rfl hm5 (fun _ _ h => T_X11_within b _ m5 a2 ha2 1 (rgc 1 rfl) 63 (rgc 63 rfl) h) mlX11_84 vsX11_within rfl rfl (Nat.le_of_ble_eq_true rfl) (by decide) (by decide) rfl rfl hF (fun r7 m8 hr7 hm8 hF => ?_)
      refine x_if_eq (tgt := 56) hC dX11_meaning_31 rfl rfl (rg_01 hr7) hF (fun hq9 hF => ?_) (fun hq9 hF => ?_)
      · refine x_iconst hC dX11_meaning_56 rfl ?_
        exact x_ireturn hC dX11_meaning_57 hm8 (rgc (-1) rfl) hF
      · refine x_iload hC dX11_meaning_34 rfl 4 rfl ?_
        refine x_iconst hC dX11_meaning_36 rfl ?_
        refine x_bipush hC dX11_meaning_37 rfl rfl ?_
        refine x_callS3 (kc2 := 0) (ks2 := 0) (As := [iV a4, iV 0, iV 8]) (rest := []) hC dX11_meaning_39 rfl hm8 (fun _ _ h => T_X11_within b _ m8 a4 ha4 0 (rgc 0 rfl) 8 (rgc 8 rfl) h) mlX11_84 vsX11_within rfl rfl (Nat.le_of_ble_eq_true rfl) (by decide) (by decide) rfl rfl hF (fun r10 m11 hr10 hm11 hF => ?_)
        refine x_if_eq (tgt := 56) hC dX11_meaning_42 rfl rfl (rg_01 hr10) hF (fun hq12 hF => ?_) (fun hq12 hF => ?_)
        · refine x_iconst hC dX11_meaning_56 rfl ?_
          exact x_ireturn hC dX11_meaning_57 hm11 (rgc (-1) rfl) hF
        · refine x_iload hC dX11_meaning_45 rfl 5 rfl ?_
          refine x_iconst hC dX11_meaning_47 rfl ?_
          refine x_bipush hC dX11_meaning_48 rfl rfl ?_
          refine x_callS3 (kc2 := 0) (ks2 := 0) (As := [iV a5, iV 0, iV 63]) (rest := []) hC dX11_meaning_50 rfl hm11 (fun _ _ h => T_X11_within b _ m11 a5 ha5 0 (rgc 0 rfl) 63 (rgc 63 rfl) h) mlX11_84 vsX11_within rfl rfl (Nat.le_of_ble_eq_true rfl) (by decide) (by decide) rfl rfl hF (fun r13 m14 hr13 hm14 hF => ?_)
          refine x_if_ne (tgt := 58) hC dX11_meaning_53 rfl rfl (rg_01 hr13) hF (fun hq15 hF => ?_) (fun hq15 hF => ?_)
          · refine x_aload_n hC dX11_meaning_58 rfl 0 rfl ?_
            refine x_getR (t := 17) hC dX11_meaning_59 rfl flX11_44 rfl (by decide) rfl rfl ?_
            refine x_iload_n hC dX11_meaning_62 rfl 1 rfl ?_
            refine x_iload_n hC dX11_meaning_63 rfl 2 rfl ?_
            refine x_iload_n hC dX11_meaning_64 rfl 3 rfl ?_
            refine x_iload hC dX11_meaning_65 rfl 4 rfl ?_
            refine x_iload hC dX11_meaning_67 rfl 5 rfl ?_
            refine x_callV1 (kc2 := 0) (ks2 := 0) (k := 17) (As := [iV a1, iV a2, iV a3, iV a4, iV a5]) (rest := []) hC dX11_meaning_69 rfl hm14 (fun _ _ h => T_X7_byEar b _ m14 a1 ha1 a2 ha2 a3 ha3 a4 ha4 a5 ha5 h) mlX11_155 vlX7_byEar rfl (by decide) rfl rfl (Nat.le_of_ble_eq_true rfl) (by decide) (by decide) rfl rfl hF (fun r16 m17 hr16 hm17 hF => ?_)
            exact x_ireturn hC dX11_meaning_72 hm17 hr16 hF
          · refine x_iconst hC dX11_meaning_56 rfl ?_
            exact x_ireturn hC dX11_meaning_57 hm14 (rgc (-1) rfl) hF
    · refine x_iconst hC dX11_meaning_22 rfl ?_
      exact x_ireturn hC dX11_meaning_23 hm5 (rgc (-1) rfl) hF
set_option maxRecDepth 20000 in
set_option maxHeartbeats 4000000 in
theorem WL_X11_read_102 {g : Gx} {b : Bs} {o : Mm} {Q : Int → Mm → Prop} (hC : Cok g b RX11 cX11_read 6 7 (some .long)) : ∀ n : Nat, ∀ v2 : Int, inR v2 → ∀ v3 : Int, inR v3 → ∀ v5 : Int, inR v5 → ∀ m : Mm, Rg m → okR (L_X11_read_102 n v2 v3 v5 m) Q → X g b (true, o) 6 (ZM g b (true, o) 2 Q) 102 [(0, .ref (b.1 + 0)), (2, iV v2), (3, iV v3), (5, iV v5)] [] m 0 0 := by
  intro n
  induction n with
  | zero => intro v2 hv2 v3 hv3 v5 hv5 m hm hF; exact absurd hF (fun z => z)
  | succ n ih =>
    intro v2 hv2 v3 hv3 v5 hv5 m hm hF
    have hF : okR (LB_X11_read_102 (L_X11_read_102 n) v2 v3 v5 m) Q := hF
    unfold LB_X11_read_102 at hF
    refine x_iload hC dX11_read_102 rfl 3 rfl ?_
    refine x_iload_n hC dX11_read_104 rfl 1 rfl ?_
    refine x_icmp_ge (tgt := 123) hC dX11_read_105 rfl rfl hv5 hv2 hF (fun hq1 hF => ?_) (fun hq1 hF => ?_)
    · refine x_aload_n hC dX11_read_123 rfl 0 rfl ?_
      refine x_getR (t := 34) hC dX11_read_124 rfl flX11_66 rfl (by decide) rfl rfl ?_
      refine x_callV0 (kc2 := 0) (ks2 := 0) (k := 34) (As := []) (rest := []) hC dX11_read_127 rfl hm (fun _ _ h => T_X5_keepWhatGoesOn b _ m  h) mlX11_173 vlX5_keepWhatGoesOn rfl (by decide) rfl rfl (Nat.le_of_ble_eq_true rfl) (by decide) (by decide) rfl rfl hF (fun r2 m3 hr2 hm3 hF => ?_)
      refine x_iload_n hC dX11_read_130 rfl 2 rfl ?_
      refine x_iconst hC dX11_read_131 rfl ?_
      refine x_icmp_ne (tgt := 145) hC dX11_read_132 rfl rfl hv3 (rgc (-1) rfl) hF (fun hq4 hF => ?_) (fun hq4 hF => ?_)
      · refine x_aload_n hC dX11_read_145 rfl 0 rfl ?_
        refine x_getR (t := 34) hC dX11_read_146 rfl flX11_66 rfl (by decide) rfl rfl ?_
        refine x_iload_n hC dX11_read_149 rfl 2 rfl ?_
        refine x_callV1 (kc2 := 0) (ks2 := 0) (k := 34) (As := [iV v3]) (rest := []) hC dX11_read_150 rfl hm3 (fun _ _ h => T_X5_whoMay b _ m3 v3 hv3 h) mlX11_180 vlX5_whoMay rfl (by decide) rfl rfl (Nat.le_of_ble_eq_true rfl) (by decide) (by decide) rfl rfl hF (fun r5 m6 hr5 hm6 hF => ?_)
        refine x_i2l hC dX11_read_153 rfl hr5 ?_
        exact x_lreturn hC dX11_read_154 hm6 (rg_RL hr5) hF
      · refine x_aload_n hC dX11_read_135 rfl 0 rfl ?_
        refine x_getR (t := 34) hC dX11_read_136 rfl flX11_66 rfl (by decide) rfl rfl ?_
        refine x_callV2 (kc2 := 0) (ks2 := 0) (k := 34) (As := []) (rest := []) hC dX11_read_139 rfl hm3 (fun _ _ h => T_X5_howManyRows b _ m3  h) mlX11_176 vlX5_howManyRows rfl (by decide) rfl rfl (Nat.le_of_ble_eq_true rfl) (by decide) (by decide) rfl rfl hF (fun r7 m8 hr7 hm8 hF => ?_)
        refine x_goto (tgt := 154) hC dX11_read_142 rfl ?_
        exact x_lreturn hC dX11_read_154 hm8 hr7 hF
    · refine x_aload_n hC dX11_read_108 rfl 0 rfl ?_
      refine x_getR (t := 34) hC dX11_read_109 rfl flX11_66 rfl (by decide) rfl rfl ?_
      refine x_iload hC dX11_read_112 rfl 3 rfl ?_
      refine x_callV0 (kc2 := 0) (ks2 := 0) (k := 34) (As := [iV v5]) (rest := []) hC dX11_read_114 rfl hm (fun _ _ h => T_X5_goOn b _ m v5 hv5 h) mlX11_170 vlX5_goOn rfl (by decide) rfl rfl (Nat.le_of_ble_eq_true rfl) (by decide) (by decide) rfl rfl hF (fun r9 m10 hr9 hm10 hF => ?_)
      refine x_iinc (p := 3) (lv' := [(0, .ref (b.1 + 0)), (2, iV v2), (3, iV v3)]) hC dX11_read_117 rfl rfl (by decide) rfl hF (fun x11 hx11 hF => ?_)
      refine x_goto (tgt := 102) hC dX11_read_120 rfl ?_
      refine x_sub [1, 2, 3, 0] rfl ?_
      exact ih v2 hv2 v3 hv3 x11 hx11 m10 hm10 hF
set_option maxRecDepth 20000 in
set_option maxHeartbeats 4000000 in
theorem T_X11_read (b : Bs) (o : Mm) (m : Mm) (a1 : Int) (ha1 : inR a1) (a2 : Int) (ha2 : inR a2) (a3 : Int) (ha3 : inR a3) {r : Int} {m' : Mm} (h : F_X11_read a1 a2 a3 m = some (r, m')) : Cn yX11_read cX11_read 6 (some .long) (7) 0 0 2 b (true, o) m [.ref (b.1 + 0), iV a1, iV a2, iV a3] (F_X11_read a1 a2 a3 m) := by
  refine Cn_of rfl (Nat.le_of_ble_eq_true rfl) (fun g hC hm => ?_)
  have hF := okR_some h
  generalize hQ : (fun (r : Int) (m' : Mm) => F_X11_read a1 a2 a3 m = some (r, m')) = Q at hF ⊢
  clear hQ h
  replace hC : Cok g b RX11 cX11_read 6 7 (some .long) := hC
  refine x_lv (lv' := [(0, .ref (b.1 + 0)), (1, iV a1), (2, iV a2), (3, iV a3)]) rfl ?_
  unfold F_X11_read at hF
  refine x_aload_n hC dX11_read_0 rfl 0 rfl ?_
  refine x_getR (t := 1) hC dX11_read_1 rfl flX11_10 rfl (by decide) rfl rfl ?_
  refine x_iload_n hC dX11_read_4 rfl 1 rfl ?_
  refine x_callV3 (kc2 := 0) (ks2 := 0) (k := 1) (As := [iV a1]) (rest := []) hC dX11_read_5 rfl hm (fun _ _ h => T_X4_has b _ m a1 ha1 h) mlX11_121 vlX4_has rfl (by decide) rfl rfl (Nat.le_of_ble_eq_true rfl) (by decide) (by decide) rfl rfl hF (fun r1 m2 hr1 hm2 hF => ?_)
  refine x_if_eq (tgt := 45) hC dX11_read_8 rfl rfl (rg_01 hr1) hF (fun hq3 hF => ?_) (fun hq3 hF => ?_)
  · refine x_ldc2 (x := (-1)) hC dX11_read_45 rfl kwX11_158 ?_
    exact x_lreturn hC dX11_read_48 hm2 (rgcL (-1) rfl) hF
  · refine x_iload_n hC dX11_read_11 rfl 2 rfl ?_
    refine x_iconst hC dX11_read_12 rfl ?_
    refine x_bipush hC dX11_read_13 rfl rfl ?_
    refine x_callS3 (kc2 := 0) (ks2 := 0) (As := [iV a2, iV 1, iV 12]) (rest := []) hC dX11_read_15 rfl hm2 (fun _ _ h => T_X11_within b _ m2 a2 ha2 1 (rgc 1 rfl) 12 (rgc 12 rfl) h) mlX11_84 vsX11_within rfl rfl (Nat.le_of_ble_eq_true rfl) (by decide) (by decide) rfl rfl hF (fun r4 m5 hr4 hm5 hF => ?_)
    refine x_if_eq (tgt := 45) hC dX11_read_18 rfl rfl (rg_01 hr4) hF (fun hq6 hF => ?_) (fun hq6 hF => ?_)
    · refine x_ldc2 (x := (-1)) hC dX11_read_45 rfl kwX11_158 ?_
      exact x_lreturn hC dX11_read_48 hm5 (rgcL (-1) rfl) hF
    · refine x_iload_n hC dX11_read_21 rfl 3 rfl ?_
      refine x_iconst hC dX11_read_22 rfl ?_
      refine x_iload_n hC dX11_read_23 rfl 2 rfl ?_
      refine x_iconst hC dX11_read_24 rfl ?_
      refine x_isub hC dX11_read_25 rfl ?_
      refine x_callS3 (kc2 := 0) (ks2 := 0) (As := [iV a3, iV (-1), iV (wr (a2 - 1))]) (rest := []) hC dX11_read_26 rfl hm5 (fun _ _ h => T_X11_within b _ m5 a3 ha3 (-1) (rgc (-1) rfl) (wr (a2 - 1)) (rg_wr _) h) mlX11_84 vsX11_within rfl rfl (Nat.le_of_ble_eq_true rfl) (by decide) (by decide) rfl rfl hF (fun r7 m8 hr7 hm8 hF => ?_)
      refine x_if_eq (tgt := 45) hC dX11_read_29 rfl rfl (rg_01 hr7) hF (fun hq9 hF => ?_) (fun hq9 hF => ?_)
      · refine x_ldc2 (x := (-1)) hC dX11_read_45 rfl kwX11_158 ?_
        exact x_lreturn hC dX11_read_48 hm8 (rgcL (-1) rfl) hF
      · refine x_aload_n hC dX11_read_32 rfl 0 rfl ?_
        refine x_getR (t := 7) hC dX11_read_33 rfl flX11_19 rfl (by decide) rfl rfl ?_
        refine x_iconst hC dX11_read_36 rfl ?_
        refine x_iload_n hC dX11_read_37 rfl 2 rfl ?_
        refine x_imul hC dX11_read_38 rfl ?_
        refine x_callV3 (kc2 := 0) (ks2 := 0) (k := 7) (As := [iV (wr (2 * a2))]) (rest := []) hC dX11_read_39 rfl hm8 (fun _ _ h => T_X10_has b _ m8 (wr (2 * a2)) (rg_wr _) h) mlX11_106 vlX10_has rfl (by decide) rfl rfl (Nat.le_of_ble_eq_true rfl) (by decide) (by decide) rfl rfl hF (fun r10 m11 hr10 hm11 hF => ?_)
        refine x_if_ne (tgt := 49) hC dX11_read_42 rfl rfl (rg_01 hr10) hF (fun hq12 hF => ?_) (fun hq12 hF => ?_)
        · refine x_aload_n hC dX11_read_49 rfl 0 rfl ?_
          refine x_getR (t := 34) hC dX11_read_50 rfl flX11_66 rfl (by decide) rfl rfl ?_
          refine x_aload_n hC dX11_read_53 rfl 0 rfl ?_
          refine x_getR (t := 7) hC dX11_read_54 rfl flX11_19 rfl (by decide) rfl rfl ?_
          refine x_iload_n hC dX11_read_57 rfl 2 rfl ?_
          refine x_callV3 (kc2 := 0) (ks2 := 0) (k := 34) (As := [.ref (b.1 + 7), iV a2]) (rest := []) hC dX11_read_58 rfl hm11 (fun _ _ h => T_X5_takePairs b _ m11 a2 ha2 h) mlX11_160 vlX5_takePairs rfl (by decide) rfl rfl (Nat.le_of_ble_eq_true rfl) (by decide) (by decide) rfl rfl hF (fun r13 m14 hr13 hm14 hF => ?_)
          refine x_istoreZ (lv' := [(0, .ref (b.1 + 0)), (1, iV a1), (2, iV a2), (3, iV a3)]) hC dX11_read_61 rfl (by decide) rfl hr13 hF (fun x15 hx15 hF => ?_)
          refine x_aload_n hC dX11_read_63 rfl 1 rfl ?_
          refine x_getR (t := 7) hC dX11_read_64 rfl flX11_19 rfl (by decide) rfl rfl ?_
          refine x_callV0 (kc2 := 0) (ks2 := 0) (k := 7) (As := []) (rest := []) hC dX11_read_67 rfl hm14 (fun _ _ h => T_X10_empty b _ m14  h) mlX11_114 vlX10_empty rfl (by decide) rfl rfl (Nat.le_of_ble_eq_true rfl) (by decide) (by decide) rfl rfl hF (fun r16 m17 hr16 hm17 hF => ?_)
          refine x_iload hC dX11_read_70 rfl 0 rfl ?_
          refine x_if_ne (tgt := 79) hC dX11_read_72 rfl rfl (rg_01 hx15) hF (fun hq18 hF => ?_) (fun hq18 hF => ?_)
          · refine x_aload_n hC dX11_read_79 rfl 1 rfl ?_
            refine x_getR (t := 14) hC dX11_read_80 rfl flX11_35 rfl (by decide) rfl rfl ?_
            refine x_iload_n hC dX11_read_83 rfl 2 rfl ?_
            refine x_callV0 (kc2 := 0) (ks2 := 0) (k := 14) (As := [iV a1]) (rest := []) hC dX11_read_84 rfl hm17 (fun _ _ h => T_X3_listen b _ m17 a1 ha1 h) mlX11_133 vlX3_listen rfl (by decide) rfl rfl (Nat.le_of_ble_eq_true rfl) (by decide) (by decide) rfl rfl hF (fun r19 m20 hr19 hm20 hF => ?_)
            refine x_aload_n hC dX11_read_87 rfl 1 rfl ?_
            refine x_getR (t := 34) hC dX11_read_88 rfl flX11_66 rfl (by decide) rfl rfl ?_
            refine x_iload_n hC dX11_read_91 rfl 2 rfl ?_
            refine x_aload_n hC dX11_read_92 rfl 1 rfl ?_
            refine x_getR (t := 14) hC dX11_read_93 rfl flX11_35 rfl (by decide) rfl rfl ?_
            refine x_callV0 (kc2 := 0) (ks2 := 0) (k := 34) (As := [iV a1, .ref (b.1 + 14)]) (rest := []) hC dX11_read_96 rfl hm20 (fun _ _ h => T_X5_beginBehind b _ m20 a1 ha1 h) mlX11_166 vlX5_beginBehind rfl (by decide) rfl rfl (Nat.le_of_ble_eq_true rfl) (by decide) (by decide) rfl rfl hF (fun r21 m22 hr21 hm22 hF => ?_)
            refine x_iconst hC dX11_read_99 rfl ?_
            refine x_istoreZ (lv' := [(4, iV x15), (0, .ref (b.1 + 0)), (1, iV a1), (2, iV a2), (3, iV a3)]) hC dX11_read_100 rfl (by decide) rfl (Or.inl rfl) hF (fun x23 hx23 hF => ?_)
            refine x_sub [2, 4, 5, 0] rfl ?_
            exact WL_X11_read_102 hC 100000  a2 ha2 a3 ha3 x23 (rg_01 hx23) m22 hm22 hF
          · refine x_ldc2 (x := (-2)) hC dX11_read_75 rfl kwX11_164 ?_
            exact x_lreturn hC dX11_read_78 hm17 (rgcL (-2) rfl) hF
        · refine x_ldc2 (x := (-1)) hC dX11_read_45 rfl kwX11_158 ?_
          exact x_lreturn hC dX11_read_48 hm11 (rgcL (-1) rfl) hF
set_option maxRecDepth 20000 in
set_option maxHeartbeats 4000000 in
theorem T_X11_missed (b : Bs) (o : Mm) (m : Mm) (a1 : Int) (ha1 : inR a1) (a2 : Int) (ha2 : inR a2) (a3 : Int) (ha3 : inR a3) (a4 : Int) (ha4 : inR a4) {r : Int} {m' : Mm} (h : F_X11_missed a1 a2 a3 a4 m = some (r, m')) : Cn yX11_missed cX11_missed 7 (some .int) (7) 0 0 1 b (true, o) m [.ref (b.1 + 0), iV a1, iV a2, iV a3, iV a4] (F_X11_missed a1 a2 a3 a4 m) := by
  refine Cn_of rfl (Nat.le_of_ble_eq_true rfl) (fun g hC hm => ?_)
  have hF := okR_some h
  generalize hQ : (fun (r : Int) (m' : Mm) => F_X11_missed a1 a2 a3 a4 m = some (r, m')) = Q at hF ⊢
  clear hQ h
  replace hC : Cok g b RX11 cX11_missed 7 7 (some .int) := hC
  refine x_lv (lv' := [(0, .ref (b.1 + 0)), (1, iV a1), (2, iV a2), (3, iV a3), (4, iV a4)]) rfl ?_
  unfold F_X11_missed at hF
  refine x_aload_n hC dX11_missed_0 rfl 0 rfl ?_
  refine x_getR (t := 1) hC dX11_missed_1 rfl flX11_10 rfl (by decide) rfl rfl ?_
  refine x_iload_n hC dX11_missed_4 rfl 1 rfl ?_
  refine x_callV3 (kc2 := 0) (ks2 := 0) (k := 1) (As := [iV a1]) (rest := []) hC dX11_missed_5 rfl hm (fun _ _ h => T_X4_has b _ m a1 ha1 h) mlX11_121 vlX4_has rfl (by decide) rfl rfl (Nat.le_of_ble_eq_true rfl) (by decide) (by decide) rfl rfl hF (fun r1 m2 hr1 hm2 hF => ?_)
  refine x_if_eq (tgt := 34) hC dX11_missed_8 rfl rfl (rg_01 hr1) hF (fun hq3 hF => ?_) (fun hq3 hF => ?_)
  · refine x_iconst hC dX11_missed_34 rfl ?_
    exact x_ireturn hC dX11_missed_35 hm2 (rgc (-1) rfl) hF
  · refine x_aload_n hC dX11_missed_11 rfl 0 rfl ?_
    refine x_getR (t := 1) hC dX11_missed_12 rfl flX11_10 rfl (by decide) rfl rfl ?_
    refine x_iload_n hC dX11_missed_15 rfl 2 rfl ?_
    refine x_callV3 (kc2 := 0) (ks2 := 0) (k := 1) (As := [iV a2]) (rest := []) hC dX11_missed_16 rfl hm2 (fun _ _ h => T_X4_has b _ m2 a2 ha2 h) mlX11_121 vlX4_has rfl (by decide) rfl rfl (Nat.le_of_ble_eq_true rfl) (by decide) (by decide) rfl rfl hF (fun r4 m5 hr4 hm5 hF => ?_)
    refine x_if_eq (tgt := 34) hC dX11_missed_19 rfl rfl (rg_01 hr4) hF (fun hq6 hF => ?_) (fun hq6 hF => ?_)
    · refine x_iconst hC dX11_missed_34 rfl ?_
      exact x_ireturn hC dX11_missed_35 hm5 (rgc (-1) rfl) hF
    · refine x_aload_n hC dX11_missed_22 rfl 0 rfl ?_
      refine x_getR (t := 1) hC dX11_missed_23 rfl flX11_10 rfl (by decide) rfl rfl ?_
      refine x_iload_n hC dX11_missed_26 rfl 1 rfl ?_
      refine x_iload_n hC dX11_missed_27 rfl 2 rfl ?_
      refine x_callV3 (kc2 := 0) (ks2 := 0) (k := 1) (As := [iV a1, iV a2]) (rest := []) hC dX11_missed_28 rfl hm5 (fun _ _ h => T_X4_reaches b _ m5 a1 ha1 a2 ha2 h) mlX11_183 vlX4_reaches rfl (by decide) rfl rfl (Nat.le_of_ble_eq_true rfl) (by decide) (by decide) rfl rfl hF (fun r7 m8 hr7 hm8 hF => ?_)
      refine x_if_ne (tgt := 36) hC dX11_missed_31 rfl rfl (rg_01 hr7) hF (fun hq9 hF => ?_) (fun hq9 hF => ?_)
      · refine x_iload_n hC dX11_missed_36 rfl 3 rfl ?_
        refine x_iconst hC dX11_missed_37 rfl ?_
        refine x_bipush hC dX11_missed_38 rfl rfl ?_
        refine x_callS3 (kc2 := 0) (ks2 := 0) (As := [iV a3, iV 1, iV 10]) (rest := []) hC dX11_missed_40 rfl hm8 (fun _ _ h => T_X11_within b _ m8 a3 ha3 1 (rgc 1 rfl) 10 (rgc 10 rfl) h) mlX11_84 vsX11_within rfl rfl (Nat.le_of_ble_eq_true rfl) (by decide) (by decide) rfl rfl hF (fun r10 m11 hr10 hm11 hF => ?_)
        refine x_if_eq (tgt := 71) hC dX11_missed_43 rfl rfl (rg_01 hr10) hF (fun hq12 hF => ?_) (fun hq12 hF => ?_)
        · refine x_iconst hC dX11_missed_71 rfl ?_
          exact x_ireturn hC dX11_missed_72 hm11 (rgc (-1) rfl) hF
        · refine x_iload hC dX11_missed_46 rfl 4 rfl ?_
          refine x_iconst hC dX11_missed_48 rfl ?_
          refine x_iconst hC dX11_missed_49 rfl ?_
          refine x_callS3 (kc2 := 0) (ks2 := 0) (As := [iV a4, iV (-1), iV 2]) (rest := []) hC dX11_missed_50 rfl hm11 (fun _ _ h => T_X11_within b _ m11 a4 ha4 (-1) (rgc (-1) rfl) 2 (rgc 2 rfl) h) mlX11_84 vsX11_within rfl rfl (Nat.le_of_ble_eq_true rfl) (by decide) (by decide) rfl rfl hF (fun r13 m14 hr13 hm14 hF => ?_)
          refine x_if_eq (tgt := 71) hC dX11_missed_53 rfl rfl (rg_01 hr13) hF (fun hq15 hF => ?_) (fun hq15 hF => ?_)
          · refine x_iconst hC dX11_missed_71 rfl ?_
            exact x_ireturn hC dX11_missed_72 hm14 (rgc (-1) rfl) hF
          · refine x_aload_n hC dX11_missed_56 rfl 0 rfl ?_
            refine x_getR (t := 7) hC dX11_missed_57 rfl flX11_19 rfl (by decide) rfl rfl ?_
            refine x_iconst hC dX11_missed_60 rfl ?_
            refine x_iload_n hC dX11_missed_61 rfl 3 rfl ?_
            refine x_imul hC dX11_missed_62 rfl ?_
            refine x_iconst hC dX11_missed_63 rfl ?_
            refine x_iadd hC dX11_missed_64 rfl ?_
            refine x_callV3 (kc2 := 0) (ks2 := 0) (k := 7) (As := [iV (wr ((wr (2 * a3)) + 1))]) (rest := []) hC dX11_missed_65 rfl hm14 (fun _ _ h => T_X10_has b _ m14 (wr ((wr (2 * a3)) + 1)) (rg_wr _) h) mlX11_106 vlX10_has rfl (by decide) rfl rfl (Nat.le_of_ble_eq_true rfl) (by decide) (by decide) rfl rfl hF (fun r16 m17 hr16 hm17 hF => ?_)
            refine x_if_ne (tgt := 73) hC dX11_missed_68 rfl rfl (rg_01 hr16) hF (fun hq18 hF => ?_) (fun hq18 hF => ?_)
            · refine x_aload_n hC dX11_missed_73 rfl 0 rfl ?_
              refine x_getR (t := 34) hC dX11_missed_74 rfl flX11_66 rfl (by decide) rfl rfl ?_
              refine x_aload_n hC dX11_missed_77 rfl 0 rfl ?_
              refine x_getR (t := 7) hC dX11_missed_78 rfl flX11_19 rfl (by decide) rfl rfl ?_
              refine x_iload_n hC dX11_missed_81 rfl 3 rfl ?_
              refine x_callV3 (kc2 := 0) (ks2 := 0) (k := 34) (As := [.ref (b.1 + 7), iV a3]) (rest := []) hC dX11_missed_82 rfl hm17 (fun _ _ h => T_X5_takeGapsThenMeanings b _ m17 a3 ha3 h) mlX11_186 vlX5_takeGapsThenMeanings rfl (by decide) rfl rfl (Nat.le_of_ble_eq_true rfl) (by decide) (by decide) rfl rfl hF (fun r19 m20 hr19 hm20 hF => ?_)
              refine x_istoreZ (lv' := [(0, .ref (b.1 + 0)), (1, iV a1), (2, iV a2), (3, iV a3), (4, iV a4)]) hC dX11_missed_85 rfl (by decide) rfl hr19 hF (fun x21 hx21 hF => ?_)
              refine x_aload_n hC dX11_missed_87 rfl 1 rfl ?_
              refine x_getR (t := 7) hC dX11_missed_88 rfl flX11_19 rfl (by decide) rfl rfl ?_
              refine x_callV0 (kc2 := 0) (ks2 := 0) (k := 7) (As := []) (rest := []) hC dX11_missed_91 rfl hm20 (fun _ _ h => T_X10_empty b _ m20  h) mlX11_114 vlX10_empty rfl (by decide) rfl rfl (Nat.le_of_ble_eq_true rfl) (by decide) (by decide) rfl rfl hF (fun r22 m23 hr22 hm23 hF => ?_)
              refine x_iload hC dX11_missed_94 rfl 0 rfl ?_
              refine x_if_ne (tgt := 102) hC dX11_missed_96 rfl rfl (rg_01 hx21) hF (fun hq24 hF => ?_) (fun hq24 hF => ?_)
              · refine x_aload_n hC dX11_missed_102 rfl 1 rfl ?_
                refine x_getR (t := 14) hC dX11_missed_103 rfl flX11_35 rfl (by decide) rfl rfl ?_
                refine x_iload_n hC dX11_missed_106 rfl 2 rfl ?_
                refine x_callV0 (kc2 := 0) (ks2 := 0) (k := 14) (As := [iV a1]) (rest := []) hC dX11_missed_107 rfl hm23 (fun _ _ h => T_X3_listen b _ m23 a1 ha1 h) mlX11_133 vlX3_listen rfl (by decide) rfl rfl (Nat.le_of_ble_eq_true rfl) (by decide) (by decide) rfl rfl hF (fun r25 m26 hr25 hm26 hF => ?_)
                refine x_aload_n hC dX11_missed_110 rfl 1 rfl ?_
                refine x_getR (t := 34) hC dX11_missed_111 rfl flX11_66 rfl (by decide) rfl rfl ?_
                refine x_iload_n hC dX11_missed_114 rfl 2 rfl ?_
                refine x_aload_n hC dX11_missed_115 rfl 1 rfl ?_
                refine x_getR (t := 14) hC dX11_missed_116 rfl flX11_35 rfl (by decide) rfl rfl ?_
                refine x_callV0 (kc2 := 0) (ks2 := 0) (k := 34) (As := [iV a1, .ref (b.1 + 14)]) (rest := []) hC dX11_missed_119 rfl hm26 (fun _ _ h => T_X5_beginBehind b _ m26 a1 ha1 h) mlX11_166 vlX5_beginBehind rfl (by decide) rfl rfl (Nat.le_of_ble_eq_true rfl) (by decide) (by decide) rfl rfl hF (fun r27 m28 hr27 hm28 hF => ?_)
                refine x_aload_n hC dX11_missed_122 rfl 1 rfl ?_
                refine x_getR (t := 34) hC dX11_missed_123 rfl flX11_66 rfl (by decide) rfl rfl ?_
                refine x_iload_n hC dX11_missed_126 rfl 3 rfl ?_
                refine x_callV1 (kc2 := 0) (ks2 := 0) (k := 34) (As := [iV a2]) (rest := []) hC dX11_missed_127 rfl hm28 (fun _ _ h => T_X5_waysToMiss b _ m28 a2 ha2 h) mlX11_189 vlX5_waysToMiss rfl (by decide) rfl rfl (Nat.le_of_ble_eq_true rfl) (by decide) (by decide) rfl rfl hF (fun r29 m30 hr29 hm30 hF => ?_)
                refine x_istore (lv' := [(5, iV x21), (0, .ref (b.1 + 0)), (1, iV a1), (2, iV a2), (3, iV a3), (4, iV a4)]) hC dX11_missed_130 rfl (by decide) rfl hr29 hF (fun x31 hx31 hF => ?_)
                refine x_iload hC dX11_missed_132 rfl 6 rfl ?_
                refine x_iconst hC dX11_missed_134 rfl ?_
                refine x_icmp_ne (tgt := 141) hC dX11_missed_135 rfl rfl ha4 (rgc (-1) rfl) hF (fun hq32 hF => ?_) (fun hq32 hF => ?_)
                · refine x_iload hC dX11_missed_141 rfl 0 rfl ?_
                  refine x_if_ne (tgt := 151) hC dX11_missed_143 rfl rfl hx31 hF (fun hq33 hF => ?_) (fun hq33 hF => ?_)
                  · refine x_aload_n hC dX11_missed_151 rfl 2 rfl ?_
                    refine x_getR (t := 34) hC dX11_missed_152 rfl flX11_66 rfl (by decide) rfl rfl ?_
                    refine x_iload hC dX11_missed_155 rfl 6 rfl ?_
                    refine x_callV1 (kc2 := 0) (ks2 := 0) (k := 34) (As := [iV a4]) (rest := []) hC dX11_missed_157 rfl hm30 (fun _ _ h => T_X5_firstMissed b _ m30 a4 ha4 h) mlX11_192 vlX5_firstMissed rfl (by decide) rfl rfl (Nat.le_of_ble_eq_true rfl) (by decide) (by decide) rfl rfl hF (fun r34 m35 hr34 hm35 hF => ?_)
                    exact x_ireturn hC dX11_missed_160 hm35 hr34 hF
                  · refine x_bipush hC dX11_missed_146 rfl rfl ?_
                    refine x_goto (tgt := 160) hC dX11_missed_148 rfl ?_
                    exact x_ireturn hC dX11_missed_160 hm30 (rgc (-3) rfl) hF
                · refine x_iload hC dX11_missed_138 rfl 0 rfl ?_
                  exact x_ireturn hC dX11_missed_140 hm30 hx31 hF
              · refine x_bipush hC dX11_missed_99 rfl rfl ?_
                exact x_ireturn hC dX11_missed_101 hm23 (rgc (-2) rfl) hF
            · refine x_iconst hC dX11_missed_71 rfl ?_
              exact x_ireturn hC dX11_missed_72 hm17 (rgc (-1) rfl) hF
      · refine x_iconst hC dX11_missed_34 rfl ?_
        exact x_ireturn hC dX11_missed_35 hm8 (rgc (-1) rfl) hF
set_option maxRecDepth 20000 in
set_option maxHeartbeats 4000000 in
theorem T_J6_bitCount_0f7a4 (b : Bs) (o : Mm) (m : Mm) (a1 : Int) (ha1 : inR a1) {r : Int} {m' : Mm} (h : F_J6_bitCount_0f7a4 a1 m = some (r, m')) : Cn yJ6_bitCount_0f7a4 cJ6_bitCount_0f7a4 1 (some .int) (0) 0 0 1 b (true, o) m [iV a1] (F_J6_bitCount_0f7a4 a1 m) := by
  refine Cn_ofF (by decide +kernel) (Nat.le_of_ble_eq_true rfl) (fun g hC hm => ?_)
  have hF := okR_some h
  generalize hQ : (fun (r : Int) (m' : Mm) => F_J6_bitCount_0f7a4 a1 m = some (r, m')) = Q at hF ⊢
  clear hQ h
  replace hC : Cok g b RJ6 cJ6_bitCount_0f7a4 1 0 (some .int) := hC
  refine x_lv (lv' := [(0, iV a1)]) rfl ?_
  unfold F_J6_bitCount_0f7a4 at hF
  refine x_iload_n hC dJ6_bitCount_0f7a4_0 rfl 0 rfl ?_
  refine x_iload_n hC dJ6_bitCount_0f7a4_1 rfl 0 rfl ?_
  refine x_iconst hC dJ6_bitCount_0f7a4_2 rfl ?_
  refine x_iushr hC dJ6_bitCount_0f7a4_3 rfl ?_
  refine x_ldc_w (x := 1431655765) hC dJ6_bitCount_0f7a4_4 rfl kwJ6_265 ?_
  refine x_iand hC dJ6_bitCount_0f7a4_7 rfl ?_
  refine x_isub hC dJ6_bitCount_0f7a4_8 rfl ?_
  refine x_istore_n (lv' := []) hC dJ6_bitCount_0f7a4_9 rfl rfl (by decide) rfl (rg_wr _) hF (fun x1 hx1 hF => ?_)
  refine x_iload_n hC dJ6_bitCount_0f7a4_10 rfl 0 rfl ?_
  refine x_ldc_w (x := 858993459) hC dJ6_bitCount_0f7a4_11 rfl kwJ6_266 ?_
  refine x_iand hC dJ6_bitCount_0f7a4_14 rfl ?_
  refine x_iload_n hC dJ6_bitCount_0f7a4_15 rfl 0 rfl ?_
  refine x_iconst hC dJ6_bitCount_0f7a4_16 rfl ?_
  refine x_iushr hC dJ6_bitCount_0f7a4_17 rfl ?_
  refine x_ldc_w (x := 858993459) hC dJ6_bitCount_0f7a4_18 rfl kwJ6_266 ?_
  refine x_iand hC dJ6_bitCount_0f7a4_21 rfl ?_
  refine x_iadd hC dJ6_bitCount_0f7a4_22 rfl ?_
  refine x_istore_n (lv' := []) hC dJ6_bitCount_0f7a4_23 rfl rfl (by decide) rfl (rg_wr _) hF (fun x2 hx2 hF => ?_)
  refine x_iload_n hC dJ6_bitCount_0f7a4_24 rfl 0 rfl ?_
  refine x_iload_n hC dJ6_bitCount_0f7a4_25 rfl 0 rfl ?_
  refine x_iconst hC dJ6_bitCount_0f7a4_26 rfl ?_
  refine x_iushr hC dJ6_bitCount_0f7a4_27 rfl ?_
  refine x_iadd hC dJ6_bitCount_0f7a4_28 rfl ?_
  refine x_ldc_w (x := 252645135) hC dJ6_bitCount_0f7a4_29 rfl kwJ6_267 ?_
  refine x_iand hC dJ6_bitCount_0f7a4_32 rfl ?_
  refine x_istore_n (lv' := []) hC dJ6_bitCount_0f7a4_33 rfl rfl (by decide) rfl (rg_tI _) hF (fun x3 hx3 hF => ?_)
  refine x_iload_n hC dJ6_bitCount_0f7a4_34 rfl 0 rfl ?_
  refine x_iload_n hC dJ6_bitCount_0f7a4_35 rfl 0 rfl ?_
  refine x_bipush hC dJ6_bitCount_0f7a4_36 rfl rfl ?_
  refine x_iushr hC dJ6_bitCount_0f7a4_38 rfl ?_
  refine x_iadd hC dJ6_bitCount_0f7a4_39 rfl ?_
  refine x_istore_n (lv' := []) hC dJ6_bitCount_0f7a4_40 rfl rfl (by decide) rfl (rg_wr _) hF (fun x4 hx4 hF => ?_)
  refine x_iload_n hC dJ6_bitCount_0f7a4_41 rfl 0 rfl ?_
  refine x_iload_n hC dJ6_bitCount_0f7a4_42 rfl 0 rfl ?_
  refine x_bipush hC dJ6_bitCount_0f7a4_43 rfl rfl ?_
  refine x_iushr hC dJ6_bitCount_0f7a4_45 rfl ?_
  refine x_iadd hC dJ6_bitCount_0f7a4_46 rfl ?_
  refine x_istore_n (lv' := []) hC dJ6_bitCount_0f7a4_47 rfl rfl (by decide) rfl (rg_wr _) hF (fun x5 hx5 hF => ?_)
  refine x_iload_n hC dJ6_bitCount_0f7a4_48 rfl 0 rfl ?_
  refine x_bipush hC dJ6_bitCount_0f7a4_49 rfl rfl ?_
  refine x_iand hC dJ6_bitCount_0f7a4_51 rfl ?_
  exact x_ireturn hC dJ6_bitCount_0f7a4_52 hm (rg_tI _) hF
set_option maxRecDepth 20000 in
set_option maxHeartbeats 4000000 in
theorem WJ_X11_soonest_126 {g : Gx} {b : Bs} {o : Mm} {Q : Int → Mm → Prop} (hC : Cok g b RX11 cX11_soonest 6 25 (some .int)) (v2 : Int) (hv2 : inR v2) (v4 : Int) (hv4 : (v4 = 0 ∨ v4 = 1)) (m : Mm) (hm : Rg m) (hF : okR (J_X11_soonest_126 v2 v4 m) Q) : X g b (true, o) 6 (ZM g b (true, o) 1 Q) 126 [(0, .ref (b.1 + 0)), (2, iV v2), (4, iV v4)] [] m 0 0 := by
  unfold J_X11_soonest_126 at hF
  refine x_aload_n hC dX11_soonest_126 rfl 0 rfl ?_
  refine x_getR (t := 43) hC dX11_soonest_127 rfl flX11_73 rfl (by decide) rfl rfl ?_
  refine x_callV3 (kc2 := 0) (ks2 := 0) (k := 43) (As := []) (rest := []) hC dX11_soonest_130 rfl hm (fun _ _ h => T_X1_canBe b _ m  h) mlX11_224 vlX1_canBe rfl (by decide) rfl rfl (Nat.le_of_ble_eq_true rfl) (by decide) (by decide) rfl rfl hF (fun r1 m2 hr1 hm2 hF => ?_)
  refine x_if_ne (tgt := 139) hC dX11_soonest_133 rfl rfl (rg_01 hr1) hF (fun hq3 hF => ?_) (fun hq3 hF => ?_)
  · refine x_iload_n hC dX11_soonest_139 rfl 1 rfl ?_
    refine x_iconst hC dX11_soonest_140 rfl ?_
    refine x_icmp_ne (tgt := 152) hC dX11_soonest_141 rfl rfl hv2 (rgc (-1) rfl) hF (fun hq4 hF => ?_) (fun hq4 hF => ?_)
    · refine x_iload hC dX11_soonest_152 rfl 2 rfl ?_
      refine x_if_eq (tgt := 171) hC dX11_soonest_154 rfl rfl (rg_01 hv4) hF (fun hq5 hF => ?_) (fun hq5 hF => ?_)
      · refine x_aload_n hC dX11_soonest_171 rfl 0 rfl ?_
        refine x_getR (t := 43) hC dX11_soonest_172 rfl flX11_73 rfl (by decide) rfl rfl ?_
        refine x_iload_n hC dX11_soonest_175 rfl 1 rfl ?_
        refine x_sipush hC dX11_soonest_176 rfl rfl ?_
        refine x_isub hC dX11_soonest_179 rfl ?_
        refine x_callV1 (kc2 := 0) (ks2 := 0) (k := 43) (As := [iV (wr (v2 - 200))]) (rest := []) hC dX11_soonest_180 rfl hm2 (fun _ _ h => T_X1_gapOf b _ m2 (wr (v2 - 200)) (rg_wr _) h) mlX11_234 vlX1_gapOf rfl (by decide) rfl rfl (Nat.le_of_ble_eq_true rfl) (by decide) (by decide) rfl rfl hF (fun r6 m7 hr6 hm7 hF => ?_)
        exact x_ireturn hC dX11_soonest_183 hm7 hr6 hF
      · refine x_aload_n hC dX11_soonest_157 rfl 0 rfl ?_
        refine x_getR (t := 43) hC dX11_soonest_158 rfl flX11_73 rfl (by decide) rfl rfl ?_
        refine x_iload_n hC dX11_soonest_161 rfl 1 rfl ?_
        refine x_bipush hC dX11_soonest_162 rfl rfl ?_
        refine x_isub hC dX11_soonest_164 rfl ?_
        refine x_callV1 (kc2 := 0) (ks2 := 0) (k := 43) (As := [iV (wr (v2 - 100))]) (rest := []) hC dX11_soonest_165 rfl hm2 (fun _ _ h => T_X1_speakerOf b _ m2 (wr (v2 - 100)) (rg_wr _) h) mlX11_231 vlX1_speakerOf rfl (by decide) rfl rfl (Nat.le_of_ble_eq_true rfl) (by decide) (by decide) rfl rfl hF (fun r8 m9 hr8 hm9 hF => ?_)
        refine x_goto (tgt := 183) hC dX11_soonest_168 rfl ?_
        exact x_ireturn hC dX11_soonest_183 hm9 hr8 hF
    · refine x_aload_n hC dX11_soonest_144 rfl 0 rfl ?_
      refine x_getR (t := 43) hC dX11_soonest_145 rfl flX11_73 rfl (by decide) rfl rfl ?_
      refine x_getI hC dX11_soonest_148 rfl flX11_228 rfl (by decide) rfl rfl ?_
      exact x_ireturn hC dX11_soonest_151 hm2 (hm2.i 43 14 rfl) hF
  · refine x_bipush hC dX11_soonest_136 rfl rfl ?_
    exact x_ireturn hC dX11_soonest_138 hm2 (rgc (-2) rfl) hF
set_option maxRecDepth 20000 in
set_option maxHeartbeats 4000000 in
theorem WJ_X11_soonest_79 {g : Gx} {b : Bs} {o : Mm} {Q : Int → Mm → Prop} (kc ks : Nat) (hC : Cok g b RX11 cX11_soonest 6 25 (some .int)) (v1 : Int) (hv1 : inR v1) (v2 : Int) (hv2 : inR v2) (v4 : Int) (hv4 : (v4 = 0 ∨ v4 = 1)) (m : Mm) (hm : Rg m) (hF : okR (J_X11_soonest_79 kc ks v1 v2 v4 m) Q) : X g b (true, o) 6 (ZM g b (true, o) 1 Q) 79 [(0, .ref (b.1 + 0)), (1, iV v1), (2, iV v2), (4, iV v4)] [] m kc ks := by
  unfold J_X11_soonest_79 at hF
  refine x_aload_n hC dX11_soonest_79 rfl 0 rfl ?_
  refine x_getR (t := 43) hC dX11_soonest_80 rfl flX11_73 rfl (by decide) rfl rfl ?_
  refine x_iload_n hC dX11_soonest_83 rfl 1 rfl ?_
  refine x_callV3 (kc2 := kc) (ks2 := ks) (k := 43) (As := [iV v1]) (rest := []) hC dX11_soonest_84 rfl hm (fun _ _ h => T_X1_knows b _ m v1 hv1 h) mlX11_206 vlX1_knows rfl (by decide) rfl rfl (Nat.le_of_ble_eq_true rfl) (by decide) (by decide) (Nat.zero_add _).symm (Nat.zero_add _).symm hF (fun r1 m2 hr1 hm2 hF => ?_)
  refine x_if_ne (tgt := 126) hC dX11_soonest_87 rfl rfl (rg_01 hr1) hF (fun hq3 hF => ?_) (fun hq3 hF => ?_)
  · refine x_grd hF (fun hk hF => ?_)
    obtain ⟨rfl, rfl⟩ := hk
    refine x_sub [0, 2, 3] rfl ?_
    exact WJ_X11_soonest_126 hC  v2 hv2 v4 hv4 m2 hm2 hF
  · refine x_aload_n hC dX11_soonest_90 rfl 0 rfl ?_
    refine x_getR (t := 43) hC dX11_soonest_91 rfl flX11_73 rfl (by decide) rfl rfl ?_
    refine x_iload_n hC dX11_soonest_94 rfl 1 rfl ?_
    refine x_callV0 (kc2 := 0) (ks2 := 0) (k := 43) (As := [iV v1]) (rest := []) hC dX11_soonest_95 rfl hm2 (fun _ _ h => T_X1_choose b _ m2 kc ks v1 hv1 h) mlX11_209 vlX1_choose rfl (by decide) rfl rfl (Nat.le_of_ble_eq_true rfl) (by decide) (by decide) rfl rfl hF (fun r4 m5 hr4 hm5 hF => ?_)
    refine x_aload_n hC dX11_soonest_98 rfl 0 rfl ?_
    refine x_getR (t := 43) hC dX11_soonest_99 rfl flX11_73 rfl (by decide) rfl rfl ?_
    refine x_callV0 (kc2 := 0) (ks2 := 0) (k := 43) (As := []) (rest := []) hC dX11_soonest_102 rfl hm5 (fun _ _ h => T_X1_askGaps b _ m5  h) mlX11_212 vlX1_askGaps rfl (by decide) rfl rfl (Nat.le_of_ble_eq_true rfl) (by decide) (by decide) rfl rfl hF (fun r6 m7 hr6 hm7 hF => ?_)
    refine x_aload_n hC dX11_soonest_105 rfl 0 rfl ?_
    refine x_getR (t := 43) hC dX11_soonest_106 rfl flX11_73 rfl (by decide) rfl rfl ?_
    refine x_callV0 (kc2 := 0) (ks2 := 0) (k := 43) (As := []) (rest := []) hC dX11_soonest_109 rfl hm7 (fun _ _ h => T_X1_findLeast b _ m7  h) mlX11_215 vlX1_findLeast rfl (by decide) rfl rfl (Nat.le_of_ble_eq_true rfl) (by decide) (by decide) rfl rfl hF (fun r8 m9 hr8 hm9 hF => ?_)
    refine x_aload_n hC dX11_soonest_112 rfl 0 rfl ?_
    refine x_getR (t := 43) hC dX11_soonest_113 rfl flX11_73 rfl (by decide) rfl rfl ?_
    refine x_callV0 (kc2 := 0) (ks2 := 0) (k := 43) (As := []) (rest := []) hC dX11_soonest_116 rfl hm9 (fun _ _ h => T_X1_findSpeakers b _ m9  h) mlX11_218 vlX1_findSpeakers rfl (by decide) rfl rfl (Nat.le_of_ble_eq_true rfl) (by decide) (by decide) rfl rfl hF (fun r10 m11 hr10 hm11 hF => ?_)
    refine x_aload_n hC dX11_soonest_119 rfl 0 rfl ?_
    refine x_getR (t := 43) hC dX11_soonest_120 rfl flX11_73 rfl (by decide) rfl rfl ?_
    refine x_callV0 (kc2 := 0) (ks2 := 0) (k := 43) (As := []) (rest := []) hC dX11_soonest_123 rfl hm11 (fun _ _ h => T_X1_findGaps b _ m11  h) mlX11_221 vlX1_findGaps rfl (by decide) rfl rfl (Nat.le_of_ble_eq_true rfl) (by decide) (by decide) rfl rfl hF (fun r12 m13 hr12 hm13 hF => ?_)
    refine x_sub [0, 2, 3] rfl ?_
    exact WJ_X11_soonest_126 hC  v2 hv2 v4 hv4 m13 hm13 hF
set_option maxRecDepth 20000 in
set_option maxHeartbeats 4000000 in
theorem T_X11_soonest (b : Bs) (o : Mm) (m : Mm) (kc ks : Nat) (a1 : Int) (ha1 : inR a1) (a2 : Int) (ha2 : inR a2) {r : Int} {m' : Mm} (h : F_X11_soonest kc ks a1 a2 m = some (r, m')) : Cn yX11_soonest cX11_soonest 6 (some .int) (25) kc ks 1 b (true, o) m [.ref (b.1 + 0), iV a1, iV a2] (F_X11_soonest kc ks a1 a2 m) := by
  refine Cn_of rfl (Nat.le_of_ble_eq_true rfl) (fun g hC hm => ?_)
  have hF := okR_some h
  generalize hQ : (fun (r : Int) (m' : Mm) => F_X11_soonest kc ks a1 a2 m = some (r, m')) = Q at hF ⊢
  clear hQ h
  replace hC : Cok g b RX11 cX11_soonest 6 25 (some .int) := hC
  refine x_lv (lv' := [(0, .ref (b.1 + 0)), (1, iV a1), (2, iV a2)]) rfl ?_
  unfold F_X11_soonest at hF
  refine x_aload_n hC dX11_soonest_0 rfl 0 rfl ?_
  refine x_getR (t := 1) hC dX11_soonest_1 rfl flX11_10 rfl (by decide) rfl rfl ?_
  refine x_iload_n hC dX11_soonest_4 rfl 1 rfl ?_
  refine x_callV3 (kc2 := kc) (ks2 := ks) (k := 1) (As := [iV a1]) (rest := []) hC dX11_soonest_5 rfl hm (fun _ _ h => T_X4_hasAll b _ m a1 ha1 h) mlX11_195 vlX4_hasAll rfl (by decide) rfl rfl (Nat.le_of_ble_eq_true rfl) (by decide) (by decide) (Nat.zero_add _).symm (Nat.zero_add _).symm hF (fun r1 m2 hr1 hm2 hF => ?_)
  refine x_if_eq (tgt := 19) hC dX11_soonest_8 rfl rfl (rg_01 hr1) hF (fun hq3 hF => ?_) (fun hq3 hF => ?_)
  · refine x_bipush hC dX11_soonest_19 rfl rfl ?_
    refine x_grd hF (fun hk hF => ?_)
    subst hk
    exact x_ireturn hC dX11_soonest_21 hm2 (rgc (-3) rfl) hF
  · refine x_iload_n hC dX11_soonest_11 rfl 1 rfl ?_
    refine x_callS1 (kc2 := kc) (ks2 := ks) (As := [iV a1]) (rest := []) hC dX11_soonest_12 rfl hm2 (fun _ _ h => T_J6_bitCount_0f7a4 b _ m2 a1 ha1 h) mlX11_198 vsJ6_bitCount_0f7a4 rfl rfl (Nat.le_of_ble_eq_true rfl) (by decide) (by decide) (Nat.zero_add _).symm (Nat.zero_add _).symm hF (fun r4 m5 hr4 hm5 hF => ?_)
    refine x_iconst hC dX11_soonest_15 rfl ?_
    refine x_icmp_le (tgt := 22) hC dX11_soonest_16 rfl rfl hr4 (rgc 4 rfl) hF (fun hq6 hF => ?_) (fun hq6 hF => ?_)
    · refine x_aload_n hC dX11_soonest_22 rfl 0 rfl ?_
      refine x_getR (t := 1) hC dX11_soonest_23 rfl flX11_10 rfl (by decide) rfl rfl ?_
      refine x_iload_n hC dX11_soonest_26 rfl 1 rfl ?_
      refine x_callV1 (kc2 := kc) (ks2 := ks) (k := 1) (As := [iV a1]) (rest := []) hC dX11_soonest_27 rfl hm5 (fun _ _ h => T_X4_wordsOf b _ m5 a1 ha1 h) mlX11_203 vlX4_wordsOf rfl (by decide) rfl rfl (Nat.le_of_ble_eq_true rfl) (by decide) (by decide) (Nat.zero_add _).symm (Nat.zero_add _).symm hF (fun r7 m8 hr7 hm8 hF => ?_)
      refine x_istore_n (lv' := [(0, .ref (b.1 + 0)), (1, iV a1), (2, iV a2)]) hC dX11_soonest_30 rfl rfl (by decide) rfl hr7 hF (fun x9 hx9 hF => ?_)
      refine x_iload_n hC dX11_soonest_31 rfl 3 rfl ?_
      refine x_bipush hC dX11_soonest_32 rfl rfl ?_
      refine x_bipush hC dX11_soonest_34 rfl rfl ?_
      refine x_iload_n hC dX11_soonest_36 rfl 0 rfl ?_
      refine x_iadd hC dX11_soonest_37 rfl ?_
      refine x_iconst hC dX11_soonest_38 rfl ?_
      refine x_isub hC dX11_soonest_39 rfl ?_
      refine x_callS3 (kc2 := kc) (ks2 := ks) (As := [iV a2, iV 100, iV (wr ((wr (100 + x9)) - 1))]) (rest := []) hC dX11_soonest_40 rfl hm8 (fun _ _ h => T_X11_within b _ m8 a2 ha2 100 (rgc 100 rfl) (wr ((wr (100 + x9)) - 1)) (rg_wr _) h) mlX11_84 vsX11_within rfl rfl (Nat.le_of_ble_eq_true rfl) (by decide) (by decide) (Nat.zero_add _).symm (Nat.zero_add _).symm hF (fun r10 m11 hr10 hm11 hF => ?_)
      refine x_istoreZ (lv' := [(3, iV x9), (0, .ref (b.1 + 0)), (1, iV a1), (2, iV a2)]) hC dX11_soonest_43 rfl (by decide) rfl hr10 hF (fun x12 hx12 hF => ?_)
      refine x_iload_n hC dX11_soonest_45 rfl 4 rfl ?_
      refine x_sipush hC dX11_soonest_46 rfl rfl ?_
      refine x_sipush hC dX11_soonest_49 rfl rfl ?_
      refine x_iload_n hC dX11_soonest_52 rfl 1 rfl ?_
      refine x_iadd hC dX11_soonest_53 rfl ?_
      refine x_iconst hC dX11_soonest_54 rfl ?_
      refine x_isub hC dX11_soonest_55 rfl ?_
      refine x_callS3 (kc2 := kc) (ks2 := ks) (As := [iV a2, iV 200, iV (wr ((wr (200 + x9)) - 1))]) (rest := []) hC dX11_soonest_56 rfl hm11 (fun _ _ h => T_X11_within b _ m11 a2 ha2 200 (rgc 200 rfl) (wr ((wr (200 + x9)) - 1)) (rg_wr _) h) mlX11_84 vsX11_within rfl rfl (Nat.le_of_ble_eq_true rfl) (by decide) (by decide) (Nat.zero_add _).symm (Nat.zero_add _).symm hF (fun r13 m14 hr13 hm14 hF => ?_)
      refine x_istoreZ (lv' := [(4, iV x12), (3, iV x9), (0, .ref (b.1 + 0)), (1, iV a1), (2, iV a2)]) hC dX11_soonest_59 rfl (by decide) rfl hr13 hF (fun x15 hx15 hF => ?_)
      refine x_iload_n hC dX11_soonest_61 rfl 5 rfl ?_
      refine x_iconst hC dX11_soonest_62 rfl ?_
      refine x_icmp_eq (tgt := 79) hC dX11_soonest_63 rfl rfl ha2 (rgc (-1) rfl) hF (fun hq16 hF => ?_) (fun hq16 hF => ?_)
      · refine x_sub [3, 4, 5, 1] rfl ?_
        exact WJ_X11_soonest_79 kc ks hC  a1 ha1 a2 ha2 x12 hx12 m14 hm14 hF
      · refine x_iload hC dX11_soonest_66 rfl 1 rfl ?_
        refine x_if_ne (tgt := 79) hC dX11_soonest_68 rfl rfl (rg_01 hx12) hF (fun hq17 hF => ?_) (fun hq17 hF => ?_)
        · refine x_sub [3, 4, 5, 1] rfl ?_
          exact WJ_X11_soonest_79 kc ks hC  a1 ha1 a2 ha2 x12 hx12 m14 hm14 hF
        · refine x_iload hC dX11_soonest_71 rfl 0 rfl ?_
          refine x_if_ne (tgt := 79) hC dX11_soonest_73 rfl rfl (rg_01 hx15) hF (fun hq18 hF => ?_) (fun hq18 hF => ?_)
          · refine x_sub [3, 4, 5, 1] rfl ?_
            exact WJ_X11_soonest_79 kc ks hC  a1 ha1 a2 ha2 x12 hx12 m14 hm14 hF
          · refine x_bipush hC dX11_soonest_76 rfl rfl ?_
            refine x_grd hF (fun hk hF => ?_)
            subst hk
            exact x_ireturn hC dX11_soonest_78 hm14 (rgc (-3) rfl) hF
    · refine x_bipush hC dX11_soonest_19 rfl rfl ?_
      refine x_grd hF (fun hk hF => ?_)
      subst hk
      exact x_ireturn hC dX11_soonest_21 hm5 (rgc (-3) rfl) hF
set_option maxRecDepth 20000 in
set_option maxHeartbeats 4000000 in
theorem T_X11_byRules (b : Bs) (o : Mm) (m : Mm) (a1 : Int) (ha1 : inR a1) (a2 : Int) (ha2 : inR a2) (a3 : Int) (ha3 : inR a3) {r : Int} {m' : Mm} (h : F_X11_byRules a1 a2 a3 m = some (r, m')) : Cn yX11_byRules cX11_byRules 4 (some .int) (7) 0 0 1 b (true, o) m [.ref (b.1 + 0), iV a1, iV a2, iV a3] (F_X11_byRules a1 a2 a3 m) := by
  refine Cn_of rfl (Nat.le_of_ble_eq_true rfl) (fun g hC hm => ?_)
  have hF := okR_some h
  generalize hQ : (fun (r : Int) (m' : Mm) => F_X11_byRules a1 a2 a3 m = some (r, m')) = Q at hF ⊢
  clear hQ h
  replace hC : Cok g b RX11 cX11_byRules 4 7 (some .int) := hC
  refine x_lv (lv' := [(0, .ref (b.1 + 0)), (1, iV a1), (2, iV a2), (3, iV a3)]) rfl ?_
  unfold F_X11_byRules at hF
  refine x_aload_n hC dX11_byRules_0 rfl 0 rfl ?_
  refine x_getR (t := 1) hC dX11_byRules_1 rfl flX11_10 rfl (by decide) rfl rfl ?_
  refine x_iload_n hC dX11_byRules_4 rfl 1 rfl ?_
  refine x_callV3 (kc2 := 0) (ks2 := 0) (k := 1) (As := [iV a1]) (rest := []) hC dX11_byRules_5 rfl hm (fun _ _ h => T_X4_hasAll b _ m a1 ha1 h) mlX11_195 vlX4_hasAll rfl (by decide) rfl rfl (Nat.le_of_ble_eq_true rfl) (by decide) (by decide) rfl rfl hF (fun r1 m2 hr1 hm2 hF => ?_)
  refine x_if_eq (tgt := 31) hC dX11_byRules_8 rfl rfl (rg_01 hr1) hF (fun hq3 hF => ?_) (fun hq3 hF => ?_)
  · refine x_iconst hC dX11_byRules_31 rfl ?_
    exact x_ireturn hC dX11_byRules_32 hm2 (rgc (-1) rfl) hF
  · refine x_iload_n hC dX11_byRules_11 rfl 2 rfl ?_
    refine x_iconst hC dX11_byRules_12 rfl ?_
    refine x_sipush hC dX11_byRules_13 rfl rfl ?_
    refine x_callS3 (kc2 := 0) (ks2 := 0) (As := [iV a2, iV 1, iV 400]) (rest := []) hC dX11_byRules_16 rfl hm2 (fun _ _ h => T_X11_within b _ m2 a2 ha2 1 (rgc 1 rfl) 400 (rgc 400 rfl) h) mlX11_84 vsX11_within rfl rfl (Nat.le_of_ble_eq_true rfl) (by decide) (by decide) rfl rfl hF (fun r4 m5 hr4 hm5 hF => ?_)
    refine x_if_eq (tgt := 31) hC dX11_byRules_19 rfl rfl (rg_01 hr4) hF (fun hq6 hF => ?_) (fun hq6 hF => ?_)
    · refine x_iconst hC dX11_byRules_31 rfl ?_
      exact x_ireturn hC dX11_byRules_32 hm5 (rgc (-1) rfl) hF
    · refine x_iload_n hC dX11_byRules_22 rfl 3 rfl ?_
      refine x_iconst hC dX11_byRules_23 rfl ?_
      refine x_iconst hC dX11_byRules_24 rfl ?_
      refine x_callS3 (kc2 := 0) (ks2 := 0) (As := [iV a3, iV 0, iV 2]) (rest := []) hC dX11_byRules_25 rfl hm5 (fun _ _ h => T_X11_within b _ m5 a3 ha3 0 (rgc 0 rfl) 2 (rgc 2 rfl) h) mlX11_84 vsX11_within rfl rfl (Nat.le_of_ble_eq_true rfl) (by decide) (by decide) rfl rfl hF (fun r7 m8 hr7 hm8 hF => ?_)
      refine x_if_ne (tgt := 33) hC dX11_byRules_28 rfl rfl (rg_01 hr7) hF (fun hq9 hF => ?_) (fun hq9 hF => ?_)
      · refine x_aload_n hC dX11_byRules_33 rfl 0 rfl ?_
        refine x_getR (t := 52) hC dX11_byRules_34 rfl flX11_80 rfl (by decide) rfl rfl ?_
        refine x_iload_n hC dX11_byRules_37 rfl 1 rfl ?_
        refine x_iload_n hC dX11_byRules_38 rfl 2 rfl ?_
        refine x_callV0 (kc2 := 0) (ks2 := 0) (k := 52) (As := [iV a1, iV a2]) (rest := []) hC dX11_byRules_39 rfl hm8 (fun _ _ h => T_X6_play b _ m8 a1 ha1 a2 ha2 h) mlX11_235 vlX6_play rfl (by decide) rfl rfl (Nat.le_of_ble_eq_true rfl) (by decide) (by decide) rfl rfl hF (fun r10 m11 hr10 hm11 hF => ?_)
        refine x_iload_n hC dX11_byRules_42 rfl 3 rfl ?_
        refine x_iconst hC dX11_byRules_43 rfl ?_
        refine x_icmp_ne (tgt := 55) hC dX11_byRules_44 rfl rfl ha3 (rgc 1 rfl) hF (fun hq12 hF => ?_) (fun hq12 hF => ?_)
        · refine x_iload_n hC dX11_byRules_55 rfl 3 rfl ?_
          refine x_iconst hC dX11_byRules_56 rfl ?_
          refine x_icmp_ne (tgt := 68) hC dX11_byRules_57 rfl rfl ha3 (rgc 2 rfl) hF (fun hq13 hF => ?_) (fun hq13 hF => ?_)
          · refine x_aload_n hC dX11_byRules_68 rfl 0 rfl ?_
            refine x_getR (t := 52) hC dX11_byRules_69 rfl flX11_80 rfl (by decide) rfl rfl ?_
            refine x_getI hC dX11_byRules_72 rfl flX11_245 rfl (by decide) rfl rfl ?_
            refine x_if_le (tgt := 83) hC dX11_byRules_75 rfl rfl (hm11.i 52 3 rfl) hF (fun hq14 hF => ?_) (fun hq14 hF => ?_)
            · refine x_aload_n hC dX11_byRules_83 rfl 0 rfl ?_
              refine x_getR (t := 52) hC dX11_byRules_84 rfl flX11_80 rfl (by decide) rfl rfl ?_
              refine x_getI hC dX11_byRules_87 rfl flX11_248 rfl (by decide) rfl rfl ?_
              exact x_ireturn hC dX11_byRules_90 hm11 (hm11.i 52 6 rfl) hF
            · refine x_bipush hC dX11_byRules_78 rfl rfl ?_
              refine x_goto (tgt := 90) hC dX11_byRules_80 rfl ?_
              exact x_ireturn hC dX11_byRules_90 hm11 (rgc (-2) rfl) hF
          · refine x_aload_n hC dX11_byRules_60 rfl 0 rfl ?_
            refine x_getR (t := 52) hC dX11_byRules_61 rfl flX11_80 rfl (by decide) rfl rfl ?_
            refine x_getI hC dX11_byRules_64 rfl flX11_242 rfl (by decide) rfl rfl ?_
            exact x_ireturn hC dX11_byRules_67 hm11 (hm11.i 52 5 rfl) hF
        · refine x_aload_n hC dX11_byRules_47 rfl 0 rfl ?_
          refine x_getR (t := 52) hC dX11_byRules_48 rfl flX11_80 rfl (by decide) rfl rfl ?_
          refine x_getI hC dX11_byRules_51 rfl flX11_239 rfl (by decide) rfl rfl ?_
          exact x_ireturn hC dX11_byRules_54 hm11 (hm11.i 52 4 rfl) hF
      · refine x_iconst hC dX11_byRules_31 rfl ?_
        exact x_ireturn hC dX11_byRules_32 hm8 (rgc (-1) rfl) hF
set_option maxRecDepth 20000 in
set_option maxHeartbeats 4000000 in
theorem WJ_X11_table_77 {g : Gx} {b : Bs} {o : Mm} {Q : Int → Mm → Prop} (hC : Cok g b RX11 cX11_table 5 3 (some .int)) (v4 : Int) (hv4 : inR v4) (m : Mm) (hm : Rg m) (hF : okR (J_X11_table_77 v4 m) Q) : X g b (true, o) 5 (ZM g b (true, o) 1 Q) 77 [(0, .ref (b.1 + 0)), (4, iV v4)] [] m 0 0 := by
  unfold J_X11_table_77 at hF
  refine x_aload_n hC dX11_table_77 rfl 0 rfl ?_
  refine x_getR (t := 7) hC dX11_table_78 rfl flX11_19 rfl (by decide) rfl rfl ?_
  refine x_callV0 (kc2 := 0) (ks2 := 0) (k := 7) (As := []) (rest := []) hC dX11_table_81 rfl hm (fun _ _ h => T_X10_empty b _ m  h) mlX11_114 vlX10_empty rfl (by decide) rfl rfl (Nat.le_of_ble_eq_true rfl) (by decide) (by decide) rfl rfl hF (fun r1 m2 hr1 hm2 hF => ?_)
  refine x_iload hC dX11_table_84 rfl 1 rfl ?_
  exact x_ireturn hC dX11_table_86 hm2 hv4 hF
set_option maxRecDepth 20000 in
set_option maxHeartbeats 4000000 in
theorem WJ_X11_table_48 {g : Gx} {b : Bs} {o : Mm} {Q : Int → Mm → Prop} (hC : Cok g b RX11 cX11_table 5 3 (some .int)) (v1 : Int) (hv1 : inR v1) (v2 : Int) (hv2 : inR v2) (v3 : Int) (hv3 : inR v3) (m : Mm) (hm : Rg m) (hF : okR (J_X11_table_48 v1 v2 v3 m) Q) : X g b (true, o) 5 (ZM g b (true, o) 1 Q) 48 [(0, .ref (b.1 + 0)), (1, iV v1), (2, iV v2), (3, iV v3)] [] m 0 0 := by
  unfold J_X11_table_48 at hF
  refine x_iload_n hC dX11_table_48 rfl 3 rfl ?_
  refine x_iconst hC dX11_table_49 rfl ?_
  refine x_icmp_ne (tgt := 65) hC dX11_table_50 rfl rfl hv3 (rgc (-1) rfl) hF (fun hq1 hF => ?_) (fun hq1 hF => ?_)
  · refine x_aload_n hC dX11_table_65 rfl 0 rfl ?_
    refine x_getR (t := 7) hC dX11_table_66 rfl flX11_19 rfl (by decide) rfl rfl ?_
    refine x_iload_n hC dX11_table_69 rfl 1 rfl ?_
    refine x_iload_n hC dX11_table_70 rfl 2 rfl ?_
    refine x_iload_n hC dX11_table_71 rfl 3 rfl ?_
    refine x_callS1 (kc2 := 0) (ks2 := 0) (As := [.ref (b.1 + 7), iV v1, iV v2, iV v3]) (rest := []) hC dX11_table_72 rfl hm (fun _ _ h => T_X8_leastGap b _ m v1 hv1 v2 hv2 v3 hv3 h) mlX11_257 vsX8_leastGap rfl rfl (Nat.le_of_ble_eq_true rfl) (by decide) (by decide) rfl rfl hF (fun r2 m3 hr2 hm3 hF => ?_)
    refine x_istore (lv' := [(0, .ref (b.1 + 0)), (1, iV v1), (2, iV v2), (3, iV v3)]) hC dX11_table_75 rfl (by decide) rfl hr2 hF (fun x4 hx4 hF => ?_)
    refine x_sub [1, 0] rfl ?_
    exact WJ_X11_table_77 hC  x4 hx4 m3 hm3 hF
  · refine x_aload_n hC dX11_table_53 rfl 0 rfl ?_
    refine x_getR (t := 7) hC dX11_table_54 rfl flX11_19 rfl (by decide) rfl rfl ?_
    refine x_iload_n hC dX11_table_57 rfl 1 rfl ?_
    refine x_iload_n hC dX11_table_58 rfl 2 rfl ?_
    refine x_callS1 (kc2 := 0) (ks2 := 0) (As := [.ref (b.1 + 7), iV v1, iV v2]) (rest := []) hC dX11_table_59 rfl hm (fun _ _ h => T_X8_leastSum b _ m v1 hv1 v2 hv2 h) mlX11_251 vsX8_leastSum rfl rfl (Nat.le_of_ble_eq_true rfl) (by decide) (by decide) rfl rfl hF (fun r5 m6 hr5 hm6 hF => ?_)
    refine x_goto (tgt := 75) hC dX11_table_62 rfl ?_
    refine x_istore (lv' := [(0, .ref (b.1 + 0)), (1, iV v1), (2, iV v2), (3, iV v3)]) hC dX11_table_75 rfl (by decide) rfl hr5 hF (fun x7 hx7 hF => ?_)
    refine x_sub [1, 0] rfl ?_
    exact WJ_X11_table_77 hC  x7 hx7 m6 hm6 hF
set_option maxRecDepth 20000 in
set_option maxHeartbeats 4000000 in
theorem T_X11_table (b : Bs) (o : Mm) (m : Mm) (a1 : Int) (ha1 : inR a1) (a2 : Int) (ha2 : inR a2) (a3 : Int) (ha3 : inR a3) {r : Int} {m' : Mm} (h : F_X11_table a1 a2 a3 m = some (r, m')) : Cn yX11_table cX11_table 5 (some .int) (3) 0 0 1 b (true, o) m [.ref (b.1 + 0), iV a1, iV a2, iV a3] (F_X11_table a1 a2 a3 m) := by
  refine Cn_of rfl (Nat.le_of_ble_eq_true rfl) (fun g hC hm => ?_)
  have hF := okR_some h
  generalize hQ : (fun (r : Int) (m' : Mm) => F_X11_table a1 a2 a3 m = some (r, m')) = Q at hF ⊢
  clear hQ h
  replace hC : Cok g b RX11 cX11_table 5 3 (some .int) := hC
  refine x_lv (lv' := [(0, .ref (b.1 + 0)), (1, iV a1), (2, iV a2), (3, iV a3)]) rfl ?_
  unfold F_X11_table at hF
  refine x_iload_n hC dX11_table_0 rfl 1 rfl ?_
  refine x_iconst hC dX11_table_1 rfl ?_
  refine x_bipush hC dX11_table_2 rfl rfl ?_
  refine x_callS3 (kc2 := 0) (ks2 := 0) (As := [iV a1, iV 1, iV 12]) (rest := []) hC dX11_table_4 rfl hm (fun _ _ h => T_X11_within b _ m a1 ha1 1 (rgc 1 rfl) 12 (rgc 12 rfl) h) mlX11_84 vsX11_within rfl rfl (Nat.le_of_ble_eq_true rfl) (by decide) (by decide) rfl rfl hF (fun r1 m2 hr1 hm2 hF => ?_)
  refine x_if_eq (tgt := 30) hC dX11_table_7 rfl rfl (rg_01 hr1) hF (fun hq3 hF => ?_) (fun hq3 hF => ?_)
  · refine x_iconst hC dX11_table_30 rfl ?_
    exact x_ireturn hC dX11_table_31 hm2 (rgc (-1) rfl) hF
  · refine x_iload_n hC dX11_table_10 rfl 2 rfl ?_
    refine x_iconst hC dX11_table_11 rfl ?_
    refine x_iconst hC dX11_table_12 rfl ?_
    refine x_callS3 (kc2 := 0) (ks2 := 0) (As := [iV a2, iV 1, iV 5]) (rest := []) hC dX11_table_13 rfl hm2 (fun _ _ h => T_X11_within b _ m2 a2 ha2 1 (rgc 1 rfl) 5 (rgc 5 rfl) h) mlX11_84 vsX11_within rfl rfl (Nat.le_of_ble_eq_true rfl) (by decide) (by decide) rfl rfl hF (fun r4 m5 hr4 hm5 hF => ?_)
    refine x_if_eq (tgt := 30) hC dX11_table_16 rfl rfl (rg_01 hr4) hF (fun hq6 hF => ?_) (fun hq6 hF => ?_)
    · refine x_iconst hC dX11_table_30 rfl ?_
      exact x_ireturn hC dX11_table_31 hm5 (rgc (-1) rfl) hF
    · refine x_aload_n hC dX11_table_19 rfl 0 rfl ?_
      refine x_getR (t := 7) hC dX11_table_20 rfl flX11_19 rfl (by decide) rfl rfl ?_
      refine x_iload_n hC dX11_table_23 rfl 1 rfl ?_
      refine x_callV3 (kc2 := 0) (ks2 := 0) (k := 7) (As := [iV a1]) (rest := []) hC dX11_table_24 rfl hm5 (fun _ _ h => T_X10_has b _ m5 a1 ha1 h) mlX11_106 vlX10_has rfl (by decide) rfl rfl (Nat.le_of_ble_eq_true rfl) (by decide) (by decide) rfl rfl hF (fun r7 m8 hr7 hm8 hF => ?_)
      refine x_if_ne (tgt := 32) hC dX11_table_27 rfl rfl (rg_01 hr7) hF (fun hq9 hF => ?_) (fun hq9 hF => ?_)
      · refine x_iload_n hC dX11_table_32 rfl 3 rfl ?_
        refine x_iconst hC dX11_table_33 rfl ?_
        refine x_icmp_eq (tgt := 48) hC dX11_table_34 rfl rfl ha3 (rgc (-1) rfl) hF (fun hq10 hF => ?_) (fun hq10 hF => ?_)
        · exact WJ_X11_table_48 hC  a1 ha1 a2 ha2 a3 ha3 m8 hm8 hF
        · refine x_iload_n hC dX11_table_37 rfl 3 rfl ?_
          refine x_iconst hC dX11_table_38 rfl ?_
          refine x_iload_n hC dX11_table_39 rfl 1 rfl ?_
          refine x_callS3 (kc2 := 0) (ks2 := 0) (As := [iV a3, iV 1, iV a1]) (rest := []) hC dX11_table_40 rfl hm8 (fun _ _ h => T_X11_within b _ m8 a3 ha3 1 (rgc 1 rfl) a1 ha1 h) mlX11_84 vsX11_within rfl rfl (Nat.le_of_ble_eq_true rfl) (by decide) (by decide) rfl rfl hF (fun r11 m12 hr11 hm12 hF => ?_)
          refine x_if_ne (tgt := 48) hC dX11_table_43 rfl rfl (rg_01 hr11) hF (fun hq13 hF => ?_) (fun hq13 hF => ?_)
          · exact WJ_X11_table_48 hC  a1 ha1 a2 ha2 a3 ha3 m12 hm12 hF
          · refine x_iconst hC dX11_table_46 rfl ?_
            exact x_ireturn hC dX11_table_47 hm12 (rgc (-1) rfl) hF
      · refine x_iconst hC dX11_table_30 rfl ?_
        exact x_ireturn hC dX11_table_31 hm8 (rgc (-1) rfl) hF
set_option maxRecDepth 20000 in
set_option maxHeartbeats 4000000 in
theorem WJ_X11_alike_72 {g : Gx} {b : Bs} {o : Mm} {Q : Int → Mm → Prop} (hC : Cok g b RX11 cX11_alike 4 5 (some .int)) (v3 : Int) (hv3 : inR v3) (m : Mm) (hm : Rg m) (hF : okR (J_X11_alike_72 v3 m) Q) : X g b (true, o) 4 (ZM g b (true, o) 1 Q) 72 [(0, .ref (b.1 + 0)), (3, iV v3)] [] m 0 0 := by
  unfold J_X11_alike_72 at hF
  refine x_aload_n hC dX11_alike_72 rfl 0 rfl ?_
  refine x_getR (t := 7) hC dX11_alike_73 rfl flX11_19 rfl (by decide) rfl rfl ?_
  refine x_callV0 (kc2 := 0) (ks2 := 0) (k := 7) (As := []) (rest := []) hC dX11_alike_76 rfl hm (fun _ _ h => T_X10_empty b _ m  h) mlX11_114 vlX10_empty rfl (by decide) rfl rfl (Nat.le_of_ble_eq_true rfl) (by decide) (by decide) rfl rfl hF (fun r1 m2 hr1 hm2 hF => ?_)
  refine x_iload_n hC dX11_alike_79 rfl 1 rfl ?_
  exact x_ireturn hC dX11_alike_80 hm2 hv3 hF
set_option maxRecDepth 20000 in
set_option maxHeartbeats 4000000 in
theorem T_X11_alike (b : Bs) (o : Mm) (m : Mm) (a1 : Int) (ha1 : inR a1) (a2 : Int) (ha2 : inR a2) {r : Int} {m' : Mm} (h : F_X11_alike a1 a2 m = some (r, m')) : Cn yX11_alike cX11_alike 4 (some .int) (5) 0 0 1 b (true, o) m [.ref (b.1 + 0), iV a1, iV a2] (F_X11_alike a1 a2 m) := by
  refine Cn_of rfl (Nat.le_of_ble_eq_true rfl) (fun g hC hm => ?_)
  have hF := okR_some h
  generalize hQ : (fun (r : Int) (m' : Mm) => F_X11_alike a1 a2 m = some (r, m')) = Q at hF ⊢
  clear hQ h
  replace hC : Cok g b RX11 cX11_alike 4 5 (some .int) := hC
  refine x_lv (lv' := [(0, .ref (b.1 + 0)), (1, iV a1), (2, iV a2)]) rfl ?_
  unfold F_X11_alike at hF
  refine x_iload_n hC dX11_alike_0 rfl 1 rfl ?_
  refine x_iconst hC dX11_alike_1 rfl ?_
  refine x_bipush hC dX11_alike_2 rfl rfl ?_
  refine x_callS3 (kc2 := 0) (ks2 := 0) (As := [iV a1, iV 1, iV 12]) (rest := []) hC dX11_alike_4 rfl hm (fun _ _ h => T_X11_within b _ m a1 ha1 1 (rgc 1 rfl) 12 (rgc 12 rfl) h) mlX11_84 vsX11_within rfl rfl (Nat.le_of_ble_eq_true rfl) (by decide) (by decide) rfl rfl hF (fun r1 m2 hr1 hm2 hF => ?_)
  refine x_if_eq (tgt := 30) hC dX11_alike_7 rfl rfl (rg_01 hr1) hF (fun hq3 hF => ?_) (fun hq3 hF => ?_)
  · refine x_iconst hC dX11_alike_30 rfl ?_
    exact x_ireturn hC dX11_alike_31 hm2 (rgc (-1) rfl) hF
  · refine x_iload_n hC dX11_alike_10 rfl 2 rfl ?_
    refine x_iconst hC dX11_alike_11 rfl ?_
    refine x_iconst hC dX11_alike_12 rfl ?_
    refine x_callS3 (kc2 := 0) (ks2 := 0) (As := [iV a2, iV 0, iV 4]) (rest := []) hC dX11_alike_13 rfl hm2 (fun _ _ h => T_X11_within b _ m2 a2 ha2 0 (rgc 0 rfl) 4 (rgc 4 rfl) h) mlX11_84 vsX11_within rfl rfl (Nat.le_of_ble_eq_true rfl) (by decide) (by decide) rfl rfl hF (fun r4 m5 hr4 hm5 hF => ?_)
    refine x_if_eq (tgt := 30) hC dX11_alike_16 rfl rfl (rg_01 hr4) hF (fun hq6 hF => ?_) (fun hq6 hF => ?_)
    · refine x_iconst hC dX11_alike_30 rfl ?_
      exact x_ireturn hC dX11_alike_31 hm5 (rgc (-1) rfl) hF
    · refine x_aload_n hC dX11_alike_19 rfl 0 rfl ?_
      refine x_getR (t := 7) hC dX11_alike_20 rfl flX11_19 rfl (by decide) rfl rfl ?_
      refine x_iload_n hC dX11_alike_23 rfl 1 rfl ?_
      refine x_callV3 (kc2 := 0) (ks2 := 0) (k := 7) (As := [iV a1]) (rest := []) hC dX11_alike_24 rfl hm5 (fun _ _ h => T_X10_has b _ m5 a1 ha1 h) mlX11_106 vlX10_has rfl (by decide) rfl rfl (Nat.le_of_ble_eq_true rfl) (by decide) (by decide) rfl rfl hF (fun r7 m8 hr7 hm8 hF => ?_)
      refine x_if_ne (tgt := 32) hC dX11_alike_27 rfl rfl (rg_01 hr7) hF (fun hq9 hF => ?_) (fun hq9 hF => ?_)
      · refine x_bipush hC dX11_alike_32 rfl rfl ?_
        refine x_istore_n (lv' := [(0, .ref (b.1 + 0)), (1, iV a1), (2, iV a2)]) hC dX11_alike_34 rfl rfl (by decide) rfl (rgc (-2) rfl) hF (fun x10 hx10 hF => ?_)
        refine x_aload_n hC dX11_alike_35 rfl 1 rfl ?_
        refine x_getR (t := 7) hC dX11_alike_36 rfl flX11_19 rfl (by decide) rfl rfl ?_
        refine x_iload_n hC dX11_alike_39 rfl 2 rfl ?_
        refine x_callS3 (kc2 := 0) (ks2 := 0) (As := [.ref (b.1 + 7), iV a1]) (rest := []) hC dX11_alike_40 rfl hm8 (fun _ _ h => T_X8_areGaps b _ m8 a1 ha1 h) mlX11_261 vsX8_areGaps rfl rfl (Nat.le_of_ble_eq_true rfl) (by decide) (by decide) rfl rfl hF (fun r11 m12 hr11 hm12 hF => ?_)
        refine x_if_eq (tgt := 72) hC dX11_alike_43 rfl rfl (rg_01 hr11) hF (fun hq13 hF => ?_) (fun hq13 hF => ?_)
        · refine x_sub [1, 0] rfl ?_
          exact WJ_X11_alike_72 hC  x10 hx10 m12 hm12 hF
        · refine x_iload_n hC dX11_alike_46 rfl 3 rfl ?_
          refine x_iconst hC dX11_alike_47 rfl ?_
          refine x_icmp_ne (tgt := 62) hC dX11_alike_48 rfl rfl ha2 (rgc 4 rfl) hF (fun hq14 hF => ?_) (fun hq14 hF => ?_)
          · refine x_aload_n hC dX11_alike_62 rfl 1 rfl ?_
            refine x_getR (t := 7) hC dX11_alike_63 rfl flX11_19 rfl (by decide) rfl rfl ?_
            refine x_iload_n hC dX11_alike_66 rfl 2 rfl ?_
            refine x_iload_n hC dX11_alike_67 rfl 3 rfl ?_
            refine x_callS1 (kc2 := 0) (ks2 := 0) (As := [.ref (b.1 + 7), iV a1, iV a2]) (rest := []) hC dX11_alike_68 rfl hm12 (fun _ _ h => T_X8_firstAlike b _ m12 a1 ha1 a2 ha2 h) mlX11_268 vsX8_firstAlike rfl rfl (Nat.le_of_ble_eq_true rfl) (by decide) (by decide) rfl rfl hF (fun r15 m16 hr15 hm16 hF => ?_)
            refine x_istore_n (lv' := [(0, .ref (b.1 + 0)), (1, iV a1), (2, iV a2)]) hC dX11_alike_71 rfl rfl (by decide) rfl hr15 hF (fun x17 hx17 hF => ?_)
            refine x_sub [1, 0] rfl ?_
            exact WJ_X11_alike_72 hC  x17 hx17 m16 hm16 hF
          · refine x_aload_n hC dX11_alike_51 rfl 1 rfl ?_
            refine x_getR (t := 7) hC dX11_alike_52 rfl flX11_19 rfl (by decide) rfl rfl ?_
            refine x_iload_n hC dX11_alike_55 rfl 2 rfl ?_
            refine x_callS1 (kc2 := 0) (ks2 := 0) (As := [.ref (b.1 + 7), iV a1]) (rest := []) hC dX11_alike_56 rfl hm12 (fun _ _ h => T_X8_howManyAlike b _ m12 a1 ha1 h) mlX11_264 vsX8_howManyAlike rfl rfl (Nat.le_of_ble_eq_true rfl) (by decide) (by decide) rfl rfl hF (fun r18 m19 hr18 hm19 hF => ?_)
            refine x_goto (tgt := 71) hC dX11_alike_59 rfl ?_
            refine x_istore_n (lv' := [(0, .ref (b.1 + 0)), (1, iV a1), (2, iV a2)]) hC dX11_alike_71 rfl rfl (by decide) rfl hr18 hF (fun x20 hx20 hF => ?_)
            refine x_sub [1, 0] rfl ?_
            exact WJ_X11_alike_72 hC  x20 hx20 m19 hm19 hF
      · refine x_iconst hC dX11_alike_30 rfl ?_
        exact x_ireturn hC dX11_alike_31 hm8 (rgc (-1) rfl) hF
set_option maxRecDepth 20000 in
set_option maxHeartbeats 4000000 in
theorem T_X11_seed (b : Bs) (o : Mm) (m : Mm) (a1 : Int) (ha1 : inR a1) {r : Int} {m' : Mm} (h : F_X11_seed a1 m = some (r, m')) : Cn yX11_seed cX11_seed 2 (some .boolean) (1) 0 0 3 b (true, o) m [.ref (b.1 + 0), iV a1] (F_X11_seed a1 m) := by
  refine Cn_of rfl (Nat.le_of_ble_eq_true rfl) (fun g hC hm => ?_)
  have hF := okR_some h
  generalize hQ : (fun (r : Int) (m' : Mm) => F_X11_seed a1 m = some (r, m')) = Q at hF ⊢
  clear hQ h
  replace hC : Cok g b RX11 cX11_seed 2 1 (some .boolean) := hC
  refine x_lv (lv' := [(0, .ref (b.1 + 0)), (1, iV a1)]) rfl ?_
  unfold F_X11_seed at hF
  refine x_iload_n hC dX11_seed_0 rfl 1 rfl ?_
  refine x_iconst hC dX11_seed_1 rfl ?_
  refine x_ldc_w (x := 65535) hC dX11_seed_2 rfl kwX11_271 ?_
  refine x_callS3 (kc2 := 0) (ks2 := 0) (As := [iV a1, iV 0, iV 65535]) (rest := []) hC dX11_seed_5 rfl hm (fun _ _ h => T_X11_within b _ m a1 ha1 0 (rgc 0 rfl) 65535 (rgc 65535 rfl) h) mlX11_84 vsX11_within rfl rfl (Nat.le_of_ble_eq_true rfl) (by decide) (by decide) rfl rfl hF (fun r1 m2 hr1 hm2 hF => ?_)
  refine x_if_ne (tgt := 13) hC dX11_seed_8 rfl rfl (rg_01 hr1) hF (fun hq3 hF => ?_) (fun hq3 hF => ?_)
  · refine x_aload_n hC dX11_seed_13 rfl 0 rfl ?_
    refine x_getR (t := 9) hC dX11_seed_14 rfl flX11_26 rfl (by decide) rfl rfl ?_
    refine x_iload_n hC dX11_seed_17 rfl 1 rfl ?_
    refine x_putI hC dX11_seed_18 rfl fpX11_272 rfl (by decide) (by decide) rfl rfl hm2 ha1 rfl hF (fun m4 hm4 hF => ?_)
    refine x_iconst hC dX11_seed_21 rfl ?_
    exact x_zreturn hC dX11_seed_22 hm4 (Or.inr rfl) hF
  · refine x_iconst hC dX11_seed_11 rfl ?_
    exact x_zreturn hC dX11_seed_12 hm2 (Or.inl rfl) hF
set_option maxRecDepth 20000 in
set_option maxHeartbeats 4000000 in
theorem T_X11_draw (b : Bs) (o : Mm) (m : Mm) (a1 : Int) (ha1 : inR a1) {r : Int} {m' : Mm} (h : F_X11_draw a1 m = some (r, m')) : Cn yX11_draw cX11_draw 2 (some .int) (3) 0 0 1 b (true, o) m [.ref (b.1 + 0), iV a1] (F_X11_draw a1 m) := by
  refine Cn_of rfl (Nat.le_of_ble_eq_true rfl) (fun g hC hm => ?_)
  have hF := okR_some h
  generalize hQ : (fun (r : Int) (m' : Mm) => F_X11_draw a1 m = some (r, m')) = Q at hF ⊢
  clear hQ h
  replace hC : Cok g b RX11 cX11_draw 2 3 (some .int) := hC
  refine x_lv (lv' := [(0, .ref (b.1 + 0)), (1, iV a1)]) rfl ?_
  unfold F_X11_draw at hF
  refine x_iload_n hC dX11_draw_0 rfl 1 rfl ?_
  refine x_iconst hC dX11_draw_1 rfl ?_
  refine x_sipush hC dX11_draw_2 rfl rfl ?_
  refine x_callS3 (kc2 := 0) (ks2 := 0) (As := [iV a1, iV 1, iV 200]) (rest := []) hC dX11_draw_5 rfl hm (fun _ _ h => T_X11_within b _ m a1 ha1 1 (rgc 1 rfl) 200 (rgc 200 rfl) h) mlX11_84 vsX11_within rfl rfl (Nat.le_of_ble_eq_true rfl) (by decide) (by decide) rfl rfl hF (fun r1 m2 hr1 hm2 hF => ?_)
  refine x_if_ne (tgt := 13) hC dX11_draw_8 rfl rfl (rg_01 hr1) hF (fun hq3 hF => ?_) (fun hq3 hF => ?_)
  · refine x_aload_n hC dX11_draw_13 rfl 0 rfl ?_
    refine x_getR (t := 14) hC dX11_draw_14 rfl flX11_35 rfl (by decide) rfl rfl ?_
    refine x_callV0 (kc2 := 0) (ks2 := 0) (k := 14) (As := []) (rest := []) hC dX11_draw_17 rfl hm2 (fun _ _ h => T_X3_forget b _ m2  h) mlX11_99 vlX3_forget rfl (by decide) rfl rfl (Nat.le_of_ble_eq_true rfl) (by decide) (by decide) rfl rfl hF (fun r4 m5 hr4 hm5 hF => ?_)
    refine x_aload_n hC dX11_draw_20 rfl 0 rfl ?_
    refine x_getR (t := 9) hC dX11_draw_21 rfl flX11_26 rfl (by decide) rfl rfl ?_
    refine x_iload_n hC dX11_draw_24 rfl 1 rfl ?_
    refine x_aload_n hC dX11_draw_25 rfl 0 rfl ?_
    refine x_getR (t := 1) hC dX11_draw_26 rfl flX11_10 rfl (by decide) rfl rfl ?_
    refine x_callV1 (kc2 := 0) (ks2 := 0) (k := 9) (As := [iV a1, .ref (b.1 + 1)]) (rest := []) hC dX11_draw_29 rfl hm5 (fun _ _ h => T_X9_goOn b _ m5 a1 ha1 h) mlX11_275 vlX9_goOn rfl (by decide) rfl rfl (Nat.le_of_ble_eq_true rfl) (by decide) (by decide) rfl rfl hF (fun r6 m7 hr6 hm7 hF => ?_)
    exact x_ireturn hC dX11_draw_32 hm7 hr6 hF
  · refine x_iconst hC dX11_draw_11 rfl ?_
    exact x_ireturn hC dX11_draw_12 hm2 (rgc (-1) rfl) hF
set_option maxRecDepth 20000 in
set_option maxHeartbeats 4000000 in
theorem T_X11_keep (b : Bs) (o : Mm) (m : Mm) {r : Int} {m' : Mm} (h : F_X11_keep  m = some (r, m')) : Cn yX11_keep cX11_keep 1 (some .int) (2) 0 0 1 b (true, o) m [.ref (b.1 + 0)] (F_X11_keep  m) := by
  refine Cn_of rfl (Nat.le_of_ble_eq_true rfl) (fun g hC hm => ?_)
  have hF := okR_some h
  generalize hQ : (fun (r : Int) (m' : Mm) => F_X11_keep  m = some (r, m')) = Q at hF ⊢
  clear hQ h
  replace hC : Cok g b RX11 cX11_keep 1 2 (some .int) := hC
  refine x_lv (lv' := [(0, .ref (b.1 + 0))]) rfl ?_
  unfold F_X11_keep at hF
  refine x_aload_n hC dX11_keep_0 rfl 0 rfl ?_
  refine x_getR (t := 9) hC dX11_keep_1 rfl flX11_26 rfl (by decide) rfl rfl ?_
  refine x_callV0 (kc2 := 0) (ks2 := 0) (k := 9) (As := []) (rest := []) hC dX11_keep_4 rfl hm (fun _ _ h => T_X9_store b _ m  h) mlX11_278 vlX9_store rfl (by decide) rfl rfl (Nat.le_of_ble_eq_true rfl) (by decide) (by decide) rfl rfl hF (fun r1 m2 hr1 hm2 hF => ?_)
  refine x_aload_n hC dX11_keep_7 rfl 0 rfl ?_
  refine x_getR (t := 9) hC dX11_keep_8 rfl flX11_26 rfl (by decide) rfl rfl ?_
  refine x_getI hC dX11_keep_11 rfl flX11_130 rfl (by decide) rfl rfl ?_
  exact x_ireturn hC dX11_keep_14 hm2 (hm2.i 9 4 rfl) hF
set_option maxRecDepth 20000 in
set_option maxHeartbeats 4000000 in
theorem T_X11_undo (b : Bs) (o : Mm) (m : Mm) {r : Int} {m' : Mm} (h : F_X11_undo  m = some (r, m')) : Cn yX11_undo cX11_undo 1 (some .boolean) (2) 0 0 3 b (true, o) m [.ref (b.1 + 0)] (F_X11_undo  m) := by
  refine Cn_of rfl (Nat.le_of_ble_eq_true rfl) (fun g hC hm => ?_)
  have hF := okR_some h
  generalize hQ : (fun (r : Int) (m' : Mm) => F_X11_undo  m = some (r, m')) = Q at hF ⊢
  clear hQ h
  replace hC : Cok g b RX11 cX11_undo 1 2 (some .boolean) := hC
  refine x_lv (lv' := [(0, .ref (b.1 + 0))]) rfl ?_
  unfold F_X11_undo at hF
  refine x_aload_n hC dX11_undo_0 rfl 0 rfl ?_
  refine x_getR (t := 14) hC dX11_undo_1 rfl flX11_35 rfl (by decide) rfl rfl ?_
  refine x_callV0 (kc2 := 0) (ks2 := 0) (k := 14) (As := []) (rest := []) hC dX11_undo_4 rfl hm (fun _ _ h => T_X3_forget b _ m  h) mlX11_99 vlX3_forget rfl (by decide) rfl rfl (Nat.le_of_ble_eq_true rfl) (by decide) (by decide) rfl rfl hF (fun r1 m2 hr1 hm2 hF => ?_)
  refine x_aload_n hC dX11_undo_7 rfl 0 rfl ?_
  refine x_getR (t := 9) hC dX11_undo_8 rfl flX11_26 rfl (by decide) rfl rfl ?_
  refine x_callV3 (kc2 := 0) (ks2 := 0) (k := 9) (As := []) (rest := []) hC dX11_undo_11 rfl hm2 (fun _ _ h => T_X9_restore b _ m2  h) mlX11_281 vlX9_restore rfl (by decide) rfl rfl (Nat.le_of_ble_eq_true rfl) (by decide) (by decide) rfl rfl hF (fun r3 m4 hr3 hm4 hF => ?_)
  exact x_zreturn hC dX11_undo_14 hm4 hr3 hF
set_option maxRecDepth 20000 in
set_option maxHeartbeats 4000000 in
theorem T_X11_quiet (b : Bs) (o : Mm) (m : Mm) {r : Int} {m' : Mm} (h : F_X11_quiet  m = some (r, m')) : Cn yX11_quiet cX11_quiet 2 (some .int) (1) 0 0 1 b (true, o) m [.ref (b.1 + 0)] (F_X11_quiet  m) := by
  refine Cn_of rfl (Nat.le_of_ble_eq_true rfl) (fun g hC hm => ?_)
  have hF := okR_some h
  generalize hQ : (fun (r : Int) (m' : Mm) => F_X11_quiet  m = some (r, m')) = Q at hF ⊢
  clear hQ h
  replace hC : Cok g b RX11 cX11_quiet 2 1 (some .int) := hC
  refine x_lv (lv' := [(0, .ref (b.1 + 0))]) rfl ?_
  unfold F_X11_quiet at hF
  refine x_aload_n hC dX11_quiet_0 rfl 0 rfl ?_
  refine x_getR (t := 9) hC dX11_quiet_1 rfl flX11_26 rfl (by decide) rfl rfl ?_
  refine x_getI hC dX11_quiet_4 rfl flX11_130 rfl (by decide) rfl rfl ?_
  refine x_istore_n (lv' := [(0, .ref (b.1 + 0))]) hC dX11_quiet_7 rfl rfl (by decide) rfl (hm.i 9 4 rfl) hF (fun x1 hx1 hF => ?_)
  refine x_aload_n hC dX11_quiet_8 rfl 1 rfl ?_
  refine x_getR (t := 9) hC dX11_quiet_9 rfl flX11_26 rfl (by decide) rfl rfl ?_
  refine x_iconst hC dX11_quiet_12 rfl ?_
  refine x_putI hC dX11_quiet_13 rfl fpX11_130 rfl (by decide) (by decide) rfl rfl hm (rgc 0 rfl) rfl hF (fun m2 hm2 hF => ?_)
  refine x_aload_n hC dX11_quiet_16 rfl 1 rfl ?_
  refine x_getR (t := 14) hC dX11_quiet_17 rfl flX11_35 rfl (by decide) rfl rfl ?_
  refine x_callV0 (kc2 := 0) (ks2 := 0) (k := 14) (As := []) (rest := []) hC dX11_quiet_20 rfl hm2 (fun _ _ h => T_X3_forget b _ m2  h) mlX11_99 vlX3_forget rfl (by decide) rfl rfl (Nat.le_of_ble_eq_true rfl) (by decide) (by decide) rfl rfl hF (fun r3 m4 hr3 hm4 hF => ?_)
  refine x_iload_n hC dX11_quiet_23 rfl 0 rfl ?_
  exact x_ireturn hC dX11_quiet_24 hm4 hx1 hF
set_option maxRecDepth 20000 in
set_option maxHeartbeats 4000000 in
theorem T_X11_said (b : Bs) (o : Mm) (m : Mm) (a1 : Int) (ha1 : inR a1) (a2 : Int) (ha2 : inR a2) {r : Int} {m' : Mm} (h : F_X11_said a1 a2 m = some (r, m')) : Cn yX11_said cX11_said 3 (some .int) (5) 0 0 1 b (true, o) m [.ref (b.1 + 0), iV a1, iV a2] (F_X11_said a1 a2 m) := by
  refine Cn_of rfl (Nat.le_of_ble_eq_true rfl) (fun g hC hm => ?_)
  have hF := okR_some h
  generalize hQ : (fun (r : Int) (m' : Mm) => F_X11_said a1 a2 m = some (r, m')) = Q at hF ⊢
  clear hQ h
  replace hC : Cok g b RX11 cX11_said 3 5 (some .int) := hC
  refine x_lv (lv' := [(0, .ref (b.1 + 0)), (1, iV a1), (2, iV a2)]) rfl ?_
  unfold F_X11_said at hF
  refine x_iload_n hC dX11_said_0 rfl 1 rfl ?_
  refine x_iconst hC dX11_said_1 rfl ?_
  refine x_aload_n hC dX11_said_2 rfl 0 rfl ?_
  refine x_getR (t := 9) hC dX11_said_3 rfl flX11_26 rfl (by decide) rfl rfl ?_
  refine x_getI hC dX11_said_6 rfl flX11_130 rfl (by decide) rfl rfl ?_
  refine x_iconst hC dX11_said_9 rfl ?_
  refine x_isub hC dX11_said_10 rfl ?_
  refine x_callS3 (kc2 := 0) (ks2 := 0) (As := [iV a1, iV 0, iV (wr ((m 9 4) - 1))]) (rest := []) hC dX11_said_11 rfl hm (fun _ _ h => T_X11_within b _ m a1 ha1 0 (rgc 0 rfl) (wr ((m 9 4) - 1)) (rg_wr _) h) mlX11_84 vsX11_within rfl rfl (Nat.le_of_ble_eq_true rfl) (by decide) (by decide) rfl rfl hF (fun r1 m2 hr1 hm2 hF => ?_)
  refine x_if_ne (tgt := 19) hC dX11_said_14 rfl rfl (rg_01 hr1) hF (fun hq3 hF => ?_) (fun hq3 hF => ?_)
  · refine x_iload_n hC dX11_said_19 rfl 2 rfl ?_
    refine x_tab1 (v := 0) (off := 28) (tgt := 48) hC dX11_said_20 (by decide) rfl ha2 hF (fun hq4 hF => ?_) (fun hq4 hF => ?_)
    · refine x_aload_n hC dX11_said_48 rfl 0 rfl ?_
      refine x_getR (t := 9) hC dX11_said_49 rfl flX11_26 rfl (by decide) rfl rfl ?_
      refine x_iload_n hC dX11_said_52 rfl 1 rfl ?_
      refine x_callV1 (kc2 := 0) (ks2 := 0) (k := 9) (As := [iV a1]) (rest := []) hC dX11_said_53 rfl hm2 (fun _ _ h => T_X9_whoOf b _ m2 a1 ha1 h) mlX11_284 vlX9_whoOf rfl (by decide) rfl rfl (Nat.le_of_ble_eq_true rfl) (by decide) (by decide) rfl rfl hF (fun r5 m6 hr5 hm6 hF => ?_)
      exact x_ireturn hC dX11_said_56 hm6 hr5 hF
    refine x_tab1 (v := 1) (off := 37) (tgt := 57) hC dX11_said_20 (by decide) rfl ha2 hF (fun hq7 hF => ?_) (fun hq7 hF => ?_)
    · refine x_aload_n hC dX11_said_57 rfl 0 rfl ?_
      refine x_getR (t := 9) hC dX11_said_58 rfl flX11_26 rfl (by decide) rfl rfl ?_
      refine x_iload_n hC dX11_said_61 rfl 1 rfl ?_
      refine x_callV1 (kc2 := 0) (ks2 := 0) (k := 9) (As := [iV a1]) (rest := []) hC dX11_said_62 rfl hm2 (fun _ _ h => T_X9_breathOf b _ m2 a1 ha1 h) mlX11_285 vlX9_breathOf rfl (by decide) rfl rfl (Nat.le_of_ble_eq_true rfl) (by decide) (by decide) rfl rfl hF (fun r8 m9 hr8 hm9 hF => ?_)
      exact x_ireturn hC dX11_said_65 hm9 hr8 hF
    refine x_tab1 (v := 2) (off := 46) (tgt := 66) hC dX11_said_20 (by decide) rfl ha2 hF (fun hq10 hF => ?_) (fun hq10 hF => ?_)
    · refine x_aload_n hC dX11_said_66 rfl 0 rfl ?_
      refine x_getR (t := 14) hC dX11_said_67 rfl flX11_35 rfl (by decide) rfl rfl ?_
      refine x_iload_n hC dX11_said_70 rfl 1 rfl ?_
      refine x_callV1 (kc2 := 0) (ks2 := 0) (k := 14) (As := [iV a1]) (rest := []) hC dX11_said_71 rfl hm2 (fun _ _ h => T_X3_earsOf b _ m2 a1 ha1 h) mlX11_286 vlX3_earsOf rfl (by decide) rfl rfl (Nat.le_of_ble_eq_true rfl) (by decide) (by decide) rfl rfl hF (fun r11 m12 hr11 hm12 hF => ?_)
      exact x_ireturn hC dX11_said_74 hm12 hr11 hF
    refine x_tabD (tgt := 75) [0, 1, 2] hC dX11_said_20 rfl ha2 rfl (List.forall_mem_cons.mpr ⟨hq4, (List.forall_mem_cons.mpr ⟨hq7, (List.forall_mem_cons.mpr ⟨hq10, (fun _ h => absurd h List.not_mem_nil)⟩)⟩)⟩) ?_
    refine x_iconst hC dX11_said_75 rfl ?_
    exact x_ireturn hC dX11_said_76 hm2 (rgc (-1) rfl) hF
  · refine x_iconst hC dX11_said_17 rfl ?_
    exact x_ireturn hC dX11_said_18 hm2 (rgc (-1) rfl) hF
set_option maxRecDepth 20000 in
set_option maxHeartbeats 4000000 in
theorem WL_X11_firstWrong_2 {g : Gx} {b : Bs} {o : Mm} {Q : Int → Mm → Prop} (hC : Cok g b RX11 cX11_firstWrong 4 5 (some .int)) : ∀ n : Nat, ∀ v1 : Int, inR v1 → ∀ v2 : Int, inR v2 → ∀ v3 : Int, inR v3 → ∀ m : Mm, Rg m → okR (L_X11_firstWrong_2 n v1 v2 v3 m) Q → X g b (true, o) 4 (ZM g b (true, o) 1 Q) 2 [(0, .ref (b.1 + 0)), (1, iV v1), (2, iV v2), (3, iV v3)] [] m 0 0 := by
  intro n
  induction n with
  | zero => intro v1 hv1 v2 hv2 v3 hv3 m hm hF; exact absurd hF (fun z => z)
  | succ n ih =>
    intro v1 hv1 v2 hv2 v3 hv3 m hm hF
    have hF : okR (LB_X11_firstWrong_2 (L_X11_firstWrong_2 n) v1 v2 v3 m) Q := hF
    unfold LB_X11_firstWrong_2 at hF
    refine x_iload_n hC dX11_firstWrong_2 rfl 3 rfl ?_
    refine x_iload_n hC dX11_firstWrong_3 rfl 2 rfl ?_
    refine x_icmp_ge (tgt := 43) hC dX11_firstWrong_4 rfl rfl hv3 hv2 hF (fun hq1 hF => ?_) (fun hq1 hF => ?_)
    · refine x_aload_n hC dX11_firstWrong_43 rfl 0 rfl ?_
      refine x_getR (t := 14) hC dX11_firstWrong_44 rfl flX11_35 rfl (by decide) rfl rfl ?_
      refine x_getI hC dX11_firstWrong_47 rfl flX11_137 rfl (by decide) rfl rfl ?_
      refine x_iload_n hC dX11_firstWrong_50 rfl 2 rfl ?_
      refine x_icmp_le (tgt := 58) hC dX11_firstWrong_51 rfl rfl (hm.i 14 4 rfl) hv2 hF (fun hq2 hF => ?_) (fun hq2 hF => ?_)
      · refine x_iconst hC dX11_firstWrong_58 rfl ?_
        exact x_ireturn hC dX11_firstWrong_59 hm (rgc (-1) rfl) hF
      · refine x_iload_n hC dX11_firstWrong_54 rfl 2 rfl ?_
        refine x_goto (tgt := 59) hC dX11_firstWrong_55 rfl ?_
        exact x_ireturn hC dX11_firstWrong_59 hm hv2 hF
    · refine x_iload_n hC dX11_firstWrong_7 rfl 3 rfl ?_
      refine x_aload_n hC dX11_firstWrong_8 rfl 0 rfl ?_
      refine x_getR (t := 14) hC dX11_firstWrong_9 rfl flX11_35 rfl (by decide) rfl rfl ?_
      refine x_getI hC dX11_firstWrong_12 rfl flX11_137 rfl (by decide) rfl rfl ?_
      refine x_icmp_ge (tgt := 35) hC dX11_firstWrong_15 rfl rfl hv3 (hm.i 14 4 rfl) hF (fun hq3 hF => ?_) (fun hq3 hF => ?_)
      · refine x_iload_n hC dX11_firstWrong_35 rfl 3 rfl ?_
        exact x_ireturn hC dX11_firstWrong_36 hm hv3 hF
      · refine x_aload_n hC dX11_firstWrong_18 rfl 0 rfl ?_
        refine x_getR (t := 7) hC dX11_firstWrong_19 rfl flX11_19 rfl (by decide) rfl rfl ?_
        refine x_iload_n hC dX11_firstWrong_22 rfl 3 rfl ?_
        refine x_callV1 (kc2 := 0) (ks2 := 0) (k := 7) (As := [iV v3]) (rest := []) hC dX11_firstWrong_23 rfl hm (fun _ _ h => T_X10_numberAt b _ m v3 hv3 h) mlX11_307 vlX10_numberAt rfl (by decide) rfl rfl (Nat.le_of_ble_eq_true rfl) (by decide) (by decide) rfl rfl hF (fun r4 m5 hr4 hm5 hF => ?_)
        refine x_aload_n hC dX11_firstWrong_26 rfl 0 rfl ?_
        refine x_iload_n hC dX11_firstWrong_27 rfl 1 rfl ?_
        refine x_iload_n hC dX11_firstWrong_28 rfl 3 rfl ?_
        refine x_callV1 (kc2 := 0) (ks2 := 0) (k := 0) (As := [iV v1, iV v3]) (rest := [iV r4]) hC dX11_firstWrong_29 rfl hm5 (fun _ _ h => T_X11_meaningOf b _ m5 v1 hv1 v3 hv3 h) mlX11_148 vlX11_meaningOf rfl (by decide) rfl rfl (Nat.le_of_ble_eq_true rfl) (by decide) (by decide) rfl rfl hF (fun r6 m7 hr6 hm7 hF => ?_)
        refine x_icmp_eq (tgt := 37) hC dX11_firstWrong_32 rfl rfl hr4 hr6 hF (fun hq8 hF => ?_) (fun hq8 hF => ?_)
        · refine x_iinc (p := 3) (lv' := [(0, .ref (b.1 + 0)), (1, iV v1), (2, iV v2)]) hC dX11_firstWrong_37 rfl rfl (by decide) rfl hF (fun x9 hx9 hF => ?_)
          refine x_goto (tgt := 2) hC dX11_firstWrong_40 rfl ?_
          refine x_sub [1, 2, 3, 0] rfl ?_
          exact ih v1 hv1 v2 hv2 x9 hx9 m7 hm7 hF
        · refine x_iload_n hC dX11_firstWrong_35 rfl 3 rfl ?_
          exact x_ireturn hC dX11_firstWrong_36 hm7 hv3 hF
set_option maxRecDepth 20000 in
set_option maxHeartbeats 4000000 in
theorem T_X11_firstWrong (b : Bs) (o : Mm) (m : Mm) (a1 : Int) (ha1 : inR a1) (a2 : Int) (ha2 : inR a2) {r : Int} {m' : Mm} (h : F_X11_firstWrong a1 a2 m = some (r, m')) : Cn yX11_firstWrong cX11_firstWrong 4 (some .int) (5) 0 0 1 b (true, o) m [.ref (b.1 + 0), iV a1, iV a2] (F_X11_firstWrong a1 a2 m) := by
  refine Cn_of rfl (Nat.le_of_ble_eq_true rfl) (fun g hC hm => ?_)
  have hF := okR_some h
  generalize hQ : (fun (r : Int) (m' : Mm) => F_X11_firstWrong a1 a2 m = some (r, m')) = Q at hF ⊢
  clear hQ h
  replace hC : Cok g b RX11 cX11_firstWrong 4 5 (some .int) := hC
  refine x_lv (lv' := [(0, .ref (b.1 + 0)), (1, iV a1), (2, iV a2)]) rfl ?_
  unfold F_X11_firstWrong at hF
  refine x_iconst hC dX11_firstWrong_0 rfl ?_
  refine x_istore_nZ (lv' := [(0, .ref (b.1 + 0)), (1, iV a1), (2, iV a2)]) hC dX11_firstWrong_1 rfl rfl (by decide) rfl (Or.inl rfl) hF (fun x1 hx1 hF => ?_)
  refine x_sub [1, 2, 3, 0] rfl ?_
  exact WL_X11_firstWrong_2 hC 100000  a1 ha1 a2 ha2 x1 (rg_01 hx1) m hm hF
set_option maxRecDepth 20000 in
set_option maxHeartbeats 4000000 in
theorem T_X11_check (b : Bs) (o : Mm) (m : Mm) (a1 : Int) (ha1 : inR a1) (a2 : Int) (ha2 : inR a2) {r : Int} {m' : Mm} (h : F_X11_check a1 a2 m = some (r, m')) : Cn yX11_check cX11_check 4 (some .int) (6) 0 0 1 b (true, o) m [.ref (b.1 + 0), iV a1, iV a2] (F_X11_check a1 a2 m) := by
  refine Cn_of rfl (Nat.le_of_ble_eq_true rfl) (fun g hC hm => ?_)
  have hF := okR_some h
  generalize hQ : (fun (r : Int) (m' : Mm) => F_X11_check a1 a2 m = some (r, m')) = Q at hF ⊢
  clear hQ h
  replace hC : Cok g b RX11 cX11_check 4 6 (some .int) := hC
  refine x_lv (lv' := [(0, .ref (b.1 + 0)), (1, iV a1), (2, iV a2)]) rfl ?_
  unfold F_X11_check at hF
  refine x_aload_n hC dX11_check_0 rfl 0 rfl ?_
  refine x_getR (t := 1) hC dX11_check_1 rfl flX11_10 rfl (by decide) rfl rfl ?_
  refine x_iload_n hC dX11_check_4 rfl 1 rfl ?_
  refine x_callV3 (kc2 := 0) (ks2 := 0) (k := 1) (As := [iV a1]) (rest := []) hC dX11_check_5 rfl hm (fun _ _ h => T_X4_has b _ m a1 ha1 h) mlX11_121 vlX4_has rfl (by decide) rfl rfl (Nat.le_of_ble_eq_true rfl) (by decide) (by decide) rfl rfl hF (fun r1 m2 hr1 hm2 hF => ?_)
  refine x_if_eq (tgt := 34) hC dX11_check_8 rfl rfl (rg_01 hr1) hF (fun hq3 hF => ?_) (fun hq3 hF => ?_)
  · refine x_bipush hC dX11_check_34 rfl rfl ?_
    exact x_ireturn hC dX11_check_36 hm2 (rgc (-2) rfl) hF
  · refine x_iload_n hC dX11_check_11 rfl 2 rfl ?_
    refine x_iconst hC dX11_check_12 rfl ?_
    refine x_bipush hC dX11_check_13 rfl rfl ?_
    refine x_callS3 (kc2 := 0) (ks2 := 0) (As := [iV a2, iV 0, iV 55]) (rest := []) hC dX11_check_15 rfl hm2 (fun _ _ h => T_X11_within b _ m2 a2 ha2 0 (rgc 0 rfl) 55 (rgc 55 rfl) h) mlX11_84 vsX11_within rfl rfl (Nat.le_of_ble_eq_true rfl) (by decide) (by decide) rfl rfl hF (fun r4 m5 hr4 hm5 hF => ?_)
    refine x_if_eq (tgt := 34) hC dX11_check_18 rfl rfl (rg_01 hr4) hF (fun hq6 hF => ?_) (fun hq6 hF => ?_)
    · refine x_bipush hC dX11_check_34 rfl rfl ?_
      exact x_ireturn hC dX11_check_36 hm5 (rgc (-2) rfl) hF
    · refine x_aload_n hC dX11_check_21 rfl 0 rfl ?_
      refine x_getR (t := 7) hC dX11_check_22 rfl flX11_19 rfl (by decide) rfl rfl ?_
      refine x_iconst hC dX11_check_25 rfl ?_
      refine x_iload_n hC dX11_check_26 rfl 2 rfl ?_
      refine x_imul hC dX11_check_27 rfl ?_
      refine x_callV3 (kc2 := 0) (ks2 := 0) (k := 7) (As := [iV (wr (4 * a2))]) (rest := []) hC dX11_check_28 rfl hm5 (fun _ _ h => T_X10_has b _ m5 (wr (4 * a2)) (rg_wr _) h) mlX11_106 vlX10_has rfl (by decide) rfl rfl (Nat.le_of_ble_eq_true rfl) (by decide) (by decide) rfl rfl hF (fun r7 m8 hr7 hm8 hF => ?_)
      refine x_if_ne (tgt := 37) hC dX11_check_31 rfl rfl (rg_01 hr7) hF (fun hq9 hF => ?_) (fun hq9 hF => ?_)
      · refine x_aload_n hC dX11_check_37 rfl 0 rfl ?_
        refine x_getR (t := 14) hC dX11_check_38 rfl flX11_35 rfl (by decide) rfl rfl ?_
        refine x_iload_n hC dX11_check_41 rfl 1 rfl ?_
        refine x_callV0 (kc2 := 0) (ks2 := 0) (k := 14) (As := [iV a1]) (rest := []) hC dX11_check_42 rfl hm8 (fun _ _ h => T_X3_listen b _ m8 a1 ha1 h) mlX11_133 vlX3_listen rfl (by decide) rfl rfl (Nat.le_of_ble_eq_true rfl) (by decide) (by decide) rfl rfl hF (fun r10 m11 hr10 hm11 hF => ?_)
        refine x_aload_n hC dX11_check_45 rfl 0 rfl ?_
        refine x_iload_n hC dX11_check_46 rfl 1 rfl ?_
        refine x_iload_n hC dX11_check_47 rfl 2 rfl ?_
        refine x_callV1 (kc2 := 0) (ks2 := 0) (k := 0) (As := [iV a1, iV a2]) (rest := []) hC dX11_check_48 rfl hm11 (fun _ _ h => T_X11_firstWrong b _ m11 a1 ha1 a2 ha2 h) mlX11_289 vlX11_firstWrong rfl (by decide) rfl rfl (Nat.le_of_ble_eq_true rfl) (by decide) (by decide) rfl rfl hF (fun r12 m13 hr12 hm13 hF => ?_)
        refine x_istore_n (lv' := [(0, .ref (b.1 + 0)), (1, iV a1), (2, iV a2)]) hC dX11_check_51 rfl rfl (by decide) rfl hr12 hF (fun x14 hx14 hF => ?_)
        refine x_aload_n hC dX11_check_52 rfl 1 rfl ?_
        refine x_getR (t := 7) hC dX11_check_53 rfl flX11_19 rfl (by decide) rfl rfl ?_
        refine x_callV0 (kc2 := 0) (ks2 := 0) (k := 7) (As := []) (rest := []) hC dX11_check_56 rfl hm13 (fun _ _ h => T_X10_empty b _ m13  h) mlX11_114 vlX10_empty rfl (by decide) rfl rfl (Nat.le_of_ble_eq_true rfl) (by decide) (by decide) rfl rfl hF (fun r15 m16 hr15 hm16 hF => ?_)
        refine x_iload_n hC dX11_check_59 rfl 0 rfl ?_
        exact x_ireturn hC dX11_check_60 hm16 hx14 hF
      · refine x_bipush hC dX11_check_34 rfl rfl ?_
        exact x_ireturn hC dX11_check_36 hm8 (rgc (-2) rfl) hF
set_option maxRecDepth 20000 in
set_option maxHeartbeats 4000000 in
theorem T_X11_countWords (b : Bs) (o : Mm) (m : Mm) (a1 : Int) (ha1 : inR a1) {r : Int} {m' : Mm} (h : F_X11_countWords a1 m = some (r, m')) : Cn yX11_countWords cX11_countWords 4 (some .int) (3) 0 0 1 b (true, o) m [.ref (b.1 + 0), iV a1] (F_X11_countWords a1 m) := by
  refine Cn_of rfl (Nat.le_of_ble_eq_true rfl) (fun g hC hm => ?_)
  have hF := okR_some h
  generalize hQ : (fun (r : Int) (m' : Mm) => F_X11_countWords a1 m = some (r, m')) = Q at hF ⊢
  clear hQ h
  replace hC : Cok g b RX11 cX11_countWords 4 3 (some .int) := hC
  refine x_lv (lv' := [(0, .ref (b.1 + 0)), (1, iV a1)]) rfl ?_
  unfold F_X11_countWords at hF
  refine x_aload_n hC dX11_countWords_0 rfl 0 rfl ?_
  refine x_getR (t := 1) hC dX11_countWords_1 rfl flX11_10 rfl (by decide) rfl rfl ?_
  refine x_iload_n hC dX11_countWords_4 rfl 1 rfl ?_
  refine x_bipush hC dX11_countWords_5 rfl rfl ?_
  refine x_isub hC dX11_countWords_7 rfl ?_
  refine x_callV3 (kc2 := 0) (ks2 := 0) (k := 1) (As := [iV (wr (a1 - 10))]) (rest := []) hC dX11_countWords_8 rfl hm (fun _ _ h => T_X4_has b _ m (wr (a1 - 10)) (rg_wr _) h) mlX11_121 vlX4_has rfl (by decide) rfl rfl (Nat.le_of_ble_eq_true rfl) (by decide) (by decide) rfl rfl hF (fun r1 m2 hr1 hm2 hF => ?_)
  refine x_if_eq (tgt := 26) hC dX11_countWords_11 rfl rfl (rg_01 hr1) hF (fun hq3 hF => ?_) (fun hq3 hF => ?_)
  · refine x_iload_n hC dX11_countWords_26 rfl 1 rfl ?_
    refine x_bipush hC dX11_countWords_27 rfl rfl ?_
    refine x_isub hC dX11_countWords_29 rfl ?_
    refine x_istore_n (lv' := [(0, .ref (b.1 + 0)), (1, iV a1)]) hC dX11_countWords_30 rfl rfl (by decide) rfl (rg_wr _) hF (fun x4 hx4 hF => ?_)
    refine x_iload_n hC dX11_countWords_31 rfl 2 rfl ?_
    refine x_bipush hC dX11_countWords_32 rfl rfl ?_
    refine x_icmp_lt (tgt := 50) hC dX11_countWords_34 rfl rfl ha1 (rgc 20 rfl) hF (fun hq5 hF => ?_) (fun hq5 hF => ?_)
    · refine x_iconst hC dX11_countWords_50 rfl ?_
      exact x_ireturn hC dX11_countWords_51 hm2 (rgc (-1) rfl) hF
    · refine x_aload_n hC dX11_countWords_37 rfl 1 rfl ?_
      refine x_getR (t := 1) hC dX11_countWords_38 rfl flX11_10 rfl (by decide) rfl rfl ?_
      refine x_iload_n hC dX11_countWords_41 rfl 0 rfl ?_
      refine x_iconst hC dX11_countWords_42 rfl ?_
      refine x_idiv hC dX11_countWords_43 rfl hx4 (rgc 4 rfl) hF (fun hz6 hF => ?_)
      refine x_callV3 (kc2 := 0) (ks2 := 0) (k := 1) (As := [iV (wr ((x4 : Int).tdiv 4))]) (rest := []) hC dX11_countWords_44 rfl hm2 (fun _ _ h => T_X4_has b _ m2 (wr ((x4 : Int).tdiv 4)) (rg_wr _) h) mlX11_121 vlX4_has rfl (by decide) rfl rfl (Nat.le_of_ble_eq_true rfl) (by decide) (by decide) rfl rfl hF (fun r7 m8 hr7 hm8 hF => ?_)
      refine x_if_ne (tgt := 52) hC dX11_countWords_47 rfl rfl (rg_01 hr7) hF (fun hq9 hF => ?_) (fun hq9 hF => ?_)
      · refine x_aload_n hC dX11_countWords_52 rfl 1 rfl ?_
        refine x_getR (t := 1) hC dX11_countWords_53 rfl flX11_10 rfl (by decide) rfl rfl ?_
        refine x_iload_n hC dX11_countWords_56 rfl 0 rfl ?_
        refine x_iconst hC dX11_countWords_57 rfl ?_
        refine x_idiv hC dX11_countWords_58 rfl hx4 (rgc 4 rfl) hF (fun hz10 hF => ?_)
        refine x_iload_n hC dX11_countWords_59 rfl 0 rfl ?_
        refine x_iconst hC dX11_countWords_60 rfl ?_
        refine x_irem hC dX11_countWords_61 rfl hx4 (rgc 4 rfl) hF (fun hz11 hF => ?_)
        refine x_callV1 (kc2 := 0) (ks2 := 0) (k := 1) (As := [iV (wr ((x4 : Int).tdiv 4)), iV (wr ((x4 : Int).tmod 4))]) (rest := []) hC dX11_countWords_62 rfl hm8 (fun _ _ h => T_X4_wordOf b _ m8 (wr ((x4 : Int).tdiv 4)) (rg_wr _) (wr ((x4 : Int).tmod 4)) (rg_wr _) h) mlX11_304 vlX4_wordOf rfl (by decide) rfl rfl (Nat.le_of_ble_eq_true rfl) (by decide) (by decide) rfl rfl hF (fun r12 m13 hr12 hm13 hF => ?_)
        refine x_istore_n (lv' := [(2, iV x4), (0, .ref (b.1 + 0)), (1, iV a1)]) hC dX11_countWords_65 rfl rfl (by decide) rfl hr12 hF (fun x14 hx14 hF => ?_)
        refine x_iload_n hC dX11_countWords_66 rfl 0 rfl ?_
        refine x_if_ne (tgt := 74) hC dX11_countWords_67 rfl rfl hx14 hF (fun hq15 hF => ?_) (fun hq15 hF => ?_)
        · refine x_iload_n hC dX11_countWords_74 rfl 0 rfl ?_
          exact x_ireturn hC dX11_countWords_75 hm13 hx14 hF
        · refine x_iconst hC dX11_countWords_70 rfl ?_
          refine x_goto (tgt := 75) hC dX11_countWords_71 rfl ?_
          exact x_ireturn hC dX11_countWords_75 hm13 (rgc (-1) rfl) hF
      · refine x_iconst hC dX11_countWords_50 rfl ?_
        exact x_ireturn hC dX11_countWords_51 hm8 (rgc (-1) rfl) hF
  · refine x_aload_n hC dX11_countWords_14 rfl 0 rfl ?_
    refine x_getR (t := 1) hC dX11_countWords_15 rfl flX11_10 rfl (by decide) rfl rfl ?_
    refine x_iload_n hC dX11_countWords_18 rfl 1 rfl ?_
    refine x_bipush hC dX11_countWords_19 rfl rfl ?_
    refine x_isub hC dX11_countWords_21 rfl ?_
    refine x_callV1 (kc2 := 0) (ks2 := 0) (k := 1) (As := [iV (wr (a1 - 10))]) (rest := []) hC dX11_countWords_22 rfl hm2 (fun _ _ h => T_X4_wordsBy b _ m2 (wr (a1 - 10)) (rg_wr _) h) mlX11_301 vlX4_wordsBy rfl (by decide) rfl rfl (Nat.le_of_ble_eq_true rfl) (by decide) (by decide) rfl rfl hF (fun r16 m17 hr16 hm17 hF => ?_)
    exact x_ireturn hC dX11_countWords_25 hm17 hr16 hF
set_option maxRecDepth 20000 in
set_option maxHeartbeats 4000000 in
theorem T_X11_count (b : Bs) (o : Mm) (m : Mm) (a1 : Int) (ha1 : inR a1) {r : Int} {m' : Mm} (h : F_X11_count a1 m = some (r, m')) : Cn yX11_count cX11_count 2 (some .int) (4) 0 0 1 b (true, o) m [.ref (b.1 + 0), iV a1] (F_X11_count a1 m) := by
  refine Cn_of rfl (Nat.le_of_ble_eq_true rfl) (fun g hC hm => ?_)
  have hF := okR_some h
  generalize hQ : (fun (r : Int) (m' : Mm) => F_X11_count a1 m = some (r, m')) = Q at hF ⊢
  clear hQ h
  replace hC : Cok g b RX11 cX11_count 2 4 (some .int) := hC
  refine x_lv (lv' := [(0, .ref (b.1 + 0)), (1, iV a1)]) rfl ?_
  unfold F_X11_count at hF
  refine x_iload_n hC dX11_count_0 rfl 1 rfl ?_
  refine x_tab1 (v := 0) (off := 43) (tgt := 44) hC dX11_count_1 (by decide) rfl ha1 hF (fun hq1 hF => ?_) (fun hq1 hF => ?_)
  · refine x_aload_n hC dX11_count_44 rfl 0 rfl ?_
    refine x_getR (t := 1) hC dX11_count_45 rfl flX11_10 rfl (by decide) rfl rfl ?_
    refine x_getI hC dX11_count_48 rfl flX11_292 rfl (by decide) rfl rfl ?_
    exact x_ireturn hC dX11_count_51 hm (hm.i 1 5 rfl) hF
  refine x_tab1 (v := 1) (off := 51) (tgt := 52) hC dX11_count_1 (by decide) rfl ha1 hF (fun hq2 hF => ?_) (fun hq2 hF => ?_)
  · refine x_aload_n hC dX11_count_52 rfl 0 rfl ?_
    refine x_getR (t := 9) hC dX11_count_53 rfl flX11_26 rfl (by decide) rfl rfl ?_
    refine x_getI hC dX11_count_56 rfl flX11_130 rfl (by decide) rfl rfl ?_
    exact x_ireturn hC dX11_count_59 hm (hm.i 9 4 rfl) hF
  refine x_tab1 (v := 2) (off := 59) (tgt := 60) hC dX11_count_1 (by decide) rfl ha1 hF (fun hq3 hF => ?_) (fun hq3 hF => ?_)
  · refine x_aload_n hC dX11_count_60 rfl 0 rfl ?_
    refine x_getR (t := 17) hC dX11_count_61 rfl flX11_44 rfl (by decide) rfl rfl ?_
    refine x_callV1 (kc2 := 0) (ks2 := 0) (k := 17) (As := []) (rest := []) hC dX11_count_64 rfl hm (fun _ _ h => T_X7_clauses b _ m  h) mlX11_293 vlX7_clauses rfl (by decide) rfl rfl (Nat.le_of_ble_eq_true rfl) (by decide) (by decide) rfl rfl hF (fun r4 m5 hr4 hm5 hF => ?_)
    exact x_ireturn hC dX11_count_67 hm5 hr4 hF
  refine x_tab1 (v := 3) (off := 67) (tgt := 68) hC dX11_count_1 (by decide) rfl ha1 hF (fun hq6 hF => ?_) (fun hq6 hF => ?_)
  · refine x_aload_n hC dX11_count_68 rfl 0 rfl ?_
    refine x_getR (t := 7) hC dX11_count_69 rfl flX11_19 rfl (by decide) rfl rfl ?_
    refine x_getI hC dX11_count_72 rfl flX11_297 rfl (by decide) rfl rfl ?_
    exact x_ireturn hC dX11_count_75 hm (hm.i 7 1 rfl) hF
  refine x_tab1 (v := 4) (off := 75) (tgt := 76) hC dX11_count_1 (by decide) rfl ha1 hF (fun hq7 hF => ?_) (fun hq7 hF => ?_)
  · refine x_aload_n hC dX11_count_76 rfl 0 rfl ?_
    refine x_getR (t := 9) hC dX11_count_77 rfl flX11_26 rfl (by decide) rfl rfl ?_
    refine x_getI hC dX11_count_80 rfl flX11_272 rfl (by decide) rfl rfl ?_
    exact x_ireturn hC dX11_count_83 hm (hm.i 9 5 rfl) hF
  refine x_tab1 (v := 5) (off := 83) (tgt := 84) hC dX11_count_1 (by decide) rfl ha1 hF (fun hq8 hF => ?_) (fun hq8 hF => ?_)
  · refine x_aload_n hC dX11_count_84 rfl 0 rfl ?_
    refine x_getR (t := 1) hC dX11_count_85 rfl flX11_10 rfl (by decide) rfl rfl ?_
    refine x_getI hC dX11_count_88 rfl flX11_92 rfl (by decide) rfl rfl ?_
    exact x_ireturn hC dX11_count_91 hm (hm.i 1 6 rfl) hF
  refine x_tab1 (v := 6) (off := 91) (tgt := 92) hC dX11_count_1 (by decide) rfl ha1 hF (fun hq9 hF => ?_) (fun hq9 hF => ?_)
  · refine x_aload_n hC dX11_count_92 rfl 0 rfl ?_
    refine x_getR (t := 1) hC dX11_count_93 rfl flX11_10 rfl (by decide) rfl rfl ?_
    refine x_getI hC dX11_count_96 rfl flX11_96 rfl (by decide) rfl rfl ?_
    exact x_ireturn hC dX11_count_99 hm (hm.i 1 7 rfl) hF
  refine x_tabD (tgt := 100) [0, 1, 2, 3, 4, 5, 6] hC dX11_count_1 rfl ha1 rfl (List.forall_mem_cons.mpr ⟨hq1, (List.forall_mem_cons.mpr ⟨hq2, (List.forall_mem_cons.mpr ⟨hq3, (List.forall_mem_cons.mpr ⟨hq6, (List.forall_mem_cons.mpr ⟨hq7, (List.forall_mem_cons.mpr ⟨hq8, (List.forall_mem_cons.mpr ⟨hq9, (fun _ h => absurd h List.not_mem_nil)⟩)⟩)⟩)⟩)⟩)⟩)⟩) ?_
  refine x_aload_n hC dX11_count_100 rfl 0 rfl ?_
  refine x_iload_n hC dX11_count_101 rfl 1 rfl ?_
  refine x_callV1 (kc2 := 0) (ks2 := 0) (k := 0) (As := [iV a1]) (rest := []) hC dX11_count_102 rfl hm (fun _ _ h => T_X11_countWords b _ m a1 ha1 h) mlX11_298 vlX11_countWords rfl (by decide) rfl rfl (Nat.le_of_ble_eq_true rfl) (by decide) (by decide) rfl rfl hF (fun r10 m11 hr10 hm11 hF => ?_)
  exact x_ireturn hC dX11_count_105 hm11 hr10 hF
set_option maxRecDepth 20000 in
set_option maxHeartbeats 4000000 in
theorem T_X12_lies (b : Bs) (o : Mm) (m : Mm) (a1 : Int) (ha1 : inL a1) (a2 : Int) (ha2 : inL a2) (a3 : Int) (ha3 : inL a3) {r : Int} {m' : Mm} (h : F_X12_lies a1 a2 a3 m = some (r, m')) : Cn yX12_lies cX12_lies 6 (some .boolean) (0) 0 0 3 b (false, o) m [lV a1, lV a2, lV a3] (F_X12_lies a1 a2 a3 m) := by
  refine Cn_of rfl (Nat.le_of_ble_eq_true rfl) (fun g hC hm => ?_)
  have hF := okR_some h
  generalize hQ : (fun (r : Int) (m' : Mm) => F_X12_lies a1 a2 a3 m = some (r, m')) = Q at hF ⊢
  clear hQ h
  replace hC : Cok g b RX12 cX12_lies 6 0 (some .boolean) := hC
  refine x_lv (lv' := [(0, lV a1), (2, lV a2), (4, lV a3)]) rfl ?_
  unfold F_X12_lies at hF
  refine x_lload_n hC dX12_lies_0 rfl 0 rfl ?_
  refine x_lload_n hC dX12_lies_1 rfl 1 rfl ?_
  refine x_lcmp hC dX12_lies_2 rfl ha1 ha2 ?_
  refine x_if_lt (tgt := 17) hC dX12_lies_3 rfl rfl (rg_lcmp _ _) hF (fun hq1 hF => ?_) (fun hq1 hF => ?_)
  · refine x_iconst hC dX12_lies_17 rfl ?_
    exact x_zreturn hC dX12_lies_18 hm (Or.inl rfl) hF
  · refine x_lload_n hC dX12_lies_6 rfl 0 rfl ?_
    refine x_lload hC dX12_lies_7 rfl 2 rfl ?_
    refine x_lcmp hC dX12_lies_9 rfl ha1 ha3 ?_
    refine x_if_gt (tgt := 17) hC dX12_lies_10 rfl rfl (rg_lcmp _ _) hF (fun hq2 hF => ?_) (fun hq2 hF => ?_)
    · refine x_iconst hC dX12_lies_17 rfl ?_
      exact x_zreturn hC dX12_lies_18 hm (Or.inl rfl) hF
    · refine x_iconst hC dX12_lies_13 rfl ?_
      refine x_goto (tgt := 18) hC dX12_lies_14 rfl ?_
      exact x_zreturn hC dX12_lies_18 hm (Or.inr rfl) hF
set_option maxRecDepth 20000 in
set_option maxHeartbeats 4000000 in
theorem T_X12_has (b : Bs) (o : Mm) (m : Mm) (a1 : Int) (ha1 : inR a1) (a2 : Int) (ha2 : inR a2) {r : Int} {m' : Mm} (h : F_X12_has a1 a2 m = some (r, m')) : Cn yX12_has cX12_has 2 (some .boolean) (0) 0 0 3 b (false, o) m [iV a1, iV a2] (F_X12_has a1 a2 m) := by
  refine Cn_of rfl (Nat.le_of_ble_eq_true rfl) (fun g hC hm => ?_)
  have hF := okR_some h
  generalize hQ : (fun (r : Int) (m' : Mm) => F_X12_has a1 a2 m = some (r, m')) = Q at hF ⊢
  clear hQ h
  replace hC : Cok g b RX12 cX12_has 2 0 (some .boolean) := hC
  refine x_lv (lv' := [(0, iV a1), (1, iV a2)]) rfl ?_
  unfold F_X12_has at hF
  refine x_iload_n hC dX12_has_0 rfl 0 rfl ?_
  refine x_iload_n hC dX12_has_1 rfl 1 rfl ?_
  refine x_ishr hC dX12_has_2 rfl ?_
  refine x_iconst hC dX12_has_3 rfl ?_
  refine x_iand hC dX12_has_4 rfl ?_
  refine x_iconst hC dX12_has_5 rfl ?_
  refine x_icmp_ne (tgt := 13) hC dX12_has_6 rfl rfl (rg_tI _) (rgc 1 rfl) hF (fun hq1 hF => ?_) (fun hq1 hF => ?_)
  · refine x_iconst hC dX12_has_13 rfl ?_
    exact x_zreturn hC dX12_has_14 hm (Or.inl rfl) hF
  · refine x_iconst hC dX12_has_9 rfl ?_
    refine x_goto (tgt := 14) hC dX12_has_10 rfl ?_
    exact x_zreturn hC dX12_has_14 hm (Or.inr rfl) hF
set_option maxRecDepth 20000 in
set_option maxHeartbeats 4000000 in
theorem T_X12_isMouth (b : Bs) (o : Mm) (m : Mm) (a1 : Int) (ha1 : inR a1) {r : Int} {m' : Mm} (h : F_X12_isMouth a1 m = some (r, m')) : Cn yX12_isMouth cX12_isMouth 2 (some .boolean) (1) 0 0 3 b (false, o) m [.ref (b.1 + 54), iV a1] (F_X12_isMouth a1 m) := by
  refine Cn_of rfl (Nat.le_of_ble_eq_true rfl) (fun g hC hm => ?_)
  have hF := okR_some h
  generalize hQ : (fun (r : Int) (m' : Mm) => F_X12_isMouth a1 m = some (r, m')) = Q at hF ⊢
  clear hQ h
  replace hC : Cok g b RX12 cX12_isMouth 2 1 (some .boolean) := hC
  refine x_lv (lv' := [(0, .ref (b.1 + 54)), (1, iV a1)]) rfl ?_
  unfold F_X12_isMouth at hF
  refine x_iload_n hC dX12_isMouth_0 rfl 1 rfl ?_
  refine x_i2l hC dX12_isMouth_1 rfl ha1 ?_
  refine x_lconst (x := 0) hC dX12_isMouth_2 rfl rfl ?_
  refine x_aload_n hC dX12_isMouth_3 rfl 0 rfl ?_
  refine x_getI hC dX12_isMouth_4 rfl flX12_144 rfl (by decide) rfl rfl ?_
  refine x_iconst hC dX12_isMouth_7 rfl ?_
  refine x_isub hC dX12_isMouth_8 rfl ?_
  refine x_i2l hC dX12_isMouth_9 rfl (rg_wr _) ?_
  refine x_callS3 (kc2 := 0) (ks2 := 0) (As := [lV a1, lV 0, lV (wr ((m 54 2) - 1))]) (rest := []) hC dX12_isMouth_10 rfl hm (fun _ _ h => T_X12_lies b _ m a1 (rg_RL ha1) 0 (rgcL 0 rfl) (wr ((m 54 2) - 1)) (rg_RL (rg_wr _)) h) mlX12_147 vsX12_lies rfl rfl (Nat.le_of_ble_eq_true rfl) (by decide) (by decide) rfl rfl hF (fun r1 m2 hr1 hm2 hF => ?_)
  exact x_zreturn hC dX12_isMouth_13 hm2 hr1 hF
set_option maxRecDepth 20000 in
set_option maxHeartbeats 4000000 in
theorem T_X12_mouth (b : Bs) (o : Mm) (m : Mm) (a1 : Int) (ha1 : inR a1) (a2 : Int) (ha2 : inR a2) (a3 : Int) (ha3 : inR a3) {r : Int} {m' : Mm} (h : F_X12_mouth a1 a2 a3 m = some (r, m')) : Cn yX12_mouth cX12_mouth 4 (some .int) (1) 0 0 1 b (false, o) m [.ref (b.1 + 54), iV a1, iV a2, iV a3] (F_X12_mouth a1 a2 a3 m) := by
  refine Cn_of rfl (Nat.le_of_ble_eq_true rfl) (fun g hC hm => ?_)
  have hF := okR_some h
  generalize hQ : (fun (r : Int) (m' : Mm) => F_X12_mouth a1 a2 a3 m = some (r, m')) = Q at hF ⊢
  clear hQ h
  replace hC : Cok g b RX12 cX12_mouth 4 1 (some .int) := hC
  refine x_lv (lv' := [(0, .ref (b.1 + 54)), (1, iV a1), (2, iV a2), (3, iV a3)]) rfl ?_
  unfold F_X12_mouth at hF
  refine x_aload_n hC dX12_mouth_0 rfl 0 rfl ?_
  refine x_getI hC dX12_mouth_1 rfl flX12_144 rfl (by decide) rfl rfl ?_
  refine x_bipush hC dX12_mouth_4 rfl rfl ?_
  refine x_icmp_eq (tgt := 49) hC dX12_mouth_6 rfl rfl (hm.i 54 2 rfl) (rgc 8 rfl) hF (fun hq1 hF => ?_) (fun hq1 hF => ?_)
  · refine x_iconst hC dX12_mouth_49 rfl ?_
    exact x_ireturn hC dX12_mouth_50 hm (rgc (-1) rfl) hF
  · refine x_iload_n hC dX12_mouth_9 rfl 1 rfl ?_
    refine x_i2l hC dX12_mouth_10 rfl ha1 ?_
    refine x_ldc2 (x := (-50)) hC dX12_mouth_11 rfl kwX12_151 ?_
    refine x_ldc2 (x := 50) hC dX12_mouth_14 rfl kwX12_153 ?_
    refine x_callS3 (kc2 := 0) (ks2 := 0) (As := [lV a1, lV (-50), lV 50]) (rest := []) hC dX12_mouth_17 rfl hm (fun _ _ h => T_X12_lies b _ m a1 (rg_RL ha1) (-50) (rgcL (-50) rfl) 50 (rgcL 50 rfl) h) mlX12_147 vsX12_lies rfl rfl (Nat.le_of_ble_eq_true rfl) (by decide) (by decide) rfl rfl hF (fun r2 m3 hr2 hm3 hF => ?_)
    refine x_if_eq (tgt := 49) hC dX12_mouth_20 rfl rfl (rg_01 hr2) hF (fun hq4 hF => ?_) (fun hq4 hF => ?_)
    · refine x_iconst hC dX12_mouth_49 rfl ?_
      exact x_ireturn hC dX12_mouth_50 hm3 (rgc (-1) rfl) hF
    · refine x_iload_n hC dX12_mouth_23 rfl 2 rfl ?_
      refine x_i2l hC dX12_mouth_24 rfl ha2 ?_
      refine x_ldc2 (x := (-50)) hC dX12_mouth_25 rfl kwX12_151 ?_
      refine x_ldc2 (x := 50) hC dX12_mouth_28 rfl kwX12_153 ?_
      refine x_callS3 (kc2 := 0) (ks2 := 0) (As := [lV a2, lV (-50), lV 50]) (rest := []) hC dX12_mouth_31 rfl hm3 (fun _ _ h => T_X12_lies b _ m3 a2 (rg_RL ha2) (-50) (rgcL (-50) rfl) 50 (rgcL 50 rfl) h) mlX12_147 vsX12_lies rfl rfl (Nat.le_of_ble_eq_true rfl) (by decide) (by decide) rfl rfl hF (fun r5 m6 hr5 hm6 hF => ?_)
      refine x_if_eq (tgt := 49) hC dX12_mouth_34 rfl rfl (rg_01 hr5) hF (fun hq7 hF => ?_) (fun hq7 hF => ?_)
      · refine x_iconst hC dX12_mouth_49 rfl ?_
        exact x_ireturn hC dX12_mouth_50 hm6 (rgc (-1) rfl) hF
      · refine x_iload_n hC dX12_mouth_37 rfl 3 rfl ?_
        refine x_i2l hC dX12_mouth_38 rfl ha3 ?_
        refine x_lconst (x := 0) hC dX12_mouth_39 rfl rfl ?_
        refine x_ldc2 (x := 1000) hC dX12_mouth_40 rfl kwX12_155 ?_
        refine x_callS3 (kc2 := 0) (ks2 := 0) (As := [lV a3, lV 0, lV 1000]) (rest := []) hC dX12_mouth_43 rfl hm6 (fun _ _ h => T_X12_lies b _ m6 a3 (rg_RL ha3) 0 (rgcL 0 rfl) 1000 (rgcL 1000 rfl) h) mlX12_147 vsX12_lies rfl rfl (Nat.le_of_ble_eq_true rfl) (by decide) (by decide) rfl rfl hF (fun r8 m9 hr8 hm9 hF => ?_)
        refine x_if_ne (tgt := 51) hC dX12_mouth_46 rfl rfl (rg_01 hr8) hF (fun hq10 hF => ?_) (fun hq10 hF => ?_)
        · refine x_aload_n hC dX12_mouth_51 rfl 0 rfl ?_
          refine x_getR (t := 56) hC dX12_mouth_52 rfl flX12_23 rfl (by decide) rfl rfl ?_
          refine x_aload_n hC dX12_mouth_55 rfl 0 rfl ?_
          refine x_getI hC dX12_mouth_56 rfl flX12_144 rfl (by decide) rfl rfl ?_
          refine x_iload_n hC dX12_mouth_59 rfl 1 rfl ?_
          refine x_iast hC dX12_mouth_60 rfl rfl (by decide) rfl hm9 (hm9.i 54 2 rfl) ha1 hF (fun m11 hm11 hF => ?_)
          refine x_aload_n hC dX12_mouth_61 rfl 0 rfl ?_
          refine x_getR (t := 57) hC dX12_mouth_62 rfl flX12_27 rfl (by decide) rfl rfl ?_
          refine x_aload_n hC dX12_mouth_65 rfl 0 rfl ?_
          refine x_getI hC dX12_mouth_66 rfl flX12_144 rfl (by decide) rfl rfl ?_
          refine x_iload_n hC dX12_mouth_69 rfl 2 rfl ?_
          refine x_iast hC dX12_mouth_70 rfl rfl (by decide) rfl hm11 (hm11.i 54 2 rfl) ha2 hF (fun m12 hm12 hF => ?_)
          refine x_aload_n hC dX12_mouth_71 rfl 0 rfl ?_
          refine x_getR (t := 58) hC dX12_mouth_72 rfl flX12_30 rfl (by decide) rfl rfl ?_
          refine x_aload_n hC dX12_mouth_75 rfl 0 rfl ?_
          refine x_getI hC dX12_mouth_76 rfl flX12_144 rfl (by decide) rfl rfl ?_
          refine x_iload_n hC dX12_mouth_79 rfl 3 rfl ?_
          refine x_iast hC dX12_mouth_80 rfl rfl (by decide) rfl hm12 (hm12.i 54 2 rfl) ha3 hF (fun m13 hm13 hF => ?_)
          refine x_aload_n hC dX12_mouth_81 rfl 0 rfl ?_
          refine x_dup hC dX12_mouth_82 rfl rfl ?_
          refine x_getI hC dX12_mouth_83 rfl flX12_144 rfl (by decide) rfl rfl ?_
          refine x_iconst hC dX12_mouth_86 rfl ?_
          refine x_iadd hC dX12_mouth_87 rfl ?_
          refine x_putI hC dX12_mouth_88 rfl fpX12_144 rfl (by decide) (by decide) rfl rfl hm13 (rg_wr _) rfl hF (fun m14 hm14 hF => ?_)
          refine x_aload_n hC dX12_mouth_91 rfl 0 rfl ?_
          refine x_getI hC dX12_mouth_92 rfl flX12_144 rfl (by decide) rfl rfl ?_
          refine x_iconst hC dX12_mouth_95 rfl ?_
          refine x_isub hC dX12_mouth_96 rfl ?_
          exact x_ireturn hC dX12_mouth_97 hm14 (rg_wr _) hF
        · refine x_iconst hC dX12_mouth_49 rfl ?_
          exact x_ireturn hC dX12_mouth_50 hm9 (rgc (-1) rfl) hF
set_option maxRecDepth 20000 in
set_option maxHeartbeats 4000000 in
theorem T_X12_air (b : Bs) (o : Mm) (m : Mm) (a1 : Int) (ha1 : inR a1) (a2 : Int) (ha2 : inR a2) {r : Int} {m' : Mm} (h : F_X12_air a1 a2 m = some (r, m')) : Cn yX12_air cX12_air 3 (some .boolean) (1) 0 0 3 b (false, o) m [.ref (b.1 + 54), iV a1, iV a2] (F_X12_air a1 a2 m) := by
  refine Cn_of rfl (Nat.le_of_ble_eq_true rfl) (fun g hC hm => ?_)
  have hF := okR_some h
  generalize hQ : (fun (r : Int) (m' : Mm) => F_X12_air a1 a2 m = some (r, m')) = Q at hF ⊢
  clear hQ h
  replace hC : Cok g b RX12 cX12_air 3 1 (some .boolean) := hC
  refine x_lv (lv' := [(0, .ref (b.1 + 54)), (1, iV a1), (2, iV a2)]) rfl ?_
  unfold F_X12_air at hF
  refine x_iload_n hC dX12_air_0 rfl 1 rfl ?_
  refine x_i2l hC dX12_air_1 rfl ha1 ?_
  refine x_lconst (x := 0) hC dX12_air_2 rfl rfl ?_
  refine x_ldc2 (x := 200) hC dX12_air_3 rfl kwX12_157 ?_
  refine x_callS3 (kc2 := 0) (ks2 := 0) (As := [lV a1, lV 0, lV 200]) (rest := []) hC dX12_air_6 rfl hm (fun _ _ h => T_X12_lies b _ m a1 (rg_RL ha1) 0 (rgcL 0 rfl) 200 (rgcL 200 rfl) h) mlX12_147 vsX12_lies rfl rfl (Nat.le_of_ble_eq_true rfl) (by decide) (by decide) rfl rfl hF (fun r1 m2 hr1 hm2 hF => ?_)
  refine x_if_eq (tgt := 24) hC dX12_air_9 rfl rfl (rg_01 hr1) hF (fun hq3 hF => ?_) (fun hq3 hF => ?_)
  · refine x_iconst hC dX12_air_24 rfl ?_
    exact x_zreturn hC dX12_air_25 hm2 (Or.inl rfl) hF
  · refine x_iload_n hC dX12_air_12 rfl 2 rfl ?_
    refine x_i2l hC dX12_air_13 rfl ha2 ?_
    refine x_lconst (x := 1) hC dX12_air_14 rfl rfl ?_
    refine x_ldc2 (x := 100) hC dX12_air_15 rfl kwX12_159 ?_
    refine x_callS3 (kc2 := 0) (ks2 := 0) (As := [lV a2, lV 1, lV 100]) (rest := []) hC dX12_air_18 rfl hm2 (fun _ _ h => T_X12_lies b _ m2 a2 (rg_RL ha2) 1 (rgcL 1 rfl) 100 (rgcL 100 rfl) h) mlX12_147 vsX12_lies rfl rfl (Nat.le_of_ble_eq_true rfl) (by decide) (by decide) rfl rfl hF (fun r4 m5 hr4 hm5 hF => ?_)
    refine x_if_ne (tgt := 26) hC dX12_air_21 rfl rfl (rg_01 hr4) hF (fun hq6 hF => ?_) (fun hq6 hF => ?_)
    · refine x_aload_n hC dX12_air_26 rfl 0 rfl ?_
      refine x_iload_n hC dX12_air_27 rfl 1 rfl ?_
      refine x_putI hC dX12_air_28 rfl fpX12_13 rfl (by decide) (by decide) rfl rfl hm5 ha1 rfl hF (fun m7 hm7 hF => ?_)
      refine x_aload_n hC dX12_air_31 rfl 0 rfl ?_
      refine x_iload_n hC dX12_air_32 rfl 2 rfl ?_
      refine x_putI hC dX12_air_33 rfl fpX12_17 rfl (by decide) (by decide) rfl rfl hm7 ha2 rfl hF (fun m8 hm8 hF => ?_)
      refine x_iconst hC dX12_air_36 rfl ?_
      exact x_zreturn hC dX12_air_37 hm8 (Or.inr rfl) hF
    · refine x_iconst hC dX12_air_24 rfl ?_
      exact x_zreturn hC dX12_air_25 hm5 (Or.inl rfl) hF
set_option maxRecDepth 20000 in
set_option maxHeartbeats 4000000 in
theorem WL_X12_push_3 {g : Gx} {b : Bs} {o : Mm} {Q : Int → Mm → Prop} (hC : Cok g b RX12 cX12_push 3 0 none) : ∀ n : Nat, ∀ v1 : Int, inR v1 → ∀ v2 : Int, inR v2 → ∀ m : Mm, Rg m → okR (L_X12_push_3 n v1 v2 m) Q → X g b (false, o) 3 (ZM g b (false, o) 0 Q) 3 [(0, .ref (b.1 + 54)), (1, iV v1), (2, iV v2)] [] m 0 0 := by
  intro n
  induction n with
  | zero => intro v1 hv1 v2 hv2 m hm hF; exact absurd hF (fun z => z)
  | succ n ih =>
    intro v1 hv1 v2 hv2 m hm hF
    have hF : okR (LB_X12_push_3 (L_X12_push_3 n) v1 v2 m) Q := hF
    unfold LB_X12_push_3 at hF
    refine x_iload_n hC dX12_push_3 rfl 2 rfl ?_
    refine x_if_lt (tgt := 36) hC dX12_push_4 rfl rfl hv2 hF (fun hq1 hF => ?_) (fun hq1 hF => ?_)
    · exact x_return hC dX12_push_36 hm hF
    · refine x_aload_n hC dX12_push_7 rfl 0 rfl ?_
      refine x_getR (t := 55) hC dX12_push_8 rfl flX12_7 rfl (by decide) rfl rfl ?_
      refine x_aload_n hC dX12_push_11 rfl 0 rfl ?_
      refine x_getI hC dX12_push_12 rfl flX12_161 rfl (by decide) rfl rfl ?_
      refine x_iload_n hC dX12_push_15 rfl 1 rfl ?_
      refine x_iload_n hC dX12_push_16 rfl 2 rfl ?_
      refine x_ishr hC dX12_push_17 rfl ?_
      refine x_i2b hC dX12_push_18 rfl ?_
      refine x_bast hC dX12_push_19 rfl rfl (by decide) rfl hm (hm.i 54 1 rfl) (nar_i2b _) (rg_tI _) hF (fun m2 hm2 hF => ?_)
      refine x_aload_n hC dX12_push_20 rfl 0 rfl ?_
      refine x_dup hC dX12_push_21 rfl rfl ?_
      refine x_getI hC dX12_push_22 rfl flX12_161 rfl (by decide) rfl rfl ?_
      refine x_iconst hC dX12_push_25 rfl ?_
      refine x_iadd hC dX12_push_26 rfl ?_
      refine x_putI hC dX12_push_27 rfl fpX12_161 rfl (by decide) (by decide) rfl rfl hm2 (rg_wr _) rfl hF (fun m3 hm3 hF => ?_)
      refine x_iinc (p := 2) (lv' := [(0, .ref (b.1 + 54)), (1, iV v1)]) hC dX12_push_30 rfl rfl (by decide) rfl hF (fun x4 hx4 hF => ?_)
      refine x_goto (tgt := 3) hC dX12_push_33 rfl ?_
      refine x_sub [1, 2, 0] rfl ?_
      exact ih v1 hv1 x4 hx4 m3 hm3 hF
set_option maxRecDepth 20000 in
set_option maxHeartbeats 4000000 in
theorem T_X12_push (b : Bs) (o : Mm) (m : Mm) (a1 : Int) (ha1 : inR a1) {r : Int} {m' : Mm} (h : F_X12_push a1 m = some (r, m')) : Cn yX12_push cX12_push 3 none (0) 0 0 0 b (false, o) m [.ref (b.1 + 54), iV a1] (F_X12_push a1 m) := by
  refine Cn_of rfl (Nat.le_of_ble_eq_true rfl) (fun g hC hm => ?_)
  have hF := okR_some h
  generalize hQ : (fun (r : Int) (m' : Mm) => F_X12_push a1 m = some (r, m')) = Q at hF ⊢
  clear hQ h
  replace hC : Cok g b RX12 cX12_push 3 0 none := hC
  refine x_lv (lv' := [(0, .ref (b.1 + 54)), (1, iV a1)]) rfl ?_
  unfold F_X12_push at hF
  refine x_bipush hC dX12_push_0 rfl rfl ?_
  refine x_istore_n (lv' := [(0, .ref (b.1 + 54)), (1, iV a1)]) hC dX12_push_2 rfl rfl (by decide) rfl (rgc 24 rfl) hF (fun x1 hx1 hF => ?_)
  refine x_sub [1, 2, 0] rfl ?_
  exact WL_X12_push_3 hC 100000  a1 ha1 x1 hx1 m hm hF
set_option maxRecDepth 20000 in
set_option maxHeartbeats 4000000 in
theorem T_X12_feed (b : Bs) (o : Mm) (m : Mm) (a1 : Int) (ha1 : inR a1) (a2 : Int) (ha2 : inR a2) (a3 : Int) (ha3 : inR a3) (a4 : Int) (ha4 : inR a4) (a5 : Int) (ha5 : inR a5) {r : Int} {m' : Mm} (h : F_X12_feed a1 a2 a3 a4 a5 m = some (r, m')) : Cn yX12_feed cX12_feed 6 (some .int) (1) 0 0 1 b (false, o) m [.ref (b.1 + 54), iV a1, iV a2, iV a3, iV a4, iV a5] (F_X12_feed a1 a2 a3 a4 a5 m) := by
  refine Cn_of rfl (Nat.le_of_ble_eq_true rfl) (fun g hC hm => ?_)
  have hF := okR_some h
  generalize hQ : (fun (r : Int) (m' : Mm) => F_X12_feed a1 a2 a3 a4 a5 m = some (r, m')) = Q at hF ⊢
  clear hQ h
  replace hC : Cok g b RX12 cX12_feed 6 1 (some .int) := hC
  refine x_lv (lv' := [(0, .ref (b.1 + 54)), (1, iV a1), (2, iV a2), (3, iV a3), (4, iV a4), (5, iV a5)]) rfl ?_
  unfold F_X12_feed at hF
  refine x_aload_n hC dX12_feed_0 rfl 0 rfl ?_
  refine x_getI hC dX12_feed_1 rfl flX12_161 rfl (by decide) rfl rfl ?_
  refine x_bipush hC dX12_feed_4 rfl rfl ?_
  refine x_iadd hC dX12_feed_6 rfl ?_
  refine x_sipush hC dX12_feed_7 rfl rfl ?_
  refine x_icmp_le (tgt := 15) hC dX12_feed_10 rfl rfl (rg_wr _) (rgc 220 rfl) hF (fun hq1 hF => ?_) (fun hq1 hF => ?_)
  · refine x_aload_n hC dX12_feed_15 rfl 0 rfl ?_
    refine x_iload_n hC dX12_feed_16 rfl 1 rfl ?_
    refine x_callV0 (kc2 := 0) (ks2 := 0) (k := 54) (As := [iV a1]) (rest := []) hC dX12_feed_17 rfl hm (fun _ _ h => T_X12_push b _ m a1 ha1 h) mlX12_164 vlX12_push rfl (by decide) rfl rfl (Nat.le_of_ble_eq_true rfl) (by decide) (by decide) rfl rfl hF (fun r2 m3 hr2 hm3 hF => ?_)
    refine x_aload_n hC dX12_feed_20 rfl 0 rfl ?_
    refine x_iload_n hC dX12_feed_21 rfl 2 rfl ?_
    refine x_callV0 (kc2 := 0) (ks2 := 0) (k := 54) (As := [iV a2]) (rest := []) hC dX12_feed_22 rfl hm3 (fun _ _ h => T_X12_push b _ m3 a2 ha2 h) mlX12_164 vlX12_push rfl (by decide) rfl rfl (Nat.le_of_ble_eq_true rfl) (by decide) (by decide) rfl rfl hF (fun r4 m5 hr4 hm5 hF => ?_)
    refine x_aload_n hC dX12_feed_25 rfl 0 rfl ?_
    refine x_iload_n hC dX12_feed_26 rfl 3 rfl ?_
    refine x_callV0 (kc2 := 0) (ks2 := 0) (k := 54) (As := [iV a3]) (rest := []) hC dX12_feed_27 rfl hm5 (fun _ _ h => T_X12_push b _ m5 a3 ha3 h) mlX12_164 vlX12_push rfl (by decide) rfl rfl (Nat.le_of_ble_eq_true rfl) (by decide) (by decide) rfl rfl hF (fun r6 m7 hr6 hm7 hF => ?_)
    refine x_aload_n hC dX12_feed_30 rfl 0 rfl ?_
    refine x_iload hC dX12_feed_31 rfl 4 rfl ?_
    refine x_callV0 (kc2 := 0) (ks2 := 0) (k := 54) (As := [iV a4]) (rest := []) hC dX12_feed_33 rfl hm7 (fun _ _ h => T_X12_push b _ m7 a4 ha4 h) mlX12_164 vlX12_push rfl (by decide) rfl rfl (Nat.le_of_ble_eq_true rfl) (by decide) (by decide) rfl rfl hF (fun r8 m9 hr8 hm9 hF => ?_)
    refine x_aload_n hC dX12_feed_36 rfl 0 rfl ?_
    refine x_iload hC dX12_feed_37 rfl 5 rfl ?_
    refine x_callV0 (kc2 := 0) (ks2 := 0) (k := 54) (As := [iV a5]) (rest := []) hC dX12_feed_39 rfl hm9 (fun _ _ h => T_X12_push b _ m9 a5 ha5 h) mlX12_164 vlX12_push rfl (by decide) rfl rfl (Nat.le_of_ble_eq_true rfl) (by decide) (by decide) rfl rfl hF (fun r10 m11 hr10 hm11 hF => ?_)
    refine x_aload_n hC dX12_feed_42 rfl 0 rfl ?_
    refine x_getI hC dX12_feed_43 rfl flX12_161 rfl (by decide) rfl rfl ?_
    exact x_ireturn hC dX12_feed_46 hm11 (hm11.i 54 1 rfl) hF
  · refine x_iconst hC dX12_feed_13 rfl ?_
    exact x_ireturn hC dX12_feed_14 hm (rgc (-1) rfl) hF
set_option maxRecDepth 20000 in
set_option maxHeartbeats 4000000 in
theorem T_X12_byteAt (b : Bs) (o : Mm) (m : Mm) (a1 : Int) (ha1 : inR a1) {r : Int} {m' : Mm} (h : F_X12_byteAt a1 m = some (r, m')) : Cn yX12_byteAt cX12_byteAt 2 (some .int) (0) 0 0 1 b (false, o) m [.ref (b.1 + 54), iV a1] (F_X12_byteAt a1 m) := by
  refine Cn_of rfl (Nat.le_of_ble_eq_true rfl) (fun g hC hm => ?_)
  have hF := okR_some h
  generalize hQ : (fun (r : Int) (m' : Mm) => F_X12_byteAt a1 m = some (r, m')) = Q at hF ⊢
  clear hQ h
  replace hC : Cok g b RX12 cX12_byteAt 2 0 (some .int) := hC
  refine x_lv (lv' := [(0, .ref (b.1 + 54)), (1, iV a1)]) rfl ?_
  unfold F_X12_byteAt at hF
  refine x_aload_n hC dX12_byteAt_0 rfl 0 rfl ?_
  refine x_getR (t := 55) hC dX12_byteAt_1 rfl flX12_7 rfl (by decide) rfl rfl ?_
  refine x_iload_n hC dX12_byteAt_4 rfl 1 rfl ?_
  refine x_bald hC dX12_byteAt_5 rfl rfl (by decide) rfl hm ha1 hF (fun x1 hx1 hF => ?_)
  refine x_sipush hC dX12_byteAt_6 rfl rfl ?_
  refine x_iand hC dX12_byteAt_9 rfl ?_
  exact x_ireturn hC dX12_byteAt_10 hm (rg_tI _) hF
set_option maxRecDepth 20000 in
set_option maxHeartbeats 4000000 in
theorem T_X12_here (b : Bs) (o : Mm) (m : Mm) {r : Int} {m' : Mm} (h : F_X12_here  m = some (r, m')) : Cn yX12_here cX12_here 1 (some .int) (0) 0 0 1 b (false, o) m [.ref (b.1 + 54)] (F_X12_here  m) := by
  refine Cn_of rfl (Nat.le_of_ble_eq_true rfl) (fun g hC hm => ?_)
  have hF := okR_some h
  generalize hQ : (fun (r : Int) (m' : Mm) => F_X12_here  m = some (r, m')) = Q at hF ⊢
  clear hQ h
  replace hC : Cok g b RX12 cX12_here 1 0 (some .int) := hC
  refine x_lv (lv' := [(0, .ref (b.1 + 54))]) rfl ?_
  unfold F_X12_here at hF
  refine x_aload_n hC dX12_here_0 rfl 0 rfl ?_
  refine x_getI hC dX12_here_1 rfl flX12_168 rfl (by decide) rfl rfl ?_
  refine x_aload_n hC dX12_here_4 rfl 0 rfl ?_
  refine x_getI hC dX12_here_5 rfl flX12_171 rfl (by decide) rfl rfl ?_
  refine x_icmp_ge (tgt := 27) hC dX12_here_8 rfl rfl (hm.i 54 27 rfl) (hm.i 54 28 rfl) hF (fun hq1 hF => ?_) (fun hq1 hF => ?_)
  · refine x_iconst hC dX12_here_27 rfl ?_
    exact x_ireturn hC dX12_here_28 hm (rgc 0 rfl) hF
  · refine x_aload_n hC dX12_here_11 rfl 0 rfl ?_
    refine x_getR (t := 55) hC dX12_here_12 rfl flX12_7 rfl (by decide) rfl rfl ?_
    refine x_aload_n hC dX12_here_15 rfl 0 rfl ?_
    refine x_getI hC dX12_here_16 rfl flX12_168 rfl (by decide) rfl rfl ?_
    refine x_bald hC dX12_here_19 rfl rfl (by decide) rfl hm (hm.i 54 27 rfl) hF (fun x2 hx2 hF => ?_)
    refine x_sipush hC dX12_here_20 rfl rfl ?_
    refine x_iand hC dX12_here_23 rfl ?_
    refine x_goto (tgt := 28) hC dX12_here_24 rfl ?_
    exact x_ireturn hC dX12_here_28 hm (rg_tI _) hF
set_option maxRecDepth 20000 in
set_option maxHeartbeats 4000000 in
theorem T_X12_wrongs (b : Bs) (o : Mm) (m : Mm) (a1 : Int) (ha1 : inR a1) (a2 : Int) (ha2 : inR a2) {r : Int} {m' : Mm} (h : F_X12_wrongs a1 a2 m = some (r, m')) : Cn yX12_wrongs cX12_wrongs 3 none (0) 0 0 0 b (false, o) m [.ref (b.1 + 54), iV a1, iV a2] (F_X12_wrongs a1 a2 m) := by
  refine Cn_of rfl (Nat.le_of_ble_eq_true rfl) (fun g hC hm => ?_)
  have hF := okR_some h
  generalize hQ : (fun (r : Int) (m' : Mm) => F_X12_wrongs a1 a2 m = some (r, m')) = Q at hF ⊢
  clear hQ h
  replace hC : Cok g b RX12 cX12_wrongs 3 0 none := hC
  refine x_lv (lv' := [(0, .ref (b.1 + 54)), (1, iV a1), (2, iV a2)]) rfl ?_
  unfold F_X12_wrongs at hF
  refine x_aload_n hC dX12_wrongs_0 rfl 0 rfl ?_
  refine x_aload_n hC dX12_wrongs_1 rfl 0 rfl ?_
  refine x_getI hC dX12_wrongs_2 rfl flX12_174 rfl (by decide) rfl rfl ?_
  refine x_if_ge (tgt := 15) hC dX12_wrongs_5 rfl rfl (hm.i 54 29 rfl) hF (fun hq1 hF => ?_) (fun hq1 hF => ?_)
  · refine x_sipush hC dX12_wrongs_15 rfl rfl ?_
    refine x_iload_n hC dX12_wrongs_18 rfl 1 rfl ?_
    refine x_imul hC dX12_wrongs_19 rfl ?_
    refine x_iload_n hC dX12_wrongs_20 rfl 2 rfl ?_
    refine x_isub hC dX12_wrongs_21 rfl ?_
    refine x_putI hC dX12_wrongs_22 rfl fpX12_174 rfl (by decide) (by decide) rfl rfl hm (rg_wr _) rfl hF (fun m2 hm2 hF => ?_)
    exact x_return hC dX12_wrongs_25 hm2 hF
  · refine x_aload_n hC dX12_wrongs_8 rfl 0 rfl ?_
    refine x_getI hC dX12_wrongs_9 rfl flX12_174 rfl (by decide) rfl rfl ?_
    refine x_goto (tgt := 22) hC dX12_wrongs_12 rfl ?_
    refine x_putI hC dX12_wrongs_22 rfl fpX12_174 rfl (by decide) (by decide) rfl rfl hm (hm.i 54 29 rfl) rfl hF (fun m3 hm3 hF => ?_)
    exact x_return hC dX12_wrongs_25 hm3 hF
set_option maxRecDepth 20000 in
set_option maxHeartbeats 4000000 in
theorem T_X12_isGood (b : Bs) (o : Mm) (m : Mm) {r : Int} {m' : Mm} (h : F_X12_isGood  m = some (r, m')) : Cn yX12_isGood cX12_isGood 1 (some .boolean) (0) 0 0 3 b (false, o) m [.ref (b.1 + 54)] (F_X12_isGood  m) := by
  refine Cn_of rfl (Nat.le_of_ble_eq_true rfl) (fun g hC hm => ?_)
  have hF := okR_some h
  generalize hQ : (fun (r : Int) (m' : Mm) => F_X12_isGood  m = some (r, m')) = Q at hF ⊢
  clear hQ h
  replace hC : Cok g b RX12 cX12_isGood 1 0 (some .boolean) := hC
  refine x_lv (lv' := [(0, .ref (b.1 + 54))]) rfl ?_
  unfold F_X12_isGood at hF
  refine x_aload_n hC dX12_isGood_0 rfl 0 rfl ?_
  refine x_getI hC dX12_isGood_1 rfl flX12_174 rfl (by decide) rfl rfl ?_
  refine x_if_ne (tgt := 11) hC dX12_isGood_4 rfl rfl (hm.i 54 29 rfl) hF (fun hq1 hF => ?_) (fun hq1 hF => ?_)
  · refine x_iconst hC dX12_isGood_11 rfl ?_
    exact x_zreturn hC dX12_isGood_12 hm (Or.inl rfl) hF
  · refine x_iconst hC dX12_isGood_7 rfl ?_
    refine x_goto (tgt := 12) hC dX12_isGood_8 rfl ?_
    exact x_zreturn hC dX12_isGood_12 hm (Or.inr rfl) hF
set_option maxRecDepth 20000 in
set_option maxHeartbeats 4000000 in
theorem T_X12_emit (b : Bs) (o : Mm) (m : Mm) (a1 : Int) (ha1 : inR a1) (a2 : Int) (ha2 : inR a2) {r : Int} {m' : Mm} (h : F_X12_emit a1 a2 m = some (r, m')) : Cn yX12_emit cX12_emit 3 none (1) 0 0 0 b (false, o) m [.ref (b.1 + 54), iV a1, iV a2] (F_X12_emit a1 a2 m) := by
  refine Cn_of rfl (Nat.le_of_ble_eq_true rfl) (fun g hC hm => ?_)
  have hF := okR_some h
  generalize hQ : (fun (r : Int) (m' : Mm) => F_X12_emit a1 a2 m = some (r, m')) = Q at hF ⊢
  clear hQ h
  replace hC : Cok g b RX12 cX12_emit 3 1 none := hC
  refine x_lv (lv' := [(0, .ref (b.1 + 54)), (1, iV a1), (2, iV a2)]) rfl ?_
  unfold F_X12_emit at hF
  refine x_aload_n hC dX12_emit_0 rfl 0 rfl ?_
  refine x_callV3 (kc2 := 0) (ks2 := 0) (k := 54) (As := []) (rest := []) hC dX12_emit_1 rfl hm (fun _ _ h => T_X12_isGood b _ m  h) mlX12_177 vlX12_isGood rfl (by decide) rfl rfl (Nat.le_of_ble_eq_true rfl) (by decide) (by decide) rfl rfl hF (fun r1 m2 hr1 hm2 hF => ?_)
  refine x_if_ne (tgt := 8) hC dX12_emit_4 rfl rfl (rg_01 hr1) hF (fun hq3 hF => ?_) (fun hq3 hF => ?_)
  · refine x_aload_n hC dX12_emit_8 rfl 0 rfl ?_
    refine x_getR (t := 73) hC dX12_emit_9 rfl flX12_75 rfl (by decide) rfl rfl ?_
    refine x_aload_n hC dX12_emit_12 rfl 0 rfl ?_
    refine x_getI hC dX12_emit_13 rfl flX12_181 rfl (by decide) rfl rfl ?_
    refine x_iload_n hC dX12_emit_16 rfl 1 rfl ?_
    refine x_iast hC dX12_emit_17 rfl rfl (by decide) rfl hm2 (hm2.i 54 31 rfl) ha1 hF (fun m4 hm4 hF => ?_)
    refine x_aload_n hC dX12_emit_18 rfl 0 rfl ?_
    refine x_getR (t := 74) hC dX12_emit_19 rfl flX12_78 rfl (by decide) rfl rfl ?_
    refine x_aload_n hC dX12_emit_22 rfl 0 rfl ?_
    refine x_getI hC dX12_emit_23 rfl flX12_181 rfl (by decide) rfl rfl ?_
    refine x_iload_n hC dX12_emit_26 rfl 2 rfl ?_
    refine x_iast hC dX12_emit_27 rfl rfl (by decide) rfl hm4 (hm4.i 54 31 rfl) ha2 hF (fun m5 hm5 hF => ?_)
    refine x_aload_n hC dX12_emit_28 rfl 0 rfl ?_
    refine x_dup hC dX12_emit_29 rfl rfl ?_
    refine x_getI hC dX12_emit_30 rfl flX12_181 rfl (by decide) rfl rfl ?_
    refine x_iconst hC dX12_emit_33 rfl ?_
    refine x_iadd hC dX12_emit_34 rfl ?_
    refine x_putI hC dX12_emit_35 rfl fpX12_181 rfl (by decide) (by decide) rfl rfl hm5 (rg_wr _) rfl hF (fun m6 hm6 hF => ?_)
    exact x_return hC dX12_emit_38 hm6 hF
  · exact x_return hC dX12_emit_7 hm2 hF
set_option maxRecDepth 20000 in
set_option maxHeartbeats 4000000 in
theorem T_X12_top (b : Bs) (o : Mm) (m : Mm) {r : Int} {m' : Mm} (h : F_X12_top  m = some (r, m')) : Cn yX12_top cX12_top 1 (some .int) (0) 0 0 1 b (false, o) m [.ref (b.1 + 54)] (F_X12_top  m) := by
  refine Cn_of rfl (Nat.le_of_ble_eq_true rfl) (fun g hC hm => ?_)
  have hF := okR_some h
  generalize hQ : (fun (r : Int) (m' : Mm) => F_X12_top  m = some (r, m')) = Q at hF ⊢
  clear hQ h
  replace hC : Cok g b RX12 cX12_top 1 0 (some .int) := hC
  refine x_lv (lv' := [(0, .ref (b.1 + 54))]) rfl ?_
  unfold F_X12_top at hF
  refine x_aload_n hC dX12_top_0 rfl 0 rfl ?_
  refine x_getI hC dX12_top_1 rfl flX12_184 rfl (by decide) rfl rfl ?_
  refine x_if_le (tgt := 21) hC dX12_top_4 rfl rfl (hm.i 54 33 rfl) hF (fun hq1 hF => ?_) (fun hq1 hF => ?_)
  · refine x_iconst hC dX12_top_21 rfl ?_
    exact x_ireturn hC dX12_top_22 hm (rgc 0 rfl) hF
  · refine x_aload_n hC dX12_top_7 rfl 0 rfl ?_
    refine x_getR (t := 75) hC dX12_top_8 rfl flX12_81 rfl (by decide) rfl rfl ?_
    refine x_aload_n hC dX12_top_11 rfl 0 rfl ?_
    refine x_getI hC dX12_top_12 rfl flX12_184 rfl (by decide) rfl rfl ?_
    refine x_iconst hC dX12_top_15 rfl ?_
    refine x_isub hC dX12_top_16 rfl ?_
    refine x_iald hC dX12_top_17 rfl rfl (by decide) rfl hm (rg_wr _) hF (fun x2 hx2 hF => ?_)
    refine x_goto (tgt := 22) hC dX12_top_18 rfl ?_
    exact x_ireturn hC dX12_top_22 hm hx2 hF

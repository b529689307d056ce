set_option maxRecDepth 20000 in
set_option maxHeartbeats 4000000 in
theorem WL_X12_undo_27 {g : Gx} {b : Bs} {o : Mm} {Q : Int → Mm → Prop} (hC : Cok g b RX12 cX12_undo 2 0 (some .boolean)) : ∀ n : Nat, ∀ v1 : Int, inR v1 → ∀ m : Mm, Rg m → okR (L_X12_undo_27 n v1 m) Q → X g b (false, o) 2 (ZM g b (false, o) 3 Q) 27 [(0, .ref (b.1 + 54)), (1, iV v1)] [] m 0 0 := by
  intro n
  induction n with
  | zero => intro v1 hv1 m hm hF; exact absurd hF (fun z => z)
  | succ n ih =>
    intro v1 hv1 m hm hF
    have hF : okR (LB_X12_undo_27 (L_X12_undo_27 n) v1 m) Q := hF
    unfold LB_X12_undo_27 at hF
    refine x_iload_n hC dX12_undo_27 rfl 1 rfl ?_
    refine x_sipush hC dX12_undo_28 rfl rfl ?_
    refine x_icmp_ge (tgt := 64) hC dX12_undo_31 rfl rfl hv1 (rgc 150 rfl) hF (fun hq1 hF => ?_) (fun hq1 hF => ?_)
    · refine x_iconst hC dX12_undo_64 rfl ?_
      exact x_zreturn hC dX12_undo_65 hm (Or.inr rfl) hF
    · refine x_aload_n hC dX12_undo_34 rfl 0 rfl ?_
      refine x_getR (t := 61) hC dX12_undo_35 rfl flX12_39 rfl (by decide) rfl rfl ?_
      refine x_iload_n hC dX12_undo_38 rfl 1 rfl ?_
      refine x_aload_n hC dX12_undo_39 rfl 0 rfl ?_
      refine x_getR (t := 93) hC dX12_undo_40 rfl flX12_138 rfl (by decide) rfl rfl ?_
      refine x_iload_n hC dX12_undo_43 rfl 1 rfl ?_
      refine x_iald hC dX12_undo_44 rfl rfl (by decide) rfl hm hv1 hF (fun x2 hx2 hF => ?_)
      refine x_iast hC dX12_undo_45 rfl rfl (by decide) rfl hm hv1 hx2 hF (fun m3 hm3 hF => ?_)
      refine x_aload_n hC dX12_undo_46 rfl 0 rfl ?_
      refine x_getR (t := 62) hC dX12_undo_47 rfl flX12_42 rfl (by decide) rfl rfl ?_
      refine x_iload_n hC dX12_undo_50 rfl 1 rfl ?_
      refine x_aload_n hC dX12_undo_51 rfl 0 rfl ?_
      refine x_getR (t := 94) hC dX12_undo_52 rfl flX12_141 rfl (by decide) rfl rfl ?_
      refine x_iload_n hC dX12_undo_55 rfl 1 rfl ?_
      refine x_iald hC dX12_undo_56 rfl rfl (by decide) rfl hm3 hv1 hF (fun x4 hx4 hF => ?_)
      refine x_iast hC dX12_undo_57 rfl rfl (by decide) rfl hm3 hv1 hx4 hF (fun m5 hm5 hF => ?_)
      refine x_iinc (p := 1) (lv' := [(0, .ref (b.1 + 54))]) hC dX12_undo_58 rfl rfl (by decide) rfl hF (fun x6 hx6 hF => ?_)
      refine x_goto (tgt := 27) hC dX12_undo_61 rfl ?_
      refine x_sub [1, 0] rfl ?_
      exact ih x6 hx6 m5 hm5 hF
set_option maxRecDepth 20000 in
set_option maxHeartbeats 4000000 in
theorem T_X12_undo (b : Bs) (o : Mm) (m : Mm) {r : Int} {m' : Mm} (h : F_X12_undo  m = some (r, m')) : Cn yX12_undo cX12_undo 2 (some .boolean) (0) 0 0 3 b (false, o) m [.ref (b.1 + 54)] (F_X12_undo  m) := by
  refine Cn_of rfl (Nat.le_of_ble_eq_true rfl) (fun g hC hm => ?_)
  have hF := okR_some h
  generalize hQ : (fun (r : Int) (m' : Mm) => F_X12_undo  m = some (r, m')) = Q at hF ⊢
  clear hQ h
  replace hC : Cok g b RX12 cX12_undo 2 0 (some .boolean) := hC
  refine x_lv (lv' := [(0, .ref (b.1 + 54))]) rfl ?_
  unfold F_X12_undo at hF
  refine x_aload_n hC dX12_undo_0 rfl 0 rfl ?_
  refine x_getI hC dX12_undo_1 rfl flX12_494 rfl (by decide) rfl rfl ?_
  refine x_if_ne (tgt := 9) hC dX12_undo_4 rfl rfl (hm.i 54 68 rfl) hF (fun hq1 hF => ?_) (fun hq1 hF => ?_)
  · refine x_aload_n hC dX12_undo_9 rfl 0 rfl ?_
    refine x_aload_n hC dX12_undo_10 rfl 0 rfl ?_
    refine x_getI hC dX12_undo_11 rfl flX12_497 rfl (by decide) rfl rfl ?_
    refine x_putI hC dX12_undo_14 rfl fpX12_332 rfl (by decide) (by decide) rfl rfl hm (hm.i 54 69 rfl) rfl hF (fun m2 hm2 hF => ?_)
    refine x_aload_n hC dX12_undo_17 rfl 0 rfl ?_
    refine x_aload_n hC dX12_undo_18 rfl 0 rfl ?_
    refine x_getI hC dX12_undo_19 rfl flX12_500 rfl (by decide) rfl rfl ?_
    refine x_putI hC dX12_undo_22 rfl fpX12_20 rfl (by decide) (by decide) rfl rfl hm2 (hm2.i 54 70 rfl) rfl hF (fun m3 hm3 hF => ?_)
    refine x_iconst hC dX12_undo_25 rfl ?_
    refine x_istore_nZ (lv' := [(0, .ref (b.1 + 54))]) hC dX12_undo_26 rfl rfl (by decide) rfl (Or.inl rfl) hF (fun x4 hx4 hF => ?_)
    refine x_sub [1, 0] rfl ?_
    exact WL_X12_undo_27 hC 100000  x4 (rg_01 hx4) m3 hm3 hF
  · refine x_iconst hC dX12_undo_7 rfl ?_
    exact x_zreturn hC dX12_undo_8 hm (Or.inl rfl) hF
set_option maxRecDepth 20000 in
set_option maxHeartbeats 4000000 in
theorem T_X12_quiet (b : Bs) (o : Mm) (m : Mm) {r : Int} {m' : Mm} (h : F_X12_quiet  m = some (r, m')) : Cn yX12_quiet cX12_quiet 2 (some .int) (0) 0 0 1 b (false, o) m [.ref (b.1 + 54)] (F_X12_quiet  m) := by
  refine Cn_of rfl (Nat.le_of_ble_eq_true rfl) (fun g hC hm => ?_)
  have hF := okR_some h
  generalize hQ : (fun (r : Int) (m' : Mm) => F_X12_quiet  m = some (r, m')) = Q at hF ⊢
  clear hQ h
  replace hC : Cok g b RX12 cX12_quiet 2 0 (some .int) := hC
  refine x_lv (lv' := [(0, .ref (b.1 + 54))]) rfl ?_
  unfold F_X12_quiet at hF
  refine x_aload_n hC dX12_quiet_0 rfl 0 rfl ?_
  refine x_getI hC dX12_quiet_1 rfl flX12_332 rfl (by decide) rfl rfl ?_
  refine x_istore_n (lv' := [(0, .ref (b.1 + 54))]) hC dX12_quiet_4 rfl rfl (by decide) rfl (hm.i 54 5 rfl) hF (fun x1 hx1 hF => ?_)
  refine x_aload_n hC dX12_quiet_5 rfl 1 rfl ?_
  refine x_iconst hC dX12_quiet_6 rfl ?_
  refine x_putI hC dX12_quiet_7 rfl fpX12_332 rfl (by decide) (by decide) rfl rfl hm (rgc 0 rfl) rfl hF (fun m2 hm2 hF => ?_)
  refine x_iload_n hC dX12_quiet_10 rfl 0 rfl ?_
  exact x_ireturn hC dX12_quiet_11 hm2 hx1 hF
set_option maxRecDepth 20000 in
set_option maxHeartbeats 4000000 in
theorem WL_X12_numberAt_4 {g : Gx} {b : Bs} {o : Mm} {Q : Int → Mm → Prop} (hC : Cok g b RX12 cX12_numberAt 4 0 (some .int)) : ∀ n : Nat, ∀ v1 : Int, inR v1 → ∀ v2 : Int, inR v2 → ∀ v3 : Int, inR v3 → ∀ m : Mm, Rg m → okR (L_X12_numberAt_4 n v1 v2 v3 m) Q → X g b (false, o) 4 (ZM g b (false, o) 1 Q) 4 [(0, .ref (b.1 + 54)), (1, iV v1), (2, iV v2), (3, iV v3)] [] m 0 0 := by
  intro n
  induction n with
  | zero => intro v1 hv1 v2 hv2 v3 hv3 m hm hF; exact absurd hF (fun z => z)
  | succ n ih =>
    intro v1 hv1 v2 hv2 v3 hv3 m hm hF
    have hF : okR (LB_X12_numberAt_4 (L_X12_numberAt_4 n) v1 v2 v3 m) Q := hF
    unfold LB_X12_numberAt_4 at hF
    refine x_iload_n hC dX12_numberAt_4 rfl 3 rfl ?_
    refine x_iconst hC dX12_numberAt_5 rfl ?_
    refine x_icmp_ge (tgt := 35) hC dX12_numberAt_6 rfl rfl hv3 (rgc 4 rfl) hF (fun hq1 hF => ?_) (fun hq1 hF => ?_)
    · refine x_iload_n hC dX12_numberAt_35 rfl 2 rfl ?_
      exact x_ireturn hC dX12_numberAt_36 hm hv2 hF
    · refine x_iload_n hC dX12_numberAt_9 rfl 2 rfl ?_
      refine x_bipush hC dX12_numberAt_10 rfl rfl ?_
      refine x_ishl hC dX12_numberAt_12 rfl ?_
      refine x_aload_n hC dX12_numberAt_13 rfl 0 rfl ?_
      refine x_getR (t := 55) hC dX12_numberAt_14 rfl flX12_7 rfl (by decide) rfl rfl ?_
      refine x_iconst hC dX12_numberAt_17 rfl ?_
      refine x_iload_n hC dX12_numberAt_18 rfl 1 rfl ?_
      refine x_imul hC dX12_numberAt_19 rfl ?_
      refine x_iload_n hC dX12_numberAt_20 rfl 3 rfl ?_
      refine x_iadd hC dX12_numberAt_21 rfl ?_
      refine x_bald hC dX12_numberAt_22 rfl rfl (by decide) rfl hm (rg_wr _) hF (fun x2 hx2 hF => ?_)
      refine x_sipush hC dX12_numberAt_23 rfl rfl ?_
      refine x_iand hC dX12_numberAt_26 rfl ?_
      refine x_ior hC dX12_numberAt_27 rfl ?_
      refine x_istore_n (lv' := [(0, .ref (b.1 + 54)), (1, iV v1), (3, iV v3)]) hC dX12_numberAt_28 rfl rfl (by decide) rfl (rg_tI _) hF (fun x3 hx3 hF => ?_)
      refine x_iinc (p := 3) (lv' := [(2, iV x3), (0, .ref (b.1 + 54)), (1, iV v1)]) hC dX12_numberAt_29 rfl rfl (by decide) rfl hF (fun x4 hx4 hF => ?_)
      refine x_goto (tgt := 4) hC dX12_numberAt_32 rfl ?_
      refine x_sub [2, 3, 1, 0] rfl ?_
      exact ih v1 hv1 x3 hx3 x4 hx4 m hm hF
set_option maxRecDepth 20000 in
set_option maxHeartbeats 4000000 in
theorem T_X12_numberAt (b : Bs) (o : Mm) (m : Mm) (a1 : Int) (ha1 : inR a1) {r : Int} {m' : Mm} (h : F_X12_numberAt a1 m = some (r, m')) : Cn yX12_numberAt cX12_numberAt 4 (some .int) (0) 0 0 1 b (false, o) m [.ref (b.1 + 54), iV a1] (F_X12_numberAt a1 m) := by
  refine Cn_of rfl (Nat.le_of_ble_eq_true rfl) (fun g hC hm => ?_)
  have hF := okR_some h
  generalize hQ : (fun (r : Int) (m' : Mm) => F_X12_numberAt a1 m = some (r, m')) = Q at hF ⊢
  clear hQ h
  replace hC : Cok g b RX12 cX12_numberAt 4 0 (some .int) := hC
  refine x_lv (lv' := [(0, .ref (b.1 + 54)), (1, iV a1)]) rfl ?_
  unfold F_X12_numberAt at hF
  refine x_iconst hC dX12_numberAt_0 rfl ?_
  refine x_istore_nZ (lv' := [(0, .ref (b.1 + 54)), (1, iV a1)]) hC dX12_numberAt_1 rfl rfl (by decide) rfl (Or.inl rfl) hF (fun x1 hx1 hF => ?_)
  refine x_iconst hC dX12_numberAt_2 rfl ?_
  refine x_istore_nZ (lv' := [(2, iV x1), (0, .ref (b.1 + 54)), (1, iV a1)]) hC dX12_numberAt_3 rfl rfl (by decide) rfl (Or.inl rfl) hF (fun x2 hx2 hF => ?_)
  refine x_sub [2, 3, 1, 0] rfl ?_
  exact WL_X12_numberAt_4 hC 100000  a1 ha1 x1 (rg_01 hx1) x2 (rg_01 hx2) m hm hF
set_option maxRecDepth 20000 in
set_option maxHeartbeats 4000000 in
theorem WL_X12_check_37 {g : Gx} {b : Bs} {o : Mm} {Q : Int → Mm → Prop} (hC : Cok g b RX12 cX12_check 4 6 (some .int)) : ∀ n : Nat, ∀ v1 : Int, inR v1 → ∀ v2 : Int, inR v2 → ∀ v3 : Int, inR v3 → ∀ m : Mm, Rg m → okR (L_X12_check_37 n v1 v2 v3 m) Q → X g b (false, o) 4 (ZM g b (false, o) 1 Q) 37 [(0, .ref (b.1 + 54)), (1, iV v1), (2, iV v2), (3, iV v3)] [] m 0 0 := by
  intro n
  induction n with
  | zero => intro v1 hv1 v2 hv2 v3 hv3 m hm hF; exact absurd hF (fun z => z)
  | succ n ih =>
    intro v1 hv1 v2 hv2 v3 hv3 m hm hF
    have hF : okR (LB_X12_check_37 (L_X12_check_37 n) v1 v2 v3 m) Q := hF
    unfold LB_X12_check_37 at hF
    refine x_iload_n hC dX12_check_37 rfl 3 rfl ?_
    refine x_aload_n hC dX12_check_38 rfl 0 rfl ?_
    refine x_getI hC dX12_check_39 rfl flX12_343 rfl (by decide) rfl rfl ?_
    refine x_icmp_ge (tgt := 74) hC dX12_check_42 rfl rfl hv3 (hm.i 54 48 rfl) hF (fun hq1 hF => ?_) (fun hq1 hF => ?_)
    · refine x_iload_n hC dX12_check_74 rfl 2 rfl ?_
      refine x_aload_n hC dX12_check_75 rfl 0 rfl ?_
      refine x_getI hC dX12_check_76 rfl flX12_343 rfl (by decide) rfl rfl ?_
      refine x_icmp_ne (tgt := 86) hC dX12_check_79 rfl rfl hv2 (hm.i 54 48 rfl) hF (fun hq2 hF => ?_) (fun hq2 hF => ?_)
      · refine x_aload_n hC dX12_check_86 rfl 0 rfl ?_
        refine x_getI hC dX12_check_87 rfl flX12_343 rfl (by decide) rfl rfl ?_
        exact x_ireturn hC dX12_check_90 hm (hm.i 54 48 rfl) hF
      · refine x_iconst hC dX12_check_82 rfl ?_
        refine x_goto (tgt := 90) hC dX12_check_83 rfl ?_
        exact x_ireturn hC dX12_check_90 hm (rgc (-1) rfl) hF
    · refine x_iload_n hC dX12_check_45 rfl 3 rfl ?_
      refine x_iload_n hC dX12_check_46 rfl 2 rfl ?_
      refine x_icmp_ne (tgt := 52) hC dX12_check_47 rfl rfl hv3 hv2 hF (fun hq3 hF => ?_) (fun hq3 hF => ?_)
      · refine x_aload_n hC dX12_check_52 rfl 0 rfl ?_
        refine x_iload_n hC dX12_check_53 rfl 3 rfl ?_
        refine x_callV1 (kc2 := 0) (ks2 := 0) (k := 54) (As := [iV v3]) (rest := []) hC dX12_check_54 rfl hm (fun _ _ h => T_X12_numberAt b _ m v3 hv3 h) mlX12_503 vlX12_numberAt rfl (by decide) rfl rfl (Nat.le_of_ble_eq_true rfl) (by decide) (by decide) rfl rfl hF (fun r4 m5 hr4 hm5 hF => ?_)
        refine x_aload_n hC dX12_check_57 rfl 0 rfl ?_
        refine x_iload_n hC dX12_check_58 rfl 1 rfl ?_
        refine x_iload_n hC dX12_check_59 rfl 3 rfl ?_
        refine x_callV1 (kc2 := 0) (ks2 := 0) (k := 54) (As := [iV v1, iV v3]) (rest := [iV r4]) hC dX12_check_60 rfl hm5 (fun _ _ h => T_X12_meaningAt b _ m5 v1 hv1 v3 hv3 h) mlX12_369 vlX12_meaningAt rfl (by decide) rfl rfl (Nat.le_of_ble_eq_true rfl) (by decide) (by decide) rfl rfl hF (fun r6 m7 hr6 hm7 hF => ?_)
        refine x_icmp_eq (tgt := 68) hC dX12_check_63 rfl rfl hr4 hr6 hF (fun hq8 hF => ?_) (fun hq8 hF => ?_)
        · refine x_iinc (p := 3) (lv' := [(0, .ref (b.1 + 54)), (1, iV v1), (2, iV v2)]) hC dX12_check_68 rfl rfl (by decide) rfl hF (fun x9 hx9 hF => ?_)
          refine x_goto (tgt := 37) hC dX12_check_71 rfl ?_
          refine x_sub [1, 2, 3, 0] rfl ?_
          exact ih v1 hv1 v2 hv2 x9 hx9 m7 hm7 hF
        · refine x_iload_n hC dX12_check_66 rfl 3 rfl ?_
          exact x_ireturn hC dX12_check_67 hm7 hv3 hF
      · refine x_iload_n hC dX12_check_50 rfl 2 rfl ?_
        exact x_ireturn hC dX12_check_51 hm hv2 hF
set_option maxRecDepth 20000 in
set_option maxHeartbeats 4000000 in
theorem T_X12_check (b : Bs) (o : Mm) (m : Mm) (a1 : Int) (ha1 : inR a1) (a2 : Int) (ha2 : inR a2) {r : Int} {m' : Mm} (h : F_X12_check a1 a2 m = some (r, m')) : Cn yX12_check cX12_check 4 (some .int) (6) 0 0 1 b (false, o) m [.ref (b.1 + 54), iV a1, iV a2] (F_X12_check a1 a2 m) := by
  refine Cn_of rfl (Nat.le_of_ble_eq_true rfl) (fun g hC hm => ?_)
  have hF := okR_some h
  generalize hQ : (fun (r : Int) (m' : Mm) => F_X12_check a1 a2 m = some (r, m')) = Q at hF ⊢
  clear hQ h
  replace hC : Cok g b RX12 cX12_check 4 6 (some .int) := hC
  refine x_lv (lv' := [(0, .ref (b.1 + 54)), (1, iV a1), (2, iV a2)]) rfl ?_
  unfold F_X12_check at hF
  refine x_aload_n hC dX12_check_0 rfl 0 rfl ?_
  refine x_iload_n hC dX12_check_1 rfl 1 rfl ?_
  refine x_callV3 (kc2 := 0) (ks2 := 0) (k := 54) (As := [iV a1]) (rest := []) hC dX12_check_2 rfl hm (fun _ _ h => T_X12_isMouth b _ m a1 ha1 h) mlX12_322 vlX12_isMouth rfl (by decide) rfl rfl (Nat.le_of_ble_eq_true rfl) (by decide) (by decide) rfl rfl hF (fun r1 m2 hr1 hm2 hF => ?_)
  refine x_if_eq (tgt := 22) hC dX12_check_5 rfl rfl (rg_01 hr1) hF (fun hq3 hF => ?_) (fun hq3 hF => ?_)
  · refine x_bipush hC dX12_check_22 rfl rfl ?_
    exact x_ireturn hC dX12_check_24 hm2 (rgc (-2) rfl) hF
  · refine x_iload_n hC dX12_check_8 rfl 2 rfl ?_
    refine x_if_lt (tgt := 22) hC dX12_check_9 rfl rfl ha2 hF (fun hq4 hF => ?_) (fun hq4 hF => ?_)
    · refine x_bipush hC dX12_check_22 rfl rfl ?_
      exact x_ireturn hC dX12_check_24 hm2 (rgc (-2) rfl) hF
    · refine x_iload_n hC dX12_check_12 rfl 2 rfl ?_
      refine x_aload_n hC dX12_check_13 rfl 0 rfl ?_
      refine x_getI hC dX12_check_14 rfl flX12_161 rfl (by decide) rfl rfl ?_
      refine x_iconst hC dX12_check_17 rfl ?_
      refine x_idiv hC dX12_check_18 rfl (hm2.i 54 1 rfl) (rgc 4 rfl) hF (fun hz5 hF => ?_)
      refine x_icmp_le (tgt := 25) hC dX12_check_19 rfl rfl ha2 (rg_wr _) hF (fun hq6 hF => ?_) (fun hq6 hF => ?_)
      · refine x_aload_n hC dX12_check_25 rfl 0 rfl ?_
        refine x_iconst hC dX12_check_26 rfl ?_
        refine x_putI hC dX12_check_27 rfl fpX12_161 rfl (by decide) (by decide) rfl rfl hm2 (rgc 0 rfl) rfl hF (fun m7 hm7 hF => ?_)
        refine x_aload_n hC dX12_check_30 rfl 0 rfl ?_
        refine x_iload_n hC dX12_check_31 rfl 1 rfl ?_
        refine x_callV0 (kc2 := 0) (ks2 := 0) (k := 54) (As := [iV a1]) (rest := []) hC dX12_check_32 rfl hm7 (fun _ _ h => T_X12_laysHearings b _ m7 a1 ha1 h) mlX12_364 vlX12_laysHearings rfl (by decide) rfl rfl (Nat.le_of_ble_eq_true rfl) (by decide) (by decide) rfl rfl hF (fun r8 m9 hr8 hm9 hF => ?_)
        refine x_iconst hC dX12_check_35 rfl ?_
        refine x_istore_nZ (lv' := [(0, .ref (b.1 + 54)), (1, iV a1), (2, iV a2)]) hC dX12_check_36 rfl rfl (by decide) rfl (Or.inl rfl) hF (fun x10 hx10 hF => ?_)
        refine x_sub [1, 2, 3, 0] rfl ?_
        exact WL_X12_check_37 hC 100000  a1 ha1 a2 ha2 x10 (rg_01 hx10) m9 hm9 hF
      · refine x_bipush hC dX12_check_22 rfl rfl ?_
        exact x_ireturn hC dX12_check_24 hm2 (rgc (-2) rfl) hF
set_option maxRecDepth 20000 in
set_option maxHeartbeats 4000000 in
theorem T_X12_count (b : Bs) (o : Mm) (m : Mm) (a1 : Int) (ha1 : inR a1) {r : Int} {m' : Mm} (h : F_X12_count a1 m = some (r, m')) : Cn yX12_count cX12_count 2 (some .int) (1) 0 0 1 b (false, o) m [.ref (b.1 + 54), iV a1] (F_X12_count a1 m) := by
  refine Cn_of rfl (Nat.le_of_ble_eq_true rfl) (fun g hC hm => ?_)
  have hF := okR_some h
  generalize hQ : (fun (r : Int) (m' : Mm) => F_X12_count a1 m = some (r, m')) = Q at hF ⊢
  clear hQ h
  replace hC : Cok g b RX12 cX12_count 2 1 (some .int) := hC
  refine x_lv (lv' := [(0, .ref (b.1 + 54)), (1, iV a1)]) rfl ?_
  unfold F_X12_count at hF
  refine x_iload_n hC dX12_count_0 rfl 1 rfl ?_
  refine x_i2l hC dX12_count_1 rfl ha1 ?_
  refine x_ldc2 (x := 10) hC dX12_count_2 rfl kwX12_402 ?_
  refine x_bipush hC dX12_count_5 rfl rfl ?_
  refine x_aload_n hC dX12_count_7 rfl 0 rfl ?_
  refine x_getI hC dX12_count_8 rfl flX12_144 rfl (by decide) rfl rfl ?_
  refine x_iadd hC dX12_count_11 rfl ?_
  refine x_i2l hC dX12_count_12 rfl (rg_wr _) ?_
  refine x_callS3 (kc2 := 0) (ks2 := 0) (As := [lV a1, lV 10, lV (wr (9 + (m 54 2)))]) (rest := []) hC dX12_count_13 rfl hm (fun _ _ h => T_X12_lies b _ m a1 (rg_RL ha1) 10 (rgcL 10 rfl) (wr (9 + (m 54 2))) (rg_RL (rg_wr _)) h) mlX12_147 vsX12_lies rfl rfl (Nat.le_of_ble_eq_true rfl) (by decide) (by decide) rfl rfl hF (fun r1 m2 hr1 hm2 hF => ?_)
  refine x_if_eq (tgt := 29) hC dX12_count_16 rfl rfl (rg_01 hr1) hF (fun hq3 hF => ?_) (fun hq3 hF => ?_)
  · refine x_iload_n hC dX12_count_29 rfl 1 rfl ?_
    refine x_i2l hC dX12_count_30 rfl ha1 ?_
    refine x_ldc2 (x := 20) hC dX12_count_31 rfl kwX12_506 ?_
    refine x_bipush hC dX12_count_34 rfl rfl ?_
    refine x_iconst hC dX12_count_36 rfl ?_
    refine x_aload_n hC dX12_count_37 rfl 0 rfl ?_
    refine x_getI hC dX12_count_38 rfl flX12_144 rfl (by decide) rfl rfl ?_
    refine x_imul hC dX12_count_41 rfl ?_
    refine x_iadd hC dX12_count_42 rfl ?_
    refine x_i2l hC dX12_count_43 rfl (rg_wr _) ?_
    refine x_callS3 (kc2 := 0) (ks2 := 0) (As := [lV a1, lV 20, lV (wr (19 + (wr (4 * (m2 54 2)))))]) (rest := []) hC dX12_count_44 rfl hm2 (fun _ _ h => T_X12_lies b _ m2 a1 (rg_RL ha1) 20 (rgcL 20 rfl) (wr (19 + (wr (4 * (m2 54 2))))) (rg_RL (rg_wr _)) h) mlX12_147 vsX12_lies rfl rfl (Nat.le_of_ble_eq_true rfl) (by decide) (by decide) rfl rfl hF (fun r4 m5 hr4 hm5 hF => ?_)
    refine x_if_eq (tgt := 84) hC dX12_count_47 rfl rfl (rg_01 hr4) hF (fun hq6 hF => ?_) (fun hq6 hF => ?_)
    · refine x_iload_n hC dX12_count_84 rfl 1 rfl ?_
      refine x_tab1 (v := 0) (off := 43) (tgt := 128) hC dX12_count_85 (by decide) rfl ha1 hF (fun hq7 hF => ?_) (fun hq7 hF => ?_)
      · refine x_aload_n hC dX12_count_128 rfl 0 rfl ?_
        refine x_getI hC dX12_count_129 rfl flX12_144 rfl (by decide) rfl rfl ?_
        exact x_ireturn hC dX12_count_132 hm5 (hm5.i 54 2 rfl) hF
      refine x_tab1 (v := 1) (off := 48) (tgt := 133) hC dX12_count_85 (by decide) rfl ha1 hF (fun hq8 hF => ?_) (fun hq8 hF => ?_)
      · refine x_aload_n hC dX12_count_133 rfl 0 rfl ?_
        refine x_getI hC dX12_count_134 rfl flX12_332 rfl (by decide) rfl rfl ?_
        exact x_ireturn hC dX12_count_137 hm5 (hm5.i 54 5 rfl) hF
      refine x_tab1 (v := 2) (off := 53) (tgt := 138) hC dX12_count_85 (by decide) rfl ha1 hF (fun hq9 hF => ?_) (fun hq9 hF => ?_)
      · refine x_aload_n hC dX12_count_138 rfl 0 rfl ?_
        refine x_getI hC dX12_count_139 rfl flX12_274 rfl (by decide) rfl rfl ?_
        exact x_ireturn hC dX12_count_142 hm5 (hm5.i 54 14 rfl) hF
      refine x_tab1 (v := 3) (off := 58) (tgt := 143) hC dX12_count_85 (by decide) rfl ha1 hF (fun hq10 hF => ?_) (fun hq10 hF => ?_)
      · refine x_aload_n hC dX12_count_143 rfl 0 rfl ?_
        refine x_getI hC dX12_count_144 rfl flX12_161 rfl (by decide) rfl rfl ?_
        exact x_ireturn hC dX12_count_147 hm5 (hm5.i 54 1 rfl) hF
      refine x_tab1 (v := 4) (off := 63) (tgt := 148) hC dX12_count_85 (by decide) rfl ha1 hF (fun hq11 hF => ?_) (fun hq11 hF => ?_)
      · refine x_aload_n hC dX12_count_148 rfl 0 rfl ?_
        refine x_getI hC dX12_count_149 rfl flX12_20 rfl (by decide) rfl rfl ?_
        exact x_ireturn hC dX12_count_152 hm5 (hm5.i 54 6 rfl) hF
      refine x_tab1 (v := 5) (off := 68) (tgt := 153) hC dX12_count_85 (by decide) rfl ha1 hF (fun hq12 hF => ?_) (fun hq12 hF => ?_)
      · refine x_aload_n hC dX12_count_153 rfl 0 rfl ?_
        refine x_getI hC dX12_count_154 rfl flX12_13 rfl (by decide) rfl rfl ?_
        exact x_ireturn hC dX12_count_157 hm5 (hm5.i 54 3 rfl) hF
      refine x_tab1 (v := 6) (off := 73) (tgt := 158) hC dX12_count_85 (by decide) rfl ha1 hF (fun hq13 hF => ?_) (fun hq13 hF => ?_)
      · refine x_aload_n hC dX12_count_158 rfl 0 rfl ?_
        refine x_getI hC dX12_count_159 rfl flX12_17 rfl (by decide) rfl rfl ?_
        exact x_ireturn hC dX12_count_162 hm5 (hm5.i 54 4 rfl) hF
      refine x_tabD (tgt := 163) [0, 1, 2, 3, 4, 5, 6] hC dX12_count_85 rfl ha1 rfl (List.forall_mem_cons.mpr ⟨hq7, (List.forall_mem_cons.mpr ⟨hq8, (List.forall_mem_cons.mpr ⟨hq9, (List.forall_mem_cons.mpr ⟨hq10, (List.forall_mem_cons.mpr ⟨hq11, (List.forall_mem_cons.mpr ⟨hq12, (List.forall_mem_cons.mpr ⟨hq13, (fun _ h => absurd h List.not_mem_nil)⟩)⟩)⟩)⟩)⟩)⟩)⟩) ?_
      refine x_iconst hC dX12_count_163 rfl ?_
      exact x_ireturn hC dX12_count_164 hm5 (rgc (-1) rfl) hF
    · refine x_iload_n hC dX12_count_50 rfl 1 rfl ?_
      refine x_bipush hC dX12_count_51 rfl rfl ?_
      refine x_isub hC dX12_count_53 rfl ?_
      refine x_iconst hC dX12_count_54 rfl ?_
      refine x_irem hC dX12_count_55 rfl (rg_wr _) (rgc 4 rfl) hF (fun hz14 hF => ?_)
      refine x_aload_n hC dX12_count_56 rfl 0 rfl ?_
      refine x_getR (t := 59) hC dX12_count_57 rfl flX12_33 rfl (by decide) rfl rfl ?_
      refine x_iload_n hC dX12_count_60 rfl 1 rfl ?_
      refine x_bipush hC dX12_count_61 rfl rfl ?_
      refine x_isub hC dX12_count_63 rfl ?_
      refine x_iconst hC dX12_count_64 rfl ?_
      refine x_idiv hC dX12_count_65 rfl (rg_wr _) (rgc 4 rfl) hF (fun hz15 hF => ?_)
      refine x_iald hC dX12_count_66 rfl rfl (by decide) rfl hm5 (rg_wr _) hF (fun x16 hx16 hF => ?_)
      refine x_icmp_ge (tgt := 82) hC dX12_count_67 rfl rfl (rg_wr _) hx16 hF (fun hq17 hF => ?_) (fun hq17 hF => ?_)
      · refine x_iconst hC dX12_count_82 rfl ?_
        exact x_ireturn hC dX12_count_83 hm5 (rgc (-1) rfl) hF
      · refine x_aload_n hC dX12_count_70 rfl 0 rfl ?_
        refine x_getR (t := 60) hC dX12_count_71 rfl flX12_36 rfl (by decide) rfl rfl ?_
        refine x_iload_n hC dX12_count_74 rfl 1 rfl ?_
        refine x_bipush hC dX12_count_75 rfl rfl ?_
        refine x_isub hC dX12_count_77 rfl ?_
        refine x_iald hC dX12_count_78 rfl rfl (by decide) rfl hm5 (rg_wr _) hF (fun x18 hx18 hF => ?_)
        refine x_goto (tgt := 83) hC dX12_count_79 rfl ?_
        exact x_ireturn hC dX12_count_83 hm5 hx18 hF
  · refine x_aload_n hC dX12_count_19 rfl 0 rfl ?_
    refine x_getR (t := 59) hC dX12_count_20 rfl flX12_33 rfl (by decide) rfl rfl ?_
    refine x_iload_n hC dX12_count_23 rfl 1 rfl ?_
    refine x_bipush hC dX12_count_24 rfl rfl ?_
    refine x_isub hC dX12_count_26 rfl ?_
    refine x_iald hC dX12_count_27 rfl rfl (by decide) rfl hm2 (rg_wr _) hF (fun x19 hx19 hF => ?_)
    exact x_ireturn hC dX12_count_28 hm2 hx19 hF

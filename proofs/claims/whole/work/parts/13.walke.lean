set_option maxRecDepth 20000 in
set_option maxHeartbeats 4000000 in
theorem T_X12_puts (b : Bs) (o : Mm) (m : Mm) (a1 : Int) (ha1 : inR a1) {r : Int} {m' : Mm} (h : F_X12_puts a1 m = some (r, m')) : Cn yX12_puts cX12_puts 2 none (0) 0 0 0 b (false, o) m [.ref (b.1 + 54), iV a1] (F_X12_puts a1 m) := by
  refine Cn_of rfl (Nat.le_of_ble_eq_true rfl) (fun g hC hm => ?_)
  have hF := okR_some h
  generalize hQ : (fun (r : Int) (m' : Mm) => F_X12_puts a1 m = some (r, m')) = Q at hF ⊢
  clear hQ h
  replace hC : Cok g b RX12 cX12_puts 2 0 none := hC
  refine x_lv (lv' := [(0, .ref (b.1 + 54)), (1, iV a1)]) rfl ?_
  unfold F_X12_puts at hF
  refine x_aload_n hC dX12_puts_0 rfl 0 rfl ?_
  refine x_getR (t := 75) hC dX12_puts_1 rfl flX12_81 rfl (by decide) rfl rfl ?_
  refine x_aload_n hC dX12_puts_4 rfl 0 rfl ?_
  refine x_getI hC dX12_puts_5 rfl flX12_184 rfl (by decide) rfl rfl ?_
  refine x_iload_n hC dX12_puts_8 rfl 1 rfl ?_
  refine x_iast hC dX12_puts_9 rfl rfl (by decide) rfl hm (hm.i 54 33 rfl) ha1 hF (fun m1 hm1 hF => ?_)
  refine x_aload_n hC dX12_puts_10 rfl 0 rfl ?_
  refine x_dup hC dX12_puts_11 rfl rfl ?_
  refine x_getI hC dX12_puts_12 rfl flX12_184 rfl (by decide) rfl rfl ?_
  refine x_iconst hC dX12_puts_15 rfl ?_
  refine x_iadd hC dX12_puts_16 rfl ?_
  refine x_putI hC dX12_puts_17 rfl fpX12_184 rfl (by decide) (by decide) rfl rfl hm1 (rg_wr _) rfl hF (fun m2 hm2 hF => ?_)
  refine x_aload_n hC dX12_puts_20 rfl 0 rfl ?_
  refine x_dup hC dX12_puts_21 rfl rfl ?_
  refine x_getI hC dX12_puts_22 rfl flX12_168 rfl (by decide) rfl rfl ?_
  refine x_iconst hC dX12_puts_25 rfl ?_
  refine x_iadd hC dX12_puts_26 rfl ?_
  refine x_putI hC dX12_puts_27 rfl fpX12_168 rfl (by decide) (by decide) rfl rfl hm2 (rg_wr _) rfl hF (fun m3 hm3 hF => ?_)
  exact x_return hC dX12_puts_30 hm3 hF
set_option maxRecDepth 20000 in
set_option maxHeartbeats 4000000 in
theorem WJ_X12_opens_18 {g : Gx} {b : Bs} {o : Mm} {Q : Int → Mm → Prop} (hC : Cok g b RX12 cX12_opens 1 1 none) (m : Mm) (hm : Rg m) (hF : okR (J_X12_opens_18  m) Q) : X g b (false, o) 1 (ZM g b (false, o) 0 Q) 18 [(0, .ref (b.1 + 54))] [] m 0 0 := by
  unfold J_X12_opens_18 at hF
  refine x_aload_n hC dX12_opens_18 rfl 0 rfl ?_
  refine x_dup hC dX12_opens_19 rfl rfl ?_
  refine x_getI hC dX12_opens_20 rfl flX12_187 rfl (by decide) rfl rfl ?_
  refine x_iconst hC dX12_opens_23 rfl ?_
  refine x_iadd hC dX12_opens_24 rfl ?_
  refine x_putI hC dX12_opens_25 rfl fpX12_187 rfl (by decide) (by decide) rfl rfl hm (rg_wr _) rfl hF (fun m1 hm1 hF => ?_)
  refine x_aload_n hC dX12_opens_28 rfl 0 rfl ?_
  refine x_aload_n hC dX12_opens_29 rfl 0 rfl ?_
  refine x_callV1 (kc2 := 0) (ks2 := 0) (k := 54) (As := []) (rest := [.ref (b.1 + 54)]) hC dX12_opens_30 rfl hm1 (fun _ _ h => T_X12_here b _ m1  h) mlX12_194 vlX12_here rfl (by decide) rfl rfl (Nat.le_of_ble_eq_true rfl) (by decide) (by decide) rfl rfl hF (fun r2 m3 hr2 hm3 hF => ?_)
  refine x_callV0 (kc2 := 0) (ks2 := 0) (k := 54) (As := [iV r2]) (rest := []) hC dX12_opens_33 rfl hm3 (fun _ _ h => T_X12_puts b _ m3 r2 hr2 h) mlX12_198 vlX12_puts rfl (by decide) rfl rfl (Nat.le_of_ble_eq_true rfl) (by decide) (by decide) rfl rfl hF (fun r4 m5 hr4 hm5 hF => ?_)
  exact x_return hC dX12_opens_36 hm5 hF
set_option maxRecDepth 20000 in
set_option maxHeartbeats 4000000 in
theorem T_X12_opens (b : Bs) (o : Mm) (m : Mm) {r : Int} {m' : Mm} (h : F_X12_opens  m = some (r, m')) : Cn yX12_opens cX12_opens 1 none (1) 0 0 0 b (false, o) m [.ref (b.1 + 54)] (F_X12_opens  m) := by
  refine Cn_of rfl (Nat.le_of_ble_eq_true rfl) (fun g hC hm => ?_)
  have hF := okR_some h
  generalize hQ : (fun (r : Int) (m' : Mm) => F_X12_opens  m = some (r, m')) = Q at hF ⊢
  clear hQ h
  replace hC : Cok g b RX12 cX12_opens 1 1 none := hC
  refine x_lv (lv' := [(0, .ref (b.1 + 54))]) rfl ?_
  unfold F_X12_opens at hF
  refine x_aload_n hC dX12_opens_0 rfl 0 rfl ?_
  refine x_getI hC dX12_opens_1 rfl flX12_187 rfl (by decide) rfl rfl ?_
  refine x_bipush hC dX12_opens_4 rfl rfl ?_
  refine x_icmp_ne (tgt := 18) hC dX12_opens_6 rfl rfl (hm.i 54 32 rfl) (rgc 6 rfl) hF (fun hq1 hF => ?_) (fun hq1 hF => ?_)
  · exact WJ_X12_opens_18 hC   m hm hF
  · refine x_aload_n hC dX12_opens_9 rfl 0 rfl ?_
    refine x_iconst hC dX12_opens_10 rfl ?_
    refine x_aload_n hC dX12_opens_11 rfl 0 rfl ?_
    refine x_getI hC dX12_opens_12 rfl flX12_168 rfl (by decide) rfl rfl ?_
    refine x_callV0 (kc2 := 0) (ks2 := 0) (k := 54) (As := [iV 5, iV (m 54 27)]) (rest := []) hC dX12_opens_15 rfl hm (fun _ _ h => T_X12_wrongs b _ m 5 (rgc 5 rfl) (m 54 27) (hm.i 54 27 rfl) h) mlX12_190 vlX12_wrongs rfl (by decide) rfl rfl (Nat.le_of_ble_eq_true rfl) (by decide) (by decide) rfl rfl hF (fun r2 m3 hr2 hm3 hF => ?_)
    exact WJ_X12_opens_18 hC   m3 hm3 hF
set_option maxRecDepth 20000 in
set_option maxHeartbeats 4000000 in
theorem T_X12_seesDigit (b : Bs) (o : Mm) (m : Mm) {r : Int} {m' : Mm} (h : F_X12_seesDigit  m = some (r, m')) : Cn yX12_seesDigit cX12_seesDigit 1 (some .boolean) (1) 0 0 3 b (false, o) m [.ref (b.1 + 54)] (F_X12_seesDigit  m) := by
  refine Cn_of rfl (Nat.le_of_ble_eq_true rfl) (fun g hC hm => ?_)
  have hF := okR_some h
  generalize hQ : (fun (r : Int) (m' : Mm) => F_X12_seesDigit  m = some (r, m')) = Q at hF ⊢
  clear hQ h
  replace hC : Cok g b RX12 cX12_seesDigit 1 1 (some .boolean) := hC
  refine x_lv (lv' := [(0, .ref (b.1 + 54))]) rfl ?_
  unfold F_X12_seesDigit at hF
  refine x_aload_n hC dX12_seesDigit_0 rfl 0 rfl ?_
  refine x_callV1 (kc2 := 0) (ks2 := 0) (k := 54) (As := []) (rest := []) hC dX12_seesDigit_1 rfl hm (fun _ _ h => T_X12_here b _ m  h) mlX12_194 vlX12_here rfl (by decide) rfl rfl (Nat.le_of_ble_eq_true rfl) (by decide) (by decide) rfl rfl hF (fun r1 m2 hr1 hm2 hF => ?_)
  refine x_i2l hC dX12_seesDigit_4 rfl hr1 ?_
  refine x_ldc2 (x := 48) hC dX12_seesDigit_5 rfl kwX12_201 ?_
  refine x_ldc2 (x := 57) hC dX12_seesDigit_8 rfl kwX12_203 ?_
  refine x_callS3 (kc2 := 0) (ks2 := 0) (As := [lV r1, lV 48, lV 57]) (rest := []) hC dX12_seesDigit_11 rfl hm2 (fun _ _ h => T_X12_lies b _ m2 r1 (rg_RL hr1) 48 (rgcL 48 rfl) 57 (rgcL 57 rfl) h) mlX12_147 vsX12_lies rfl rfl (Nat.le_of_ble_eq_true rfl) (by decide) (by decide) rfl rfl hF (fun r3 m4 hr3 hm4 hF => ?_)
  exact x_zreturn hC dX12_seesDigit_14 hm4 hr3 hF
set_option maxRecDepth 20000 in
set_option maxHeartbeats 4000000 in
theorem WJ_X12_reads_40 {g : Gx} {b : Bs} {o : Mm} {Q : Int → Mm → Prop} {k_7 : Int → Int → Mm → Rs} (hC : Cok g b RX12 cX12_reads 3 2 (some .int)) (hk_7 : ∀ v1 : Int, inR v1 → ∀ v2 : Int, inR v2 → ∀ m : Mm, Rg m → okR (k_7 v1 v2 m) Q → X g b (false, o) 3 (ZM g b (false, o) 1 Q) 7 [(0, .ref (b.1 + 54)), (1, iV v1), (2, iV v2)] [] m 0 0) (v1 : Int) (hv1 : inR v1) (v2 : Int) (hv2 : inR v2) (m : Mm) (hm : Rg m) (hF : okR (J_X12_reads_40 k_7 v1 v2 m) Q) : X g b (false, o) 3 (ZM g b (false, o) 1 Q) 40 [(0, .ref (b.1 + 54)), (1, iV v1), (2, iV v2)] [] m 0 0 := by
  unfold J_X12_reads_40 at hF
  refine x_bipush hC dX12_reads_40 rfl rfl ?_
  refine x_iload_n hC dX12_reads_42 rfl 2 rfl ?_
  refine x_imul hC dX12_reads_43 rfl ?_
  refine x_aload_n hC dX12_reads_44 rfl 0 rfl ?_
  refine x_callV1 (kc2 := 0) (ks2 := 0) (k := 54) (As := []) (rest := [iV (wr (10 * v2))]) hC dX12_reads_45 rfl hm (fun _ _ h => T_X12_here b _ m  h) mlX12_194 vlX12_here rfl (by decide) rfl rfl (Nat.le_of_ble_eq_true rfl) (by decide) (by decide) rfl rfl hF (fun r1 m2 hr1 hm2 hF => ?_)
  refine x_iadd hC dX12_reads_48 rfl ?_
  refine x_bipush hC dX12_reads_49 rfl rfl ?_
  refine x_isub hC dX12_reads_51 rfl ?_
  refine x_istore_n (lv' := [(0, .ref (b.1 + 54)), (1, iV v1)]) hC dX12_reads_52 rfl rfl (by decide) rfl (rg_wr _) hF (fun x3 hx3 hF => ?_)
  refine x_aload_n hC dX12_reads_53 rfl 1 rfl ?_
  refine x_dup hC dX12_reads_54 rfl rfl ?_
  refine x_getI hC dX12_reads_55 rfl flX12_168 rfl (by decide) rfl rfl ?_
  refine x_iconst hC dX12_reads_58 rfl ?_
  refine x_iadd hC dX12_reads_59 rfl ?_
  refine x_putI hC dX12_reads_60 rfl fpX12_168 rfl (by decide) (by decide) rfl rfl hm2 (rg_wr _) rfl hF (fun m4 hm4 hF => ?_)
  refine x_goto (tgt := 7) hC dX12_reads_63 rfl ?_
  refine x_sub [1, 2, 0] rfl ?_
  exact hk_7 v1 hv1 x3 hx3 m4 hm4 hF
set_option maxRecDepth 20000 in
set_option maxHeartbeats 4000000 in
theorem WL_X12_reads_7 {g : Gx} {b : Bs} {o : Mm} {Q : Int → Mm → Prop} (hC : Cok g b RX12 cX12_reads 3 2 (some .int)) : ∀ n : Nat, ∀ v1 : Int, inR v1 → ∀ v2 : Int, inR v2 → ∀ m : Mm, Rg m → okR (L_X12_reads_7 n v1 v2 m) Q → X g b (false, o) 3 (ZM g b (false, o) 1 Q) 7 [(0, .ref (b.1 + 54)), (1, iV v1), (2, iV v2)] [] m 0 0 := by
  intro n
  induction n with
  | zero => intro v1 hv1 v2 hv2 m hm hF; exact absurd hF (fun z => z)
  | succ n ih =>
    intro v1 hv1 v2 hv2 m hm hF
    have hF : okR (LB_X12_reads_7 (L_X12_reads_7 n) v1 v2 m) Q := hF
    unfold LB_X12_reads_7 at hF
    refine x_aload_n hC dX12_reads_7 rfl 0 rfl ?_
    refine x_callV3 (kc2 := 0) (ks2 := 0) (k := 54) (As := []) (rest := []) hC dX12_reads_8 rfl hm (fun _ _ h => T_X12_isGood b _ m  h) mlX12_177 vlX12_isGood rfl (by decide) rfl rfl (Nat.le_of_ble_eq_true rfl) (by decide) (by decide) rfl rfl hF (fun r1 m2 hr1 hm2 hF => ?_)
    refine x_if_eq (tgt := 66) hC dX12_reads_11 rfl rfl (rg_01 hr1) hF (fun hq3 hF => ?_) (fun hq3 hF => ?_)
    · refine x_iload_n hC dX12_reads_66 rfl 2 rfl ?_
      exact x_ireturn hC dX12_reads_67 hm2 hv2 hF
    · refine x_aload_n hC dX12_reads_14 rfl 0 rfl ?_
      refine x_callV3 (kc2 := 0) (ks2 := 0) (k := 54) (As := []) (rest := []) hC dX12_reads_15 rfl hm2 (fun _ _ h => T_X12_seesDigit b _ m2  h) mlX12_205 vlX12_seesDigit rfl (by decide) rfl rfl (Nat.le_of_ble_eq_true rfl) (by decide) (by decide) rfl rfl hF (fun r4 m5 hr4 hm5 hF => ?_)
      refine x_if_eq (tgt := 66) hC dX12_reads_18 rfl rfl (rg_01 hr4) hF (fun hq6 hF => ?_) (fun hq6 hF => ?_)
      · refine x_iload_n hC dX12_reads_66 rfl 2 rfl ?_
        exact x_ireturn hC dX12_reads_67 hm5 hv2 hF
      · refine x_aload_n hC dX12_reads_21 rfl 0 rfl ?_
        refine x_getI hC dX12_reads_22 rfl flX12_168 rfl (by decide) rfl rfl ?_
        refine x_iload_n hC dX12_reads_25 rfl 1 rfl ?_
        refine x_iconst hC dX12_reads_26 rfl ?_
        refine x_iadd hC dX12_reads_27 rfl ?_
        refine x_icmp_ne (tgt := 40) hC dX12_reads_28 rfl rfl (hm5.i 54 27 rfl) (rg_wr _) hF (fun hq7 hF => ?_) (fun hq7 hF => ?_)
        · exact WJ_X12_reads_40 hC ih  v1 hv1 v2 hv2 m5 hm5 hF
        · refine x_aload_n hC dX12_reads_31 rfl 0 rfl ?_
          refine x_iconst hC dX12_reads_32 rfl ?_
          refine x_aload_n hC dX12_reads_33 rfl 0 rfl ?_
          refine x_getI hC dX12_reads_34 rfl flX12_168 rfl (by decide) rfl rfl ?_
          refine x_callV0 (kc2 := 0) (ks2 := 0) (k := 54) (As := [iV 2, iV (m5 54 27)]) (rest := []) hC dX12_reads_37 rfl hm5 (fun _ _ h => T_X12_wrongs b _ m5 2 (rgc 2 rfl) (m5 54 27) (hm5.i 54 27 rfl) h) mlX12_190 vlX12_wrongs rfl (by decide) rfl rfl (Nat.le_of_ble_eq_true rfl) (by decide) (by decide) rfl rfl hF (fun r8 m9 hr8 hm9 hF => ?_)
          exact WJ_X12_reads_40 hC ih  v1 hv1 v2 hv2 m9 hm9 hF
set_option maxRecDepth 20000 in
set_option maxHeartbeats 4000000 in
theorem T_X12_reads (b : Bs) (o : Mm) (m : Mm) {r : Int} {m' : Mm} (h : F_X12_reads  m = some (r, m')) : Cn yX12_reads cX12_reads 3 (some .int) (2) 0 0 1 b (false, o) m [.ref (b.1 + 54)] (F_X12_reads  m) := by
  refine Cn_of rfl (Nat.le_of_ble_eq_true rfl) (fun g hC hm => ?_)
  have hF := okR_some h
  generalize hQ : (fun (r : Int) (m' : Mm) => F_X12_reads  m = some (r, m')) = Q at hF ⊢
  clear hQ h
  replace hC : Cok g b RX12 cX12_reads 3 2 (some .int) := hC
  refine x_lv (lv' := [(0, .ref (b.1 + 54))]) rfl ?_
  unfold F_X12_reads at hF
  refine x_aload_n hC dX12_reads_0 rfl 0 rfl ?_
  refine x_getI hC dX12_reads_1 rfl flX12_168 rfl (by decide) rfl rfl ?_
  refine x_istore_n (lv' := [(0, .ref (b.1 + 54))]) hC dX12_reads_4 rfl rfl (by decide) rfl (hm.i 54 27 rfl) hF (fun x1 hx1 hF => ?_)
  refine x_iconst hC dX12_reads_5 rfl ?_
  refine x_istore_nZ (lv' := [(1, iV x1), (0, .ref (b.1 + 54))]) hC dX12_reads_6 rfl rfl (by decide) rfl (Or.inl rfl) hF (fun x2 hx2 hF => ?_)
  refine x_sub [2, 1, 0] rfl ?_
  exact WL_X12_reads_7 hC 100000  x1 hx1 x2 (rg_01 hx2) m hm hF
set_option maxRecDepth 20000 in
set_option maxHeartbeats 4000000 in
theorem T_X12_isTimes (b : Bs) (o : Mm) (m : Mm) (a1 : Int) (ha1 : inR a1) {r : Int} {m' : Mm} (h : F_X12_isTimes a1 m = some (r, m')) : Cn yX12_isTimes cX12_isTimes 1 (some .boolean) (0) 0 0 3 b (false, o) m [iV a1] (F_X12_isTimes a1 m) := by
  refine Cn_of rfl (Nat.le_of_ble_eq_true rfl) (fun g hC hm => ?_)
  have hF := okR_some h
  generalize hQ : (fun (r : Int) (m' : Mm) => F_X12_isTimes a1 m = some (r, m')) = Q at hF ⊢
  clear hQ h
  replace hC : Cok g b RX12 cX12_isTimes 1 0 (some .boolean) := hC
  refine x_lv (lv' := [(0, iV a1)]) rfl ?_
  unfold F_X12_isTimes at hF
  refine x_iload_n hC dX12_isTimes_0 rfl 0 rfl ?_
  refine x_bipush hC dX12_isTimes_1 rfl rfl ?_
  refine x_icmp_eq (tgt := 18) hC dX12_isTimes_3 rfl rfl ha1 (rgc 42 rfl) hF (fun hq1 hF => ?_) (fun hq1 hF => ?_)
  · refine x_iconst hC dX12_isTimes_18 rfl ?_
    refine x_goto (tgt := 23) hC dX12_isTimes_19 rfl ?_
    exact x_zreturn hC dX12_isTimes_23 hm (Or.inr rfl) hF
  · refine x_iload_n hC dX12_isTimes_6 rfl 0 rfl ?_
    refine x_bipush hC dX12_isTimes_7 rfl rfl ?_
    refine x_icmp_eq (tgt := 18) hC dX12_isTimes_9 rfl rfl ha1 (rgc 47 rfl) hF (fun hq2 hF => ?_) (fun hq2 hF => ?_)
    · refine x_iconst hC dX12_isTimes_18 rfl ?_
      refine x_goto (tgt := 23) hC dX12_isTimes_19 rfl ?_
      exact x_zreturn hC dX12_isTimes_23 hm (Or.inr rfl) hF
    · refine x_iload_n hC dX12_isTimes_12 rfl 0 rfl ?_
      refine x_bipush hC dX12_isTimes_13 rfl rfl ?_
      refine x_icmp_ne (tgt := 22) hC dX12_isTimes_15 rfl rfl ha1 (rgc 37 rfl) hF (fun hq3 hF => ?_) (fun hq3 hF => ?_)
      · refine x_iconst hC dX12_isTimes_22 rfl ?_
        exact x_zreturn hC dX12_isTimes_23 hm (Or.inl rfl) hF
      · refine x_iconst hC dX12_isTimes_18 rfl ?_
        refine x_goto (tgt := 23) hC dX12_isTimes_19 rfl ?_
        exact x_zreturn hC dX12_isTimes_23 hm (Or.inr rfl) hF
set_option maxRecDepth 20000 in
set_option maxHeartbeats 4000000 in
theorem T_X12_isPlus (b : Bs) (o : Mm) (m : Mm) (a1 : Int) (ha1 : inR a1) {r : Int} {m' : Mm} (h : F_X12_isPlus a1 m = some (r, m')) : Cn yX12_isPlus cX12_isPlus 1 (some .boolean) (0) 0 0 3 b (false, o) m [iV a1] (F_X12_isPlus a1 m) := by
  refine Cn_of rfl (Nat.le_of_ble_eq_true rfl) (fun g hC hm => ?_)
  have hF := okR_some h
  generalize hQ : (fun (r : Int) (m' : Mm) => F_X12_isPlus a1 m = some (r, m')) = Q at hF ⊢
  clear hQ h
  replace hC : Cok g b RX12 cX12_isPlus 1 0 (some .boolean) := hC
  refine x_lv (lv' := [(0, iV a1)]) rfl ?_
  unfold F_X12_isPlus at hF
  refine x_iload_n hC dX12_isPlus_0 rfl 0 rfl ?_
  refine x_bipush hC dX12_isPlus_1 rfl rfl ?_
  refine x_icmp_eq (tgt := 12) hC dX12_isPlus_3 rfl rfl ha1 (rgc 43 rfl) hF (fun hq1 hF => ?_) (fun hq1 hF => ?_)
  · refine x_iconst hC dX12_isPlus_12 rfl ?_
    refine x_goto (tgt := 17) hC dX12_isPlus_13 rfl ?_
    exact x_zreturn hC dX12_isPlus_17 hm (Or.inr rfl) hF
  · refine x_iload_n hC dX12_isPlus_6 rfl 0 rfl ?_
    refine x_bipush hC dX12_isPlus_7 rfl rfl ?_
    refine x_icmp_ne (tgt := 16) hC dX12_isPlus_9 rfl rfl ha1 (rgc 45 rfl) hF (fun hq2 hF => ?_) (fun hq2 hF => ?_)
    · refine x_iconst hC dX12_isPlus_16 rfl ?_
      exact x_zreturn hC dX12_isPlus_17 hm (Or.inl rfl) hF
    · refine x_iconst hC dX12_isPlus_12 rfl ?_
      refine x_goto (tgt := 17) hC dX12_isPlus_13 rfl ?_
      exact x_zreturn hC dX12_isPlus_17 hm (Or.inr rfl) hF
set_option maxRecDepth 20000 in
set_option maxHeartbeats 4000000 in
theorem T_X12_isSign (b : Bs) (o : Mm) (m : Mm) (a1 : Int) (ha1 : inR a1) {r : Int} {m' : Mm} (h : F_X12_isSign a1 m = some (r, m')) : Cn yX12_isSign cX12_isSign 1 (some .boolean) (0) 0 0 3 b (false, o) m [iV a1] (F_X12_isSign a1 m) := by
  refine Cn_of rfl (Nat.le_of_ble_eq_true rfl) (fun g hC hm => ?_)
  have hF := okR_some h
  generalize hQ : (fun (r : Int) (m' : Mm) => F_X12_isSign a1 m = some (r, m')) = Q at hF ⊢
  clear hQ h
  replace hC : Cok g b RX12 cX12_isSign 1 0 (some .boolean) := hC
  refine x_lv (lv' := [(0, iV a1)]) rfl ?_
  unfold F_X12_isSign at hF
  refine x_iload_n hC dX12_isSign_0 rfl 0 rfl ?_
  refine x_bipush hC dX12_isSign_1 rfl rfl ?_
  refine x_icmp_eq (tgt := 18) hC dX12_isSign_3 rfl rfl ha1 (rgc 60 rfl) hF (fun hq1 hF => ?_) (fun hq1 hF => ?_)
  · refine x_iconst hC dX12_isSign_18 rfl ?_
    refine x_goto (tgt := 23) hC dX12_isSign_19 rfl ?_
    exact x_zreturn hC dX12_isSign_23 hm (Or.inr rfl) hF
  · refine x_iload_n hC dX12_isSign_6 rfl 0 rfl ?_
    refine x_bipush hC dX12_isSign_7 rfl rfl ?_
    refine x_icmp_eq (tgt := 18) hC dX12_isSign_9 rfl rfl ha1 (rgc 62 rfl) hF (fun hq2 hF => ?_) (fun hq2 hF => ?_)
    · refine x_iconst hC dX12_isSign_18 rfl ?_
      refine x_goto (tgt := 23) hC dX12_isSign_19 rfl ?_
      exact x_zreturn hC dX12_isSign_23 hm (Or.inr rfl) hF
    · refine x_iload_n hC dX12_isSign_12 rfl 0 rfl ?_
      refine x_bipush hC dX12_isSign_13 rfl rfl ?_
      refine x_icmp_ne (tgt := 22) hC dX12_isSign_15 rfl rfl ha1 (rgc 61 rfl) hF (fun hq3 hF => ?_) (fun hq3 hF => ?_)
      · refine x_iconst hC dX12_isSign_22 rfl ?_
        exact x_zreturn hC dX12_isSign_23 hm (Or.inl rfl) hF
      · refine x_iconst hC dX12_isSign_18 rfl ?_
        refine x_goto (tgt := 23) hC dX12_isSign_19 rfl ?_
        exact x_zreturn hC dX12_isSign_23 hm (Or.inr rfl) hF
set_option maxRecDepth 20000 in
set_option maxHeartbeats 4000000 in
theorem T_X12_isValue (b : Bs) (o : Mm) (m : Mm) (a1 : Int) (ha1 : inR a1) {r : Int} {m' : Mm} (h : F_X12_isValue a1 m = some (r, m')) : Cn yX12_isValue cX12_isValue 1 (some .boolean) (0) 0 0 3 b (false, o) m [iV a1] (F_X12_isValue a1 m) := by
  refine Cn_of rfl (Nat.le_of_ble_eq_true rfl) (fun g hC hm => ?_)
  have hF := okR_some h
  generalize hQ : (fun (r : Int) (m' : Mm) => F_X12_isValue a1 m = some (r, m')) = Q at hF ⊢
  clear hQ h
  replace hC : Cok g b RX12 cX12_isValue 1 0 (some .boolean) := hC
  refine x_lv (lv' := [(0, iV a1)]) rfl ?_
  unfold F_X12_isValue at hF
  refine x_iload_n hC dX12_isValue_0 rfl 0 rfl ?_
  refine x_bipush hC dX12_isValue_1 rfl rfl ?_
  refine x_icmp_eq (tgt := 60) hC dX12_isValue_3 rfl rfl ha1 (rgc 103 rfl) hF (fun hq1 hF => ?_) (fun hq1 hF => ?_)
  · refine x_iconst hC dX12_isValue_60 rfl ?_
    refine x_goto (tgt := 65) hC dX12_isValue_61 rfl ?_
    exact x_zreturn hC dX12_isValue_65 hm (Or.inr rfl) hF
  · refine x_iload_n hC dX12_isValue_6 rfl 0 rfl ?_
    refine x_bipush hC dX12_isValue_7 rfl rfl ?_
    refine x_icmp_eq (tgt := 60) hC dX12_isValue_9 rfl rfl ha1 (rgc 119 rfl) hF (fun hq2 hF => ?_) (fun hq2 hF => ?_)
    · refine x_iconst hC dX12_isValue_60 rfl ?_
      refine x_goto (tgt := 65) hC dX12_isValue_61 rfl ?_
      exact x_zreturn hC dX12_isValue_65 hm (Or.inr rfl) hF
    · refine x_iload_n hC dX12_isValue_12 rfl 0 rfl ?_
      refine x_bipush hC dX12_isValue_13 rfl rfl ?_
      refine x_icmp_eq (tgt := 60) hC dX12_isValue_15 rfl rfl ha1 (rgc 108 rfl) hF (fun hq3 hF => ?_) (fun hq3 hF => ?_)
      · refine x_iconst hC dX12_isValue_60 rfl ?_
        refine x_goto (tgt := 65) hC dX12_isValue_61 rfl ?_
        exact x_zreturn hC dX12_isValue_65 hm (Or.inr rfl) hF
      · refine x_iload_n hC dX12_isValue_18 rfl 0 rfl ?_
        refine x_bipush hC dX12_isValue_19 rfl rfl ?_
        refine x_icmp_eq (tgt := 60) hC dX12_isValue_21 rfl rfl ha1 (rgc 112 rfl) hF (fun hq4 hF => ?_) (fun hq4 hF => ?_)
        · refine x_iconst hC dX12_isValue_60 rfl ?_
          refine x_goto (tgt := 65) hC dX12_isValue_61 rfl ?_
          exact x_zreturn hC dX12_isValue_65 hm (Or.inr rfl) hF
        · refine x_iload_n hC dX12_isValue_24 rfl 0 rfl ?_
          refine x_bipush hC dX12_isValue_25 rfl rfl ?_
          refine x_icmp_eq (tgt := 60) hC dX12_isValue_27 rfl rfl ha1 (rgc 115 rfl) hF (fun hq5 hF => ?_) (fun hq5 hF => ?_)
          · refine x_iconst hC dX12_isValue_60 rfl ?_
            refine x_goto (tgt := 65) hC dX12_isValue_61 rfl ?_
            exact x_zreturn hC dX12_isValue_65 hm (Or.inr rfl) hF
          · refine x_iload_n hC dX12_isValue_30 rfl 0 rfl ?_
            refine x_bipush hC dX12_isValue_31 rfl rfl ?_
            refine x_icmp_eq (tgt := 60) hC dX12_isValue_33 rfl rfl ha1 (rgc 100 rfl) hF (fun hq6 hF => ?_) (fun hq6 hF => ?_)
            · refine x_iconst hC dX12_isValue_60 rfl ?_
              refine x_goto (tgt := 65) hC dX12_isValue_61 rfl ?_
              exact x_zreturn hC dX12_isValue_65 hm (Or.inr rfl) hF
            · refine x_iload_n hC dX12_isValue_36 rfl 0 rfl ?_
              refine x_bipush hC dX12_isValue_37 rfl rfl ?_
              refine x_icmp_eq (tgt := 60) hC dX12_isValue_39 rfl rfl ha1 (rgc 101 rfl) hF (fun hq7 hF => ?_) (fun hq7 hF => ?_)
              · refine x_iconst hC dX12_isValue_60 rfl ?_
                refine x_goto (tgt := 65) hC dX12_isValue_61 rfl ?_
                exact x_zreturn hC dX12_isValue_65 hm (Or.inr rfl) hF
              · refine x_iload_n hC dX12_isValue_42 rfl 0 rfl ?_
                refine x_bipush hC dX12_isValue_43 rfl rfl ?_
                refine x_icmp_eq (tgt := 60) hC dX12_isValue_45 rfl rfl ha1 (rgc 107 rfl) hF (fun hq8 hF => ?_) (fun hq8 hF => ?_)
                · refine x_iconst hC dX12_isValue_60 rfl ?_
                  refine x_goto (tgt := 65) hC dX12_isValue_61 rfl ?_
                  exact x_zreturn hC dX12_isValue_65 hm (Or.inr rfl) hF
                · refine x_iload_n hC dX12_isValue_48 rfl 0 rfl ?_
                  refine x_bipush hC dX12_isValue_49 rfl rfl ?_
                  refine x_icmp_eq (tgt := 60) hC dX12_isValue_51 rfl rfl ha1 (rgc 97 rfl) hF (fun hq9 hF => ?_) (fun hq9 hF => ?_)
                  · refine x_iconst hC dX12_isValue_60 rfl ?_
                    refine x_goto (tgt := 65) hC dX12_isValue_61 rfl ?_
                    exact x_zreturn hC dX12_isValue_65 hm (Or.inr rfl) hF
                  · refine x_iload_n hC dX12_isValue_54 rfl 0 rfl ?_
                    refine x_bipush hC dX12_isValue_55 rfl rfl ?_
                    refine x_icmp_ne (tgt := 64) hC dX12_isValue_57 rfl rfl ha1 (rgc 102 rfl) hF (fun hq10 hF => ?_) (fun hq10 hF => ?_)
                    · refine x_iconst hC dX12_isValue_64 rfl ?_
                      exact x_zreturn hC dX12_isValue_65 hm (Or.inl rfl) hF
                    · refine x_iconst hC dX12_isValue_60 rfl ?_
                      refine x_goto (tgt := 65) hC dX12_isValue_61 rfl ?_
                      exact x_zreturn hC dX12_isValue_65 hm (Or.inr rfl) hF
set_option maxRecDepth 20000 in
set_option maxHeartbeats 4000000 in
theorem WJ_X12_sums_24 {g : Gx} {b : Bs} {o : Mm} {Q : Int → Mm → Prop} {k_0 : Int → Mm → Rs} (hC : Cok g b RX12 cX12_sums 2 2 none) (hk_0 : ∀ v1 : Int, (v1 = 0 ∨ v1 = 1) → ∀ m : Mm, Rg m → okR (k_0 v1 m) Q → X g b (false, o) 2 (ZM g b (false, o) 0 Q) 0 [(0, .ref (b.1 + 54)), (1, iV v1)] [] m 0 0) (v1 : Int) (hv1 : (v1 = 0 ∨ v1 = 1)) (m : Mm) (hm : Rg m) (hF : okR (J_X12_sums_24 k_0 v1 m) Q) : X g b (false, o) 2 (ZM g b (false, o) 0 Q) 24 [(0, .ref (b.1 + 54)), (1, iV v1)] [] m 0 0 := by
  unfold J_X12_sums_24 at hF
  refine x_aload_n hC dX12_sums_24 rfl 0 rfl ?_
  refine x_aload_n hC dX12_sums_25 rfl 0 rfl ?_
  refine x_callV1 (kc2 := 0) (ks2 := 0) (k := 54) (As := []) (rest := [.ref (b.1 + 54)]) hC dX12_sums_26 rfl hm (fun _ _ h => T_X12_top b _ m  h) mlX12_208 vlX12_top rfl (by decide) rfl rfl (Nat.le_of_ble_eq_true rfl) (by decide) (by decide) rfl rfl hF (fun r1 m2 hr1 hm2 hF => ?_)
  refine x_iconst hC dX12_sums_29 rfl ?_
  refine x_callV0 (kc2 := 0) (ks2 := 0) (k := 54) (As := [iV r1, iV 0]) (rest := []) hC dX12_sums_30 rfl hm2 (fun _ _ h => T_X12_emit b _ m2 r1 hr1 0 (rgc 0 rfl) h) mlX12_218 vlX12_emit rfl (by decide) rfl rfl (Nat.le_of_ble_eq_true rfl) (by decide) (by decide) rfl rfl hF (fun r3 m4 hr3 hm4 hF => ?_)
  refine x_aload_n hC dX12_sums_33 rfl 0 rfl ?_
  refine x_dup hC dX12_sums_34 rfl rfl ?_
  refine x_getI hC dX12_sums_35 rfl flX12_184 rfl (by decide) rfl rfl ?_
  refine x_iconst hC dX12_sums_38 rfl ?_
  refine x_isub hC dX12_sums_39 rfl ?_
  refine x_putI hC dX12_sums_40 rfl fpX12_184 rfl (by decide) (by decide) rfl rfl hm4 (rg_wr _) rfl hF (fun m5 hm5 hF => ?_)
  refine x_goto (tgt := 0) hC dX12_sums_43 rfl ?_
  exact hk_0 v1 hv1 m5 hm5 hF
set_option maxRecDepth 20000 in
set_option maxHeartbeats 4000000 in
theorem WL_X12_sums_0 {g : Gx} {b : Bs} {o : Mm} {Q : Int → Mm → Prop} (hC : Cok g b RX12 cX12_sums 2 2 none) : ∀ n : Nat, ∀ v1 : Int, (v1 = 0 ∨ v1 = 1) → ∀ m : Mm, Rg m → okR (L_X12_sums_0 n v1 m) Q → X g b (false, o) 2 (ZM g b (false, o) 0 Q) 0 [(0, .ref (b.1 + 54)), (1, iV v1)] [] m 0 0 := by
  intro n
  induction n with
  | zero => intro v1 hv1 m hm hF; exact absurd hF (fun z => z)
  | succ n ih =>
    intro v1 hv1 m hm hF
    have hF : okR (LB_X12_sums_0 (L_X12_sums_0 n) v1 m) Q := hF
    unfold LB_X12_sums_0 at hF
    refine x_aload_n hC dX12_sums_0 rfl 0 rfl ?_
    refine x_callV1 (kc2 := 0) (ks2 := 0) (k := 54) (As := []) (rest := []) hC dX12_sums_1 rfl hm (fun _ _ h => T_X12_top b _ m  h) mlX12_208 vlX12_top rfl (by decide) rfl rfl (Nat.le_of_ble_eq_true rfl) (by decide) (by decide) rfl rfl hF (fun r1 m2 hr1 hm2 hF => ?_)
    refine x_callS3 (kc2 := 0) (ks2 := 0) (As := [iV r1]) (rest := []) hC dX12_sums_4 rfl hm2 (fun _ _ h => T_X12_isTimes b _ m2 r1 hr1 h) mlX12_211 vsX12_isTimes rfl rfl (Nat.le_of_ble_eq_true rfl) (by decide) (by decide) rfl rfl hF (fun r3 m4 hr3 hm4 hF => ?_)
    refine x_if_ne (tgt := 24) hC dX12_sums_7 rfl rfl (rg_01 hr3) hF (fun hq5 hF => ?_) (fun hq5 hF => ?_)
    · exact WJ_X12_sums_24 hC ih  v1 hv1 m4 hm4 hF
    · refine x_iload_n hC dX12_sums_10 rfl 1 rfl ?_
      refine x_if_eq (tgt := 46) hC dX12_sums_11 rfl rfl (rg_01 hv1) hF (fun hq6 hF => ?_) (fun hq6 hF => ?_)
      · exact x_return hC dX12_sums_46 hm4 hF
      · refine x_aload_n hC dX12_sums_14 rfl 0 rfl ?_
        refine x_callV1 (kc2 := 0) (ks2 := 0) (k := 54) (As := []) (rest := []) hC dX12_sums_15 rfl hm4 (fun _ _ h => T_X12_top b _ m4  h) mlX12_208 vlX12_top rfl (by decide) rfl rfl (Nat.le_of_ble_eq_true rfl) (by decide) (by decide) rfl rfl hF (fun r7 m8 hr7 hm8 hF => ?_)
        refine x_callS3 (kc2 := 0) (ks2 := 0) (As := [iV r7]) (rest := []) hC dX12_sums_18 rfl hm8 (fun _ _ h => T_X12_isPlus b _ m8 r7 hr7 h) mlX12_215 vsX12_isPlus rfl rfl (Nat.le_of_ble_eq_true rfl) (by decide) (by decide) rfl rfl hF (fun r9 m10 hr9 hm10 hF => ?_)
        refine x_if_eq (tgt := 46) hC dX12_sums_21 rfl rfl (rg_01 hr9) hF (fun hq11 hF => ?_) (fun hq11 hF => ?_)
        · exact x_return hC dX12_sums_46 hm10 hF
        · exact WJ_X12_sums_24 hC ih  v1 hv1 m10 hm10 hF
set_option maxRecDepth 20000 in
set_option maxHeartbeats 4000000 in
theorem T_X12_sums (b : Bs) (o : Mm) (m : Mm) (a1 : Int) (ha1 : (a1 = 0 ∨ a1 = 1)) {r : Int} {m' : Mm} (h : F_X12_sums a1 m = some (r, m')) : Cn yX12_sums cX12_sums 2 none (2) 0 0 0 b (false, o) m [.ref (b.1 + 54), iV a1] (F_X12_sums a1 m) := by
  refine Cn_of rfl (Nat.le_of_ble_eq_true rfl) (fun g hC hm => ?_)
  have hF := okR_some h
  generalize hQ : (fun (r : Int) (m' : Mm) => F_X12_sums a1 m = some (r, m')) = Q at hF ⊢
  clear hQ h
  replace hC : Cok g b RX12 cX12_sums 2 2 none := hC
  refine x_lv (lv' := [(0, .ref (b.1 + 54)), (1, iV a1)]) rfl ?_
  unfold F_X12_sums at hF
  exact WL_X12_sums_0 hC 100000  a1 ha1 m hm hF
set_option maxRecDepth 20000 in
set_option maxHeartbeats 4000000 in
theorem WJ_X12_joins_22 {g : Gx} {b : Bs} {o : Mm} {Q : Int → Mm → Prop} {k_0 : Int → Mm → Rs} (hC : Cok g b RX12 cX12_joins 2 2 none) (hk_0 : ∀ v1 : Int, (v1 = 0 ∨ v1 = 1) → ∀ m : Mm, Rg m → okR (k_0 v1 m) Q → X g b (false, o) 2 (ZM g b (false, o) 0 Q) 0 [(0, .ref (b.1 + 54)), (1, iV v1)] [] m 0 0) (v1 : Int) (hv1 : (v1 = 0 ∨ v1 = 1)) (m : Mm) (hm : Rg m) (hF : okR (J_X12_joins_22 k_0 v1 m) Q) : X g b (false, o) 2 (ZM g b (false, o) 0 Q) 22 [(0, .ref (b.1 + 54)), (1, iV v1)] [] m 0 0 := by
  unfold J_X12_joins_22 at hF
  refine x_aload_n hC dX12_joins_22 rfl 0 rfl ?_
  refine x_aload_n hC dX12_joins_23 rfl 0 rfl ?_
  refine x_callV1 (kc2 := 0) (ks2 := 0) (k := 54) (As := []) (rest := [.ref (b.1 + 54)]) hC dX12_joins_24 rfl hm (fun _ _ h => T_X12_top b _ m  h) mlX12_208 vlX12_top rfl (by decide) rfl rfl (Nat.le_of_ble_eq_true rfl) (by decide) (by decide) rfl rfl hF (fun r1 m2 hr1 hm2 hF => ?_)
  refine x_iconst hC dX12_joins_27 rfl ?_
  refine x_callV0 (kc2 := 0) (ks2 := 0) (k := 54) (As := [iV r1, iV 0]) (rest := []) hC dX12_joins_28 rfl hm2 (fun _ _ h => T_X12_emit b _ m2 r1 hr1 0 (rgc 0 rfl) h) mlX12_218 vlX12_emit rfl (by decide) rfl rfl (Nat.le_of_ble_eq_true rfl) (by decide) (by decide) rfl rfl hF (fun r3 m4 hr3 hm4 hF => ?_)
  refine x_aload_n hC dX12_joins_31 rfl 0 rfl ?_
  refine x_dup hC dX12_joins_32 rfl rfl ?_
  refine x_getI hC dX12_joins_33 rfl flX12_184 rfl (by decide) rfl rfl ?_
  refine x_iconst hC dX12_joins_36 rfl ?_
  refine x_isub hC dX12_joins_37 rfl ?_
  refine x_putI hC dX12_joins_38 rfl fpX12_184 rfl (by decide) (by decide) rfl rfl hm4 (rg_wr _) rfl hF (fun m5 hm5 hF => ?_)
  refine x_goto (tgt := 0) hC dX12_joins_41 rfl ?_
  exact hk_0 v1 hv1 m5 hm5 hF
set_option maxRecDepth 20000 in
set_option maxHeartbeats 4000000 in
theorem WL_X12_joins_0 {g : Gx} {b : Bs} {o : Mm} {Q : Int → Mm → Prop} (hC : Cok g b RX12 cX12_joins 2 2 none) : ∀ n : Nat, ∀ v1 : Int, (v1 = 0 ∨ v1 = 1) → ∀ m : Mm, Rg m → okR (L_X12_joins_0 n v1 m) Q → X g b (false, o) 2 (ZM g b (false, o) 0 Q) 0 [(0, .ref (b.1 + 54)), (1, iV v1)] [] m 0 0 := by
  intro n
  induction n with
  | zero => intro v1 hv1 m hm hF; exact absurd hF (fun z => z)
  | succ n ih =>
    intro v1 hv1 m hm hF
    have hF : okR (LB_X12_joins_0 (L_X12_joins_0 n) v1 m) Q := hF
    unfold LB_X12_joins_0 at hF
    refine x_aload_n hC dX12_joins_0 rfl 0 rfl ?_
    refine x_callV1 (kc2 := 0) (ks2 := 0) (k := 54) (As := []) (rest := []) hC dX12_joins_1 rfl hm (fun _ _ h => T_X12_top b _ m  h) mlX12_208 vlX12_top rfl (by decide) rfl rfl (Nat.le_of_ble_eq_true rfl) (by decide) (by decide) rfl rfl hF (fun r1 m2 hr1 hm2 hF => ?_)
    refine x_bipush hC dX12_joins_4 rfl rfl ?_
    refine x_icmp_eq (tgt := 22) hC dX12_joins_6 rfl rfl hr1 (rgc 38 rfl) hF (fun hq3 hF => ?_) (fun hq3 hF => ?_)
    · exact WJ_X12_joins_22 hC ih  v1 hv1 m2 hm2 hF
    · refine x_iload_n hC dX12_joins_9 rfl 1 rfl ?_
      refine x_if_eq (tgt := 44) hC dX12_joins_10 rfl rfl (rg_01 hv1) hF (fun hq4 hF => ?_) (fun hq4 hF => ?_)
      · exact x_return hC dX12_joins_44 hm2 hF
      · refine x_aload_n hC dX12_joins_13 rfl 0 rfl ?_
        refine x_callV1 (kc2 := 0) (ks2 := 0) (k := 54) (As := []) (rest := []) hC dX12_joins_14 rfl hm2 (fun _ _ h => T_X12_top b _ m2  h) mlX12_208 vlX12_top rfl (by decide) rfl rfl (Nat.le_of_ble_eq_true rfl) (by decide) (by decide) rfl rfl hF (fun r5 m6 hr5 hm6 hF => ?_)
        refine x_bipush hC dX12_joins_17 rfl rfl ?_
        refine x_icmp_ne (tgt := 44) hC dX12_joins_19 rfl rfl hr5 (rgc 124 rfl) hF (fun hq7 hF => ?_) (fun hq7 hF => ?_)
        · exact x_return hC dX12_joins_44 hm6 hF
        · exact WJ_X12_joins_22 hC ih  v1 hv1 m6 hm6 hF
set_option maxRecDepth 20000 in
set_option maxHeartbeats 4000000 in
theorem T_X12_joins (b : Bs) (o : Mm) (m : Mm) (a1 : Int) (ha1 : (a1 = 0 ∨ a1 = 1)) {r : Int} {m' : Mm} (h : F_X12_joins a1 m = some (r, m')) : Cn yX12_joins cX12_joins 2 none (2) 0 0 0 b (false, o) m [.ref (b.1 + 54), iV a1] (F_X12_joins a1 m) := by
  refine Cn_of rfl (Nat.le_of_ble_eq_true rfl) (fun g hC hm => ?_)
  have hF := okR_some h
  generalize hQ : (fun (r : Int) (m' : Mm) => F_X12_joins a1 m = some (r, m')) = Q at hF ⊢
  clear hQ h
  replace hC : Cok g b RX12 cX12_joins 2 2 none := hC
  refine x_lv (lv' := [(0, .ref (b.1 + 54)), (1, iV a1)]) rfl ?_
  unfold F_X12_joins at hF
  exact WL_X12_joins_0 hC 100000  a1 ha1 m hm hF
set_option maxRecDepth 20000 in
set_option maxHeartbeats 4000000 in
theorem WL_X12_ends_0 {g : Gx} {b : Bs} {o : Mm} {Q : Int → Mm → Prop} (hC : Cok g b RX12 cX12_ends 1 2 none) : ∀ n : Nat, ∀ m : Mm, Rg m → okR (L_X12_ends_0 n  m) Q → X g b (false, o) 1 (ZM g b (false, o) 0 Q) 0 [(0, .ref (b.1 + 54))] [] m 0 0 := by
  intro n
  induction n with
  | zero => intro  m hm hF; exact absurd hF (fun z => z)
  | succ n ih =>
    intro  m hm hF
    have hF : okR (LB_X12_ends_0 (L_X12_ends_0 n)  m) Q := hF
    unfold LB_X12_ends_0 at hF
    refine x_aload_n hC dX12_ends_0 rfl 0 rfl ?_
    refine x_callV1 (kc2 := 0) (ks2 := 0) (k := 54) (As := []) (rest := []) hC dX12_ends_1 rfl hm (fun _ _ h => T_X12_top b _ m  h) mlX12_208 vlX12_top rfl (by decide) rfl rfl (Nat.le_of_ble_eq_true rfl) (by decide) (by decide) rfl rfl hF (fun r1 m2 hr1 hm2 hF => ?_)
    refine x_bipush hC dX12_ends_4 rfl rfl ?_
    refine x_icmp_ne (tgt := 38) hC dX12_ends_6 rfl rfl hr1 (rgc 33 rfl) hF (fun hq3 hF => ?_) (fun hq3 hF => ?_)
    · exact x_return hC dX12_ends_38 hm2 hF
    · refine x_aload_n hC dX12_ends_9 rfl 0 rfl ?_
      refine x_iconst hC dX12_ends_10 rfl ?_
      refine x_iconst hC dX12_ends_11 rfl ?_
      refine x_callV0 (kc2 := 0) (ks2 := 0) (k := 54) (As := [iV 2, iV 0]) (rest := []) hC dX12_ends_12 rfl hm2 (fun _ _ h => T_X12_emit b _ m2 2 (rgc 2 rfl) 0 (rgc 0 rfl) h) mlX12_218 vlX12_emit rfl (by decide) rfl rfl (Nat.le_of_ble_eq_true rfl) (by decide) (by decide) rfl rfl hF (fun r4 m5 hr4 hm5 hF => ?_)
      refine x_aload_n hC dX12_ends_15 rfl 0 rfl ?_
      refine x_dup hC dX12_ends_16 rfl rfl ?_
      refine x_getI hC dX12_ends_17 rfl flX12_184 rfl (by decide) rfl rfl ?_
      refine x_iconst hC dX12_ends_20 rfl ?_
      refine x_isub hC dX12_ends_21 rfl ?_
      refine x_putI hC dX12_ends_22 rfl fpX12_184 rfl (by decide) (by decide) rfl rfl hm5 (rg_wr _) rfl hF (fun m6 hm6 hF => ?_)
      refine x_aload_n hC dX12_ends_25 rfl 0 rfl ?_
      refine x_dup hC dX12_ends_26 rfl rfl ?_
      refine x_getI hC dX12_ends_27 rfl flX12_187 rfl (by decide) rfl rfl ?_
      refine x_iconst hC dX12_ends_30 rfl ?_
      refine x_isub hC dX12_ends_31 rfl ?_
      refine x_putI hC dX12_ends_32 rfl fpX12_187 rfl (by decide) (by decide) rfl rfl hm6 (rg_wr _) rfl hF (fun m7 hm7 hF => ?_)
      refine x_goto (tgt := 0) hC dX12_ends_35 rfl ?_
      exact ih  m7 hm7 hF
set_option maxRecDepth 20000 in
set_option maxHeartbeats 4000000 in
theorem T_X12_ends (b : Bs) (o : Mm) (m : Mm) {r : Int} {m' : Mm} (h : F_X12_ends  m = some (r, m')) : Cn yX12_ends cX12_ends 1 none (2) 0 0 0 b (false, o) m [.ref (b.1 + 54)] (F_X12_ends  m) := by
  refine Cn_of rfl (Nat.le_of_ble_eq_true rfl) (fun g hC hm => ?_)
  have hF := okR_some h
  generalize hQ : (fun (r : Int) (m' : Mm) => F_X12_ends  m = some (r, m')) = Q at hF ⊢
  clear hQ h
  replace hC : Cok g b RX12 cX12_ends 1 2 none := hC
  refine x_lv (lv' := [(0, .ref (b.1 + 54))]) rfl ?_
  unfold F_X12_ends at hF
  exact WL_X12_ends_0 hC 100000   m hm hF
set_option maxRecDepth 20000 in
set_option maxHeartbeats 4000000 in
theorem WJ_X12_factor_23 {g : Gx} {b : Bs} {o : Mm} {Q : Int → Mm → Prop} (hC : Cok g b RX12 cX12_factor 1 3 none) (m : Mm) (hm : Rg m) (hF : okR (J_X12_factor_23  m) Q) : X g b (false, o) 1 (ZM g b (false, o) 0 Q) 23 [(0, .ref (b.1 + 54))] [] m 0 0 := by
  unfold J_X12_factor_23 at hF
  refine x_aload_n hC dX12_factor_23 rfl 0 rfl ?_
  refine x_callV3 (kc2 := 0) (ks2 := 0) (k := 54) (As := []) (rest := []) hC dX12_factor_24 rfl hm (fun _ _ h => T_X12_isGood b _ m  h) mlX12_177 vlX12_isGood rfl (by decide) rfl rfl (Nat.le_of_ble_eq_true rfl) (by decide) (by decide) rfl rfl hF (fun r1 m2 hr1 hm2 hF => ?_)
  refine x_if_ne (tgt := 31) hC dX12_factor_27 rfl rfl (rg_01 hr1) hF (fun hq3 hF => ?_) (fun hq3 hF => ?_)
  · refine x_aload_n hC dX12_factor_31 rfl 0 rfl ?_
    refine x_callV3 (kc2 := 0) (ks2 := 0) (k := 54) (As := []) (rest := []) hC dX12_factor_32 rfl hm2 (fun _ _ h => T_X12_seesDigit b _ m2  h) mlX12_205 vlX12_seesDigit rfl (by decide) rfl rfl (Nat.le_of_ble_eq_true rfl) (by decide) (by decide) rfl rfl hF (fun r4 m5 hr4 hm5 hF => ?_)
    refine x_if_eq (tgt := 50) hC dX12_factor_35 rfl rfl (rg_01 hr4) hF (fun hq6 hF => ?_) (fun hq6 hF => ?_)
    · refine x_aload_n hC dX12_factor_50 rfl 0 rfl ?_
      refine x_callV1 (kc2 := 0) (ks2 := 0) (k := 54) (As := []) (rest := []) hC dX12_factor_51 rfl hm5 (fun _ _ h => T_X12_here b _ m5  h) mlX12_194 vlX12_here rfl (by decide) rfl rfl (Nat.le_of_ble_eq_true rfl) (by decide) (by decide) rfl rfl hF (fun r7 m8 hr7 hm8 hF => ?_)
      refine x_callS3 (kc2 := 0) (ks2 := 0) (As := [iV r7]) (rest := []) hC dX12_factor_54 rfl hm8 (fun _ _ h => T_X12_isValue b _ m8 r7 hr7 h) mlX12_227 vsX12_isValue rfl rfl (Nat.le_of_ble_eq_true rfl) (by decide) (by decide) rfl rfl hF (fun r9 m10 hr9 hm10 hF => ?_)
      refine x_if_eq (tgt := 82) hC dX12_factor_57 rfl rfl (rg_01 hr9) hF (fun hq11 hF => ?_) (fun hq11 hF => ?_)
      · refine x_aload_n hC dX12_factor_82 rfl 0 rfl ?_
        refine x_iconst hC dX12_factor_83 rfl ?_
        refine x_aload_n hC dX12_factor_84 rfl 0 rfl ?_
        refine x_getI hC dX12_factor_85 rfl flX12_168 rfl (by decide) rfl rfl ?_
        refine x_callV0 (kc2 := 0) (ks2 := 0) (k := 54) (As := [iV 1, iV (m10 54 27)]) (rest := []) hC dX12_factor_88 rfl hm10 (fun _ _ h => T_X12_wrongs b _ m10 1 (rgc 1 rfl) (m10 54 27) (hm10.i 54 27 rfl) h) mlX12_190 vlX12_wrongs rfl (by decide) rfl rfl (Nat.le_of_ble_eq_true rfl) (by decide) (by decide) rfl rfl hF (fun r12 m13 hr12 hm13 hF => ?_)
        exact x_return hC dX12_factor_91 hm13 hF
      · refine x_aload_n hC dX12_factor_60 rfl 0 rfl ?_
        refine x_iconst hC dX12_factor_61 rfl ?_
        refine x_aload_n hC dX12_factor_62 rfl 0 rfl ?_
        refine x_callV1 (kc2 := 0) (ks2 := 0) (k := 54) (As := []) (rest := [iV 1, .ref (b.1 + 54)]) hC dX12_factor_63 rfl hm10 (fun _ _ h => T_X12_here b _ m10  h) mlX12_194 vlX12_here rfl (by decide) rfl rfl (Nat.le_of_ble_eq_true rfl) (by decide) (by decide) rfl rfl hF (fun r14 m15 hr14 hm15 hF => ?_)
        refine x_callV0 (kc2 := 0) (ks2 := 0) (k := 54) (As := [iV 1, iV r14]) (rest := []) hC dX12_factor_66 rfl hm15 (fun _ _ h => T_X12_emit b _ m15 1 (rgc 1 rfl) r14 hr14 h) mlX12_218 vlX12_emit rfl (by decide) rfl rfl (Nat.le_of_ble_eq_true rfl) (by decide) (by decide) rfl rfl hF (fun r16 m17 hr16 hm17 hF => ?_)
        refine x_aload_n hC dX12_factor_69 rfl 0 rfl ?_
        refine x_dup hC dX12_factor_70 rfl rfl ?_
        refine x_getI hC dX12_factor_71 rfl flX12_168 rfl (by decide) rfl rfl ?_
        refine x_iconst hC dX12_factor_74 rfl ?_
        refine x_iadd hC dX12_factor_75 rfl ?_
        refine x_putI hC dX12_factor_76 rfl fpX12_168 rfl (by decide) (by decide) rfl rfl hm17 (rg_wr _) rfl hF (fun m18 hm18 hF => ?_)
        refine x_goto (tgt := 91) hC dX12_factor_79 rfl ?_
        exact x_return hC dX12_factor_91 hm18 hF
    · refine x_aload_n hC dX12_factor_38 rfl 0 rfl ?_
      refine x_iconst hC dX12_factor_39 rfl ?_
      refine x_aload_n hC dX12_factor_40 rfl 0 rfl ?_
      refine x_callV1 (kc2 := 0) (ks2 := 0) (k := 54) (As := []) (rest := [iV 0, .ref (b.1 + 54)]) hC dX12_factor_41 rfl hm5 (fun _ _ h => T_X12_reads b _ m5  h) mlX12_224 vlX12_reads rfl (by decide) rfl rfl (Nat.le_of_ble_eq_true rfl) (by decide) (by decide) rfl rfl hF (fun r19 m20 hr19 hm20 hF => ?_)
      refine x_callV0 (kc2 := 0) (ks2 := 0) (k := 54) (As := [iV 0, iV r19]) (rest := []) hC dX12_factor_44 rfl hm20 (fun _ _ h => T_X12_emit b _ m20 0 (rgc 0 rfl) r19 hr19 h) mlX12_218 vlX12_emit rfl (by decide) rfl rfl (Nat.le_of_ble_eq_true rfl) (by decide) (by decide) rfl rfl hF (fun r21 m22 hr21 hm22 hF => ?_)
      refine x_goto (tgt := 91) hC dX12_factor_47 rfl ?_
      exact x_return hC dX12_factor_91 hm22 hF
  · exact x_return hC dX12_factor_30 hm2 hF
set_option maxRecDepth 20000 in
set_option maxHeartbeats 4000000 in
theorem WL_X12_factor_0 {g : Gx} {b : Bs} {o : Mm} {Q : Int → Mm → Prop} (hC : Cok g b RX12 cX12_factor 1 3 none) : ∀ n : Nat, ∀ m : Mm, Rg m → okR (L_X12_factor_0 n  m) Q → X g b (false, o) 1 (ZM g b (false, o) 0 Q) 0 [(0, .ref (b.1 + 54))] [] m 0 0 := by
  intro n
  induction n with
  | zero => intro  m hm hF; exact absurd hF (fun z => z)
  | succ n ih =>
    intro  m hm hF
    have hF : okR (LB_X12_factor_0 (L_X12_factor_0 n)  m) Q := hF
    unfold LB_X12_factor_0 at hF
    refine x_aload_n hC dX12_factor_0 rfl 0 rfl ?_
    refine x_callV3 (kc2 := 0) (ks2 := 0) (k := 54) (As := []) (rest := []) hC dX12_factor_1 rfl hm (fun _ _ h => T_X12_isGood b _ m  h) mlX12_177 vlX12_isGood rfl (by decide) rfl rfl (Nat.le_of_ble_eq_true rfl) (by decide) (by decide) rfl rfl hF (fun r1 m2 hr1 hm2 hF => ?_)
    refine x_if_eq (tgt := 23) hC dX12_factor_4 rfl rfl (rg_01 hr1) hF (fun hq3 hF => ?_) (fun hq3 hF => ?_)
    · exact WJ_X12_factor_23 hC   m2 hm2 hF
    · refine x_aload_n hC dX12_factor_7 rfl 0 rfl ?_
      refine x_callV1 (kc2 := 0) (ks2 := 0) (k := 54) (As := []) (rest := []) hC dX12_factor_8 rfl hm2 (fun _ _ h => T_X12_here b _ m2  h) mlX12_194 vlX12_here rfl (by decide) rfl rfl (Nat.le_of_ble_eq_true rfl) (by decide) (by decide) rfl rfl hF (fun r4 m5 hr4 hm5 hF => ?_)
      refine x_bipush hC dX12_factor_11 rfl rfl ?_
      refine x_icmp_ne (tgt := 23) hC dX12_factor_13 rfl rfl hr4 (rgc 91 rfl) hF (fun hq6 hF => ?_) (fun hq6 hF => ?_)
      · exact WJ_X12_factor_23 hC   m5 hm5 hF
      · refine x_aload_n hC dX12_factor_16 rfl 0 rfl ?_
        refine x_callV0 (kc2 := 0) (ks2 := 0) (k := 54) (As := []) (rest := []) hC dX12_factor_17 rfl hm5 (fun _ _ h => T_X12_opens b _ m5  h) mlX12_221 vlX12_opens rfl (by decide) rfl rfl (Nat.le_of_ble_eq_true rfl) (by decide) (by decide) rfl rfl hF (fun r7 m8 hr7 hm8 hF => ?_)
        refine x_goto (tgt := 0) hC dX12_factor_20 rfl ?_
        exact ih  m8 hm8 hF
set_option maxRecDepth 20000 in
set_option maxHeartbeats 4000000 in
theorem T_X12_factor (b : Bs) (o : Mm) (m : Mm) {r : Int} {m' : Mm} (h : F_X12_factor  m = some (r, m')) : Cn yX12_factor cX12_factor 1 none (3) 0 0 0 b (false, o) m [.ref (b.1 + 54)] (F_X12_factor  m) := by
  refine Cn_of rfl (Nat.le_of_ble_eq_true rfl) (fun g hC hm => ?_)
  have hF := okR_some h
  generalize hQ : (fun (r : Int) (m' : Mm) => F_X12_factor  m = some (r, m')) = Q at hF ⊢
  clear hQ h
  replace hC : Cok g b RX12 cX12_factor 1 3 none := hC
  refine x_lv (lv' := [(0, .ref (b.1 + 54))]) rfl ?_
  unfold F_X12_factor at hF
  exact WL_X12_factor_0 hC 100000   m hm hF
set_option maxRecDepth 20000 in
set_option maxHeartbeats 4000000 in
theorem WJ_X12_stays_19 {g : Gx} {b : Bs} {o : Mm} {Q : Int → Mm → Prop} (hC : Cok g b RX12 cX12_stays 2 3 (some .boolean)) (v1 : Int) (hv1 : inR v1) (m : Mm) (hm : Rg m) (hF : okR (J_X12_stays_19 v1 m) Q) : X g b (false, o) 2 (ZM g b (false, o) 3 Q) 19 [(0, .ref (b.1 + 54)), (1, iV v1)] [] m 0 0 := by
  unfold J_X12_stays_19 at hF
  refine x_aload_n hC dX12_stays_19 rfl 0 rfl ?_
  refine x_iload_n hC dX12_stays_20 rfl 1 rfl ?_
  refine x_callS3 (kc2 := 0) (ks2 := 0) (As := [iV v1]) (rest := [.ref (b.1 + 54)]) hC dX12_stays_21 rfl hm (fun _ _ h => T_X12_isPlus b _ m v1 hv1 h) mlX12_215 vsX12_isPlus rfl rfl (Nat.le_of_ble_eq_true rfl) (by decide) (by decide) rfl rfl hF (fun r1 m2 hr1 hm2 hF => ?_)
  refine x_callV0 (kc2 := 0) (ks2 := 0) (k := 54) (As := [iV r1]) (rest := []) hC dX12_stays_24 rfl hm2 (fun _ _ h => T_X12_sums b _ m2 r1 hr1 h) mlX12_230 vlX12_sums rfl (by decide) rfl rfl (Nat.le_of_ble_eq_true rfl) (by decide) (by decide) rfl rfl hF (fun r3 m4 hr3 hm4 hF => ?_)
  refine x_aload_n hC dX12_stays_27 rfl 0 rfl ?_
  refine x_iload_n hC dX12_stays_28 rfl 1 rfl ?_
  refine x_callV0 (kc2 := 0) (ks2 := 0) (k := 54) (As := [iV v1]) (rest := []) hC dX12_stays_29 rfl hm4 (fun _ _ h => T_X12_puts b _ m4 v1 hv1 h) mlX12_198 vlX12_puts rfl (by decide) rfl rfl (Nat.le_of_ble_eq_true rfl) (by decide) (by decide) rfl rfl hF (fun r5 m6 hr5 hm6 hF => ?_)
  refine x_iconst hC dX12_stays_32 rfl ?_
  exact x_zreturn hC dX12_stays_33 hm6 (Or.inr rfl) hF
set_option maxRecDepth 20000 in
set_option maxHeartbeats 4000000 in
theorem T_X12_stays (b : Bs) (o : Mm) (m : Mm) {r : Int} {m' : Mm} (h : F_X12_stays  m = some (r, m')) : Cn yX12_stays cX12_stays 2 (some .boolean) (3) 0 0 3 b (false, o) m [.ref (b.1 + 54)] (F_X12_stays  m) := by
  refine Cn_of rfl (Nat.le_of_ble_eq_true rfl) (fun g hC hm => ?_)
  have hF := okR_some h
  generalize hQ : (fun (r : Int) (m' : Mm) => F_X12_stays  m = some (r, m')) = Q at hF ⊢
  clear hQ h
  replace hC : Cok g b RX12 cX12_stays 2 3 (some .boolean) := hC
  refine x_lv (lv' := [(0, .ref (b.1 + 54))]) rfl ?_
  unfold F_X12_stays at hF
  refine x_aload_n hC dX12_stays_0 rfl 0 rfl ?_
  refine x_callV1 (kc2 := 0) (ks2 := 0) (k := 54) (As := []) (rest := []) hC dX12_stays_1 rfl hm (fun _ _ h => T_X12_here b _ m  h) mlX12_194 vlX12_here rfl (by decide) rfl rfl (Nat.le_of_ble_eq_true rfl) (by decide) (by decide) rfl rfl hF (fun r1 m2 hr1 hm2 hF => ?_)
  refine x_istore_n (lv' := [(0, .ref (b.1 + 54))]) hC dX12_stays_4 rfl rfl (by decide) rfl hr1 hF (fun x3 hx3 hF => ?_)
  refine x_iload_n hC dX12_stays_5 rfl 0 rfl ?_
  refine x_callS3 (kc2 := 0) (ks2 := 0) (As := [iV x3]) (rest := []) hC dX12_stays_6 rfl hm2 (fun _ _ h => T_X12_isTimes b _ m2 x3 hx3 h) mlX12_211 vsX12_isTimes rfl rfl (Nat.le_of_ble_eq_true rfl) (by decide) (by decide) rfl rfl hF (fun r4 m5 hr4 hm5 hF => ?_)
  refine x_if_ne (tgt := 19) hC dX12_stays_9 rfl rfl (rg_01 hr4) hF (fun hq6 hF => ?_) (fun hq6 hF => ?_)
  · refine x_sub [1, 0] rfl ?_
    exact WJ_X12_stays_19 hC  x3 hx3 m5 hm5 hF
  · refine x_iload_n hC dX12_stays_12 rfl 0 rfl ?_
    refine x_callS3 (kc2 := 0) (ks2 := 0) (As := [iV x3]) (rest := []) hC dX12_stays_13 rfl hm5 (fun _ _ h => T_X12_isPlus b _ m5 x3 hx3 h) mlX12_215 vsX12_isPlus rfl rfl (Nat.le_of_ble_eq_true rfl) (by decide) (by decide) rfl rfl hF (fun r7 m8 hr7 hm8 hF => ?_)
    refine x_if_eq (tgt := 34) hC dX12_stays_16 rfl rfl (rg_01 hr7) hF (fun hq9 hF => ?_) (fun hq9 hF => ?_)
    · refine x_aload_n hC dX12_stays_34 rfl 1 rfl ?_
      refine x_iconst hC dX12_stays_35 rfl ?_
      refine x_callV0 (kc2 := 0) (ks2 := 0) (k := 54) (As := [iV 1]) (rest := []) hC dX12_stays_36 rfl hm8 (fun _ _ h => T_X12_sums b _ m8 1 (Or.inr rfl) h) mlX12_230 vlX12_sums rfl (by decide) rfl rfl (Nat.le_of_ble_eq_true rfl) (by decide) (by decide) rfl rfl hF (fun r10 m11 hr10 hm11 hF => ?_)
      refine x_iload_n hC dX12_stays_39 rfl 0 rfl ?_
      refine x_bipush hC dX12_stays_40 rfl rfl ?_
      refine x_icmp_eq (tgt := 47) hC dX12_stays_42 rfl rfl hx3 (rgc 93 rfl) hF (fun hq12 hF => ?_) (fun hq12 hF => ?_)
      · refine x_aload_n hC dX12_stays_47 rfl 1 rfl ?_
        refine x_callV1 (kc2 := 0) (ks2 := 0) (k := 54) (As := []) (rest := []) hC dX12_stays_48 rfl hm11 (fun _ _ h => T_X12_top b _ m11  h) mlX12_208 vlX12_top rfl (by decide) rfl rfl (Nat.le_of_ble_eq_true rfl) (by decide) (by decide) rfl rfl hF (fun r13 m14 hr13 hm14 hF => ?_)
        refine x_bipush hC dX12_stays_51 rfl rfl ?_
        refine x_icmp_eq (tgt := 67) hC dX12_stays_53 rfl rfl hr13 (rgc 91 rfl) hF (fun hq15 hF => ?_) (fun hq15 hF => ?_)
        · refine x_aload_n hC dX12_stays_67 rfl 1 rfl ?_
          refine x_dup hC dX12_stays_68 rfl rfl ?_
          refine x_getI hC dX12_stays_69 rfl flX12_184 rfl (by decide) rfl rfl ?_
          refine x_iconst hC dX12_stays_72 rfl ?_
          refine x_isub hC dX12_stays_73 rfl ?_
          refine x_putI hC dX12_stays_74 rfl fpX12_184 rfl (by decide) (by decide) rfl rfl hm14 (rg_wr _) rfl hF (fun m16 hm16 hF => ?_)
          refine x_aload_n hC dX12_stays_77 rfl 1 rfl ?_
          refine x_dup hC dX12_stays_78 rfl rfl ?_
          refine x_getI hC dX12_stays_79 rfl flX12_187 rfl (by decide) rfl rfl ?_
          refine x_iconst hC dX12_stays_82 rfl ?_
          refine x_isub hC dX12_stays_83 rfl ?_
          refine x_putI hC dX12_stays_84 rfl fpX12_187 rfl (by decide) (by decide) rfl rfl hm16 (rg_wr _) rfl hF (fun m17 hm17 hF => ?_)
          refine x_aload_n hC dX12_stays_87 rfl 1 rfl ?_
          refine x_dup hC dX12_stays_88 rfl rfl ?_
          refine x_getI hC dX12_stays_89 rfl flX12_168 rfl (by decide) rfl rfl ?_
          refine x_iconst hC dX12_stays_92 rfl ?_
          refine x_iadd hC dX12_stays_93 rfl ?_
          refine x_putI hC dX12_stays_94 rfl fpX12_168 rfl (by decide) (by decide) rfl rfl hm17 (rg_wr _) rfl hF (fun m18 hm18 hF => ?_)
          refine x_aload_n hC dX12_stays_97 rfl 1 rfl ?_
          refine x_iconst hC dX12_stays_98 rfl ?_
          refine x_putZ hC dX12_stays_99 rfl fpX12_234 rfl (by decide) (by decide) rfl rfl hm18 (Or.inr rfl) rfl hF (fun m19 hm19 hF => ?_)
          refine x_iconst hC dX12_stays_102 rfl ?_
          exact x_zreturn hC dX12_stays_103 hm19 (Or.inr rfl) hF
        · refine x_aload_n hC dX12_stays_56 rfl 1 rfl ?_
          refine x_iconst hC dX12_stays_57 rfl ?_
          refine x_aload_n hC dX12_stays_58 rfl 1 rfl ?_
          refine x_getI hC dX12_stays_59 rfl flX12_168 rfl (by decide) rfl rfl ?_
          refine x_callV0 (kc2 := 0) (ks2 := 0) (k := 54) (As := [iV 1, iV (m14 54 27)]) (rest := []) hC dX12_stays_62 rfl hm14 (fun _ _ h => T_X12_wrongs b _ m14 1 (rgc 1 rfl) (m14 54 27) (hm14.i 54 27 rfl) h) mlX12_190 vlX12_wrongs rfl (by decide) rfl rfl (Nat.le_of_ble_eq_true rfl) (by decide) (by decide) rfl rfl hF (fun r20 m21 hr20 hm21 hF => ?_)
          refine x_iconst hC dX12_stays_65 rfl ?_
          exact x_zreturn hC dX12_stays_66 hm21 (Or.inl rfl) hF
      · refine x_iconst hC dX12_stays_45 rfl ?_
        exact x_zreturn hC dX12_stays_46 hm11 (Or.inl rfl) hF
    · refine x_sub [1, 0] rfl ?_
      exact WJ_X12_stays_19 hC  x3 hx3 m8 hm8 hF
set_option maxRecDepth 20000 in
set_option maxHeartbeats 4000000 in
theorem WJ_X12_value_54 {g : Gx} {b : Bs} {o : Mm} {Q : Int → Mm → Prop} {k_7 : Int → Mm → Rs} (hC : Cok g b RX12 cX12_value 2 4 none) (hk_7 : ∀ v1 : Int, (v1 = 0 ∨ v1 = 1) → ∀ m : Mm, Rg m → okR (k_7 v1 m) Q → X g b (false, o) 2 (ZM g b (false, o) 0 Q) 7 [(0, .ref (b.1 + 54)), (1, iV v1)] [] m 0 0) (v1 : Int) (hv1 : (v1 = 0 ∨ v1 = 1)) (m : Mm) (hm : Rg m) (hF : okR (J_X12_value_54 k_7 v1 m) Q) : X g b (false, o) 2 (ZM g b (false, o) 0 Q) 54 [(0, .ref (b.1 + 54)), (1, iV v1)] [] m 0 0 := by
  unfold J_X12_value_54 at hF
  refine x_goto (tgt := 7) hC dX12_value_54 rfl ?_
  exact hk_7 v1 hv1 m hm hF
set_option maxRecDepth 20000 in
set_option maxHeartbeats 4000000 in
theorem WJ_X12_value_52 {g : Gx} {b : Bs} {o : Mm} {Q : Int → Mm → Prop} {k_7 : Int → Mm → Rs} (hC : Cok g b RX12 cX12_value 2 4 none) (hk_7 : ∀ v1 : Int, (v1 = 0 ∨ v1 = 1) → ∀ m : Mm, Rg m → okR (k_7 v1 m) Q → X g b (false, o) 2 (ZM g b (false, o) 0 Q) 7 [(0, .ref (b.1 + 54)), (1, iV v1)] [] m 0 0) (m : Mm) (hm : Rg m) (hF : okR (J_X12_value_52 k_7  m) Q) : X g b (false, o) 2 (ZM g b (false, o) 0 Q) 52 [(0, .ref (b.1 + 54))] [] m 0 0 := by
  unfold J_X12_value_52 at hF
  refine x_iconst hC dX12_value_52 rfl ?_
  refine x_istore_nZ (lv' := [(0, .ref (b.1 + 54))]) hC dX12_value_53 rfl rfl (by decide) rfl (Or.inl rfl) hF (fun x1 hx1 hF => ?_)
  refine x_sub [1, 0] rfl ?_
  exact WJ_X12_value_54 hC hk_7  x1 hx1 m hm hF
set_option maxRecDepth 20000 in
set_option maxHeartbeats 4000000 in
theorem WJ_X12_value_29 {g : Gx} {b : Bs} {o : Mm} {Q : Int → Mm → Prop} {k_7 : Int → Mm → Rs} (hC : Cok g b RX12 cX12_value 2 4 none) (hk_7 : ∀ v1 : Int, (v1 = 0 ∨ v1 = 1) → ∀ m : Mm, Rg m → okR (k_7 v1 m) Q → X g b (false, o) 2 (ZM g b (false, o) 0 Q) 7 [(0, .ref (b.1 + 54)), (1, iV v1)] [] m 0 0) (m : Mm) (hm : Rg m) (hF : okR (J_X12_value_29 k_7  m) Q) : X g b (false, o) 2 (ZM g b (false, o) 0 Q) 29 [(0, .ref (b.1 + 54))] [] m 0 0 := by
  unfold J_X12_value_29 at hF
  refine x_aload_n hC dX12_value_29 rfl 0 rfl ?_
  refine x_iconst hC dX12_value_30 rfl ?_
  refine x_putZ hC dX12_value_31 rfl fpX12_234 rfl (by decide) (by decide) rfl rfl hm (Or.inl rfl) rfl hF (fun m1 hm1 hF => ?_)
  refine x_aload_n hC dX12_value_34 rfl 0 rfl ?_
  refine x_callV3 (kc2 := 0) (ks2 := 0) (k := 54) (As := []) (rest := []) hC dX12_value_35 rfl hm1 (fun _ _ h => T_X12_isGood b _ m1  h) mlX12_177 vlX12_isGood rfl (by decide) rfl rfl (Nat.le_of_ble_eq_true rfl) (by decide) (by decide) rfl rfl hF (fun r2 m3 hr2 hm3 hF => ?_)
  refine x_if_eq (tgt := 52) hC dX12_value_38 rfl rfl (rg_01 hr2) hF (fun hq4 hF => ?_) (fun hq4 hF => ?_)
  · exact WJ_X12_value_52 hC hk_7   m3 hm3 hF
  · refine x_aload_n hC dX12_value_41 rfl 0 rfl ?_
    refine x_callV3 (kc2 := 0) (ks2 := 0) (k := 54) (As := []) (rest := []) hC dX12_value_42 rfl hm3 (fun _ _ h => T_X12_stays b _ m3  h) mlX12_241 vlX12_stays rfl (by decide) rfl rfl (Nat.le_of_ble_eq_true rfl) (by decide) (by decide) rfl rfl hF (fun r5 m6 hr5 hm6 hF => ?_)
    refine x_if_eq (tgt := 52) hC dX12_value_45 rfl rfl (rg_01 hr5) hF (fun hq7 hF => ?_) (fun hq7 hF => ?_)
    · exact WJ_X12_value_52 hC hk_7   m6 hm6 hF
    · refine x_iconst hC dX12_value_48 rfl ?_
      refine x_goto (tgt := 53) hC dX12_value_49 rfl ?_
      refine x_istore_nZ (lv' := [(0, .ref (b.1 + 54))]) hC dX12_value_53 rfl rfl (by decide) rfl (Or.inr rfl) hF (fun x8 hx8 hF => ?_)
      refine x_sub [1, 0] rfl ?_
      exact WJ_X12_value_54 hC hk_7  x8 hx8 m6 hm6 hF
set_option maxRecDepth 20000 in
set_option maxHeartbeats 4000000 in
theorem WJ_X12_value_57 {g : Gx} {b : Bs} {o : Mm} {Q : Int → Mm → Prop} (hC : Cok g b RX12 cX12_value 2 4 none) (m : Mm) (hm : Rg m) (hF : okR (J_X12_value_57  m) Q) : X g b (false, o) 2 (ZM g b (false, o) 0 Q) 57 [(0, .ref (b.1 + 54))] [] m 0 0 := by
  unfold J_X12_value_57 at hF
  refine x_aload_n hC dX12_value_57 rfl 0 rfl ?_
  refine x_callV3 (kc2 := 0) (ks2 := 0) (k := 54) (As := []) (rest := []) hC dX12_value_58 rfl hm (fun _ _ h => T_X12_isGood b _ m  h) mlX12_177 vlX12_isGood rfl (by decide) rfl rfl (Nat.le_of_ble_eq_true rfl) (by decide) (by decide) rfl rfl hF (fun r1 m2 hr1 hm2 hF => ?_)
  refine x_if_eq (tgt := 82) hC dX12_value_61 rfl rfl (rg_01 hr1) hF (fun hq3 hF => ?_) (fun hq3 hF => ?_)
  · exact x_return hC dX12_value_82 hm2 hF
  · refine x_aload_n hC dX12_value_64 rfl 0 rfl ?_
    refine x_callV1 (kc2 := 0) (ks2 := 0) (k := 54) (As := []) (rest := []) hC dX12_value_65 rfl hm2 (fun _ _ h => T_X12_top b _ m2  h) mlX12_208 vlX12_top rfl (by decide) rfl rfl (Nat.le_of_ble_eq_true rfl) (by decide) (by decide) rfl rfl hF (fun r4 m5 hr4 hm5 hF => ?_)
    refine x_bipush hC dX12_value_68 rfl rfl ?_
    refine x_icmp_ne (tgt := 82) hC dX12_value_70 rfl rfl hr4 (rgc 91 rfl) hF (fun hq6 hF => ?_) (fun hq6 hF => ?_)
    · exact x_return hC dX12_value_82 hm5 hF
    · refine x_aload_n hC dX12_value_73 rfl 0 rfl ?_
      refine x_iconst hC dX12_value_74 rfl ?_
      refine x_aload_n hC dX12_value_75 rfl 0 rfl ?_
      refine x_getI hC dX12_value_76 rfl flX12_168 rfl (by decide) rfl rfl ?_
      refine x_callV0 (kc2 := 0) (ks2 := 0) (k := 54) (As := [iV 1, iV (m5 54 27)]) (rest := []) hC dX12_value_79 rfl hm5 (fun _ _ h => T_X12_wrongs b _ m5 1 (rgc 1 rfl) (m5 54 27) (hm5.i 54 27 rfl) h) mlX12_190 vlX12_wrongs rfl (by decide) rfl rfl (Nat.le_of_ble_eq_true rfl) (by decide) (by decide) rfl rfl hF (fun r7 m8 hr7 hm8 hF => ?_)
      exact x_return hC dX12_value_82 hm8 hF
set_option maxRecDepth 20000 in
set_option maxHeartbeats 4000000 in
theorem WL_X12_value_7 {g : Gx} {b : Bs} {o : Mm} {Q : Int → Mm → Prop} (hC : Cok g b RX12 cX12_value 2 4 none) : ∀ n : Nat, ∀ v1 : Int, (v1 = 0 ∨ v1 = 1) → ∀ m : Mm, Rg m → okR (L_X12_value_7 n v1 m) Q → X g b (false, o) 2 (ZM g b (false, o) 0 Q) 7 [(0, .ref (b.1 + 54)), (1, iV v1)] [] m 0 0 := by
  intro n
  induction n with
  | zero => intro v1 hv1 m hm hF; exact absurd hF (fun z => z)
  | succ n ih =>
    intro v1 hv1 m hm hF
    have hF : okR (LB_X12_value_7 (L_X12_value_7 n) v1 m) Q := hF
    unfold LB_X12_value_7 at hF
    refine x_iload_n hC dX12_value_7 rfl 1 rfl ?_
    refine x_if_eq (tgt := 57) hC dX12_value_8 rfl rfl (rg_01 hv1) hF (fun hq1 hF => ?_) (fun hq1 hF => ?_)
    · refine x_sub [0] rfl ?_
      exact WJ_X12_value_57 hC   m hm hF
    · refine x_aload_n hC dX12_value_11 rfl 0 rfl ?_
      refine x_callV3 (kc2 := 0) (ks2 := 0) (k := 54) (As := []) (rest := []) hC dX12_value_12 rfl hm (fun _ _ h => T_X12_isGood b _ m  h) mlX12_177 vlX12_isGood rfl (by decide) rfl rfl (Nat.le_of_ble_eq_true rfl) (by decide) (by decide) rfl rfl hF (fun r2 m3 hr2 hm3 hF => ?_)
      refine x_if_eq (tgt := 57) hC dX12_value_15 rfl rfl (rg_01 hr2) hF (fun hq4 hF => ?_) (fun hq4 hF => ?_)
      · refine x_sub [0] rfl ?_
        exact WJ_X12_value_57 hC   m3 hm3 hF
      · refine x_aload_n hC dX12_value_18 rfl 0 rfl ?_
        refine x_getI hC dX12_value_19 rfl flX12_234 rfl (by decide) rfl rfl ?_
        refine x_if_ne (tgt := 29) hC dX12_value_22 rfl rfl (hm3.i 54 35 rfl) hF (fun hq5 hF => ?_) (fun hq5 hF => ?_)
        · refine x_sub [0] rfl ?_
          exact WJ_X12_value_29 hC ih   m3 hm3 hF
        · refine x_aload_n hC dX12_value_25 rfl 0 rfl ?_
          refine x_callV0 (kc2 := 0) (ks2 := 0) (k := 54) (As := []) (rest := []) hC dX12_value_26 rfl hm3 (fun _ _ h => T_X12_factor b _ m3  h) mlX12_238 vlX12_factor rfl (by decide) rfl rfl (Nat.le_of_ble_eq_true rfl) (by decide) (by decide) rfl rfl hF (fun r6 m7 hr6 hm7 hF => ?_)
          refine x_sub [0] rfl ?_
          exact WJ_X12_value_29 hC ih   m7 hm7 hF
set_option maxRecDepth 20000 in
set_option maxHeartbeats 4000000 in
theorem T_X12_value (b : Bs) (o : Mm) (m : Mm) {r : Int} {m' : Mm} (h : F_X12_value  m = some (r, m')) : Cn yX12_value cX12_value 2 none (4) 0 0 0 b (false, o) m [.ref (b.1 + 54)] (F_X12_value  m) := by
  refine Cn_of rfl (Nat.le_of_ble_eq_true rfl) (fun g hC hm => ?_)
  have hF := okR_some h
  generalize hQ : (fun (r : Int) (m' : Mm) => F_X12_value  m = some (r, m')) = Q at hF ⊢
  clear hQ h
  replace hC : Cok g b RX12 cX12_value 2 4 none := hC
  refine x_lv (lv' := [(0, .ref (b.1 + 54))]) rfl ?_
  unfold F_X12_value at hF
  refine x_iconst hC dX12_value_0 rfl ?_
  refine x_istore_nZ (lv' := [(0, .ref (b.1 + 54))]) hC dX12_value_1 rfl rfl (by decide) rfl (Or.inr rfl) hF (fun x1 hx1 hF => ?_)
  refine x_aload_n hC dX12_value_2 rfl 1 rfl ?_
  refine x_iconst hC dX12_value_3 rfl ?_
  refine x_putZ hC dX12_value_4 rfl fpX12_234 rfl (by decide) (by decide) rfl rfl hm (Or.inl rfl) rfl hF (fun m2 hm2 hF => ?_)
  refine x_sub [1, 0] rfl ?_
  exact WL_X12_value_7 hC 100000  x1 hx1 m2 hm2 hF
set_option maxRecDepth 20000 in
set_option maxHeartbeats 4000000 in
theorem WJ_X12_pieceOfC_25 {g : Gx} {b : Bs} {o : Mm} {Q : Int → Mm → Prop} {k_0 : Mm → Rs} (hC : Cok g b RX12 cX12_pieceOfC 2 5 none) (hk_0 : ∀ m : Mm, Rg m → okR (k_0  m) Q → X g b (false, o) 2 (ZM g b (false, o) 0 Q) 0 [(0, .ref (b.1 + 54))] [] m 0 0) (m : Mm) (hm : Rg m) (hF : okR (J_X12_pieceOfC_25 k_0  m) Q) : X g b (false, o) 2 (ZM g b (false, o) 0 Q) 25 [(0, .ref (b.1 + 54))] [] m 0 0 := by
  unfold J_X12_pieceOfC_25 at hF
  refine x_aload_n hC dX12_pieceOfC_25 rfl 0 rfl ?_
  refine x_callV0 (kc2 := 0) (ks2 := 0) (k := 54) (As := []) (rest := []) hC dX12_pieceOfC_26 rfl hm (fun _ _ h => T_X12_opens b _ m  h) mlX12_221 vlX12_opens rfl (by decide) rfl rfl (Nat.le_of_ble_eq_true rfl) (by decide) (by decide) rfl rfl hF (fun r1 m2 hr1 hm2 hF => ?_)
  refine x_goto (tgt := 0) hC dX12_pieceOfC_29 rfl ?_
  exact hk_0  m2 hm2 hF
set_option maxRecDepth 20000 in
set_option maxHeartbeats 4000000 in
theorem WJ_X12_pieceOfC_43 {g : Gx} {b : Bs} {o : Mm} {Q : Int → Mm → Prop} (hC : Cok g b RX12 cX12_pieceOfC 2 5 none) (m : Mm) (hm : Rg m) (hF : okR (J_X12_pieceOfC_43  m) Q) : X g b (false, o) 2 (ZM g b (false, o) 0 Q) 43 [(0, .ref (b.1 + 54))] [] m 0 0 := by
  unfold J_X12_pieceOfC_43 at hF
  refine x_aload_n hC dX12_pieceOfC_43 rfl 0 rfl ?_
  refine x_callV3 (kc2 := 0) (ks2 := 0) (k := 54) (As := []) (rest := []) hC dX12_pieceOfC_44 rfl hm (fun _ _ h => T_X12_isGood b _ m  h) mlX12_177 vlX12_isGood rfl (by decide) rfl rfl (Nat.le_of_ble_eq_true rfl) (by decide) (by decide) rfl rfl hF (fun r1 m2 hr1 hm2 hF => ?_)
  refine x_if_ne (tgt := 51) hC dX12_pieceOfC_47 rfl rfl (rg_01 hr1) hF (fun hq3 hF => ?_) (fun hq3 hF => ?_)
  · refine x_aload_n hC dX12_pieceOfC_51 rfl 0 rfl ?_
    refine x_callV1 (kc2 := 0) (ks2 := 0) (k := 54) (As := []) (rest := []) hC dX12_pieceOfC_52 rfl hm2 (fun _ _ h => T_X12_here b _ m2  h) mlX12_194 vlX12_here rfl (by decide) rfl rfl (Nat.le_of_ble_eq_true rfl) (by decide) (by decide) rfl rfl hF (fun r4 m5 hr4 hm5 hF => ?_)
    refine x_istore_n (lv' := [(0, .ref (b.1 + 54))]) hC dX12_pieceOfC_55 rfl rfl (by decide) rfl hr4 hF (fun x6 hx6 hF => ?_)
    refine x_iload_n hC dX12_pieceOfC_56 rfl 0 rfl ?_
    refine x_callS3 (kc2 := 0) (ks2 := 0) (As := [iV x6]) (rest := []) hC dX12_pieceOfC_57 rfl hm5 (fun _ _ h => T_X12_isSign b _ m5 x6 hx6 h) mlX12_247 vsX12_isSign rfl rfl (Nat.le_of_ble_eq_true rfl) (by decide) (by decide) rfl rfl hF (fun r7 m8 hr7 hm8 hF => ?_)
    refine x_if_ne (tgt := 73) hC dX12_pieceOfC_60 rfl rfl (rg_01 hr7) hF (fun hq9 hF => ?_) (fun hq9 hF => ?_)
    · refine x_aload_n hC dX12_pieceOfC_73 rfl 1 rfl ?_
      refine x_iload_n hC dX12_pieceOfC_74 rfl 0 rfl ?_
      refine x_callV0 (kc2 := 0) (ks2 := 0) (k := 54) (As := [iV x6]) (rest := []) hC dX12_pieceOfC_75 rfl hm8 (fun _ _ h => T_X12_puts b _ m8 x6 hx6 h) mlX12_198 vlX12_puts rfl (by decide) rfl rfl (Nat.le_of_ble_eq_true rfl) (by decide) (by decide) rfl rfl hF (fun r10 m11 hr10 hm11 hF => ?_)
      refine x_aload_n hC dX12_pieceOfC_78 rfl 1 rfl ?_
      refine x_callV0 (kc2 := 0) (ks2 := 0) (k := 54) (As := []) (rest := []) hC dX12_pieceOfC_79 rfl hm11 (fun _ _ h => T_X12_value b _ m11  h) mlX12_244 vlX12_value rfl (by decide) rfl rfl (Nat.le_of_ble_eq_true rfl) (by decide) (by decide) rfl rfl hF (fun r12 m13 hr12 hm13 hF => ?_)
      refine x_aload_n hC dX12_pieceOfC_82 rfl 1 rfl ?_
      refine x_callV3 (kc2 := 0) (ks2 := 0) (k := 54) (As := []) (rest := []) hC dX12_pieceOfC_83 rfl hm13 (fun _ _ h => T_X12_isGood b _ m13  h) mlX12_177 vlX12_isGood rfl (by decide) rfl rfl (Nat.le_of_ble_eq_true rfl) (by decide) (by decide) rfl rfl hF (fun r14 m15 hr14 hm15 hF => ?_)
      refine x_if_ne (tgt := 90) hC dX12_pieceOfC_86 rfl rfl (rg_01 hr14) hF (fun hq16 hF => ?_) (fun hq16 hF => ?_)
      · refine x_aload_n hC dX12_pieceOfC_90 rfl 1 rfl ?_
        refine x_aload_n hC dX12_pieceOfC_91 rfl 1 rfl ?_
        refine x_callV1 (kc2 := 0) (ks2 := 0) (k := 54) (As := []) (rest := [.ref (b.1 + 54)]) hC dX12_pieceOfC_92 rfl hm15 (fun _ _ h => T_X12_top b _ m15  h) mlX12_208 vlX12_top rfl (by decide) rfl rfl (Nat.le_of_ble_eq_true rfl) (by decide) (by decide) rfl rfl hF (fun r17 m18 hr17 hm18 hF => ?_)
        refine x_iconst hC dX12_pieceOfC_95 rfl ?_
        refine x_callV0 (kc2 := 0) (ks2 := 0) (k := 54) (As := [iV r17, iV 0]) (rest := []) hC dX12_pieceOfC_96 rfl hm18 (fun _ _ h => T_X12_emit b _ m18 r17 hr17 0 (rgc 0 rfl) h) mlX12_218 vlX12_emit rfl (by decide) rfl rfl (Nat.le_of_ble_eq_true rfl) (by decide) (by decide) rfl rfl hF (fun r19 m20 hr19 hm20 hF => ?_)
        refine x_aload_n hC dX12_pieceOfC_99 rfl 1 rfl ?_
        refine x_dup hC dX12_pieceOfC_100 rfl rfl ?_
        refine x_getI hC dX12_pieceOfC_101 rfl flX12_184 rfl (by decide) rfl rfl ?_
        refine x_iconst hC dX12_pieceOfC_104 rfl ?_
        refine x_isub hC dX12_pieceOfC_105 rfl ?_
        refine x_putI hC dX12_pieceOfC_106 rfl fpX12_184 rfl (by decide) (by decide) rfl rfl hm20 (rg_wr _) rfl hF (fun m21 hm21 hF => ?_)
        refine x_aload_n hC dX12_pieceOfC_109 rfl 1 rfl ?_
        refine x_callV0 (kc2 := 0) (ks2 := 0) (k := 54) (As := []) (rest := []) hC dX12_pieceOfC_110 rfl hm21 (fun _ _ h => T_X12_ends b _ m21  h) mlX12_250 vlX12_ends rfl (by decide) rfl rfl (Nat.le_of_ble_eq_true rfl) (by decide) (by decide) rfl rfl hF (fun r22 m23 hr22 hm23 hF => ?_)
        exact x_return hC dX12_pieceOfC_113 hm23 hF
      · exact x_return hC dX12_pieceOfC_89 hm15 hF
    · refine x_aload_n hC dX12_pieceOfC_63 rfl 1 rfl ?_
      refine x_iconst hC dX12_pieceOfC_64 rfl ?_
      refine x_aload_n hC dX12_pieceOfC_65 rfl 1 rfl ?_
      refine x_getI hC dX12_pieceOfC_66 rfl flX12_168 rfl (by decide) rfl rfl ?_
      refine x_callV0 (kc2 := 0) (ks2 := 0) (k := 54) (As := [iV 1, iV (m8 54 27)]) (rest := []) hC dX12_pieceOfC_69 rfl hm8 (fun _ _ h => T_X12_wrongs b _ m8 1 (rgc 1 rfl) (m8 54 27) (hm8.i 54 27 rfl) h) mlX12_190 vlX12_wrongs rfl (by decide) rfl rfl (Nat.le_of_ble_eq_true rfl) (by decide) (by decide) rfl rfl hF (fun r24 m25 hr24 hm25 hF => ?_)
      exact x_return hC dX12_pieceOfC_72 hm25 hF
  · exact x_return hC dX12_pieceOfC_50 hm2 hF
set_option maxRecDepth 20000 in
set_option maxHeartbeats 4000000 in
theorem WJ_X12_pieceOfC_32 {g : Gx} {b : Bs} {o : Mm} {Q : Int → Mm → Prop} (hC : Cok g b RX12 cX12_pieceOfC 2 5 none) (m : Mm) (hm : Rg m) (hF : okR (J_X12_pieceOfC_32  m) Q) : X g b (false, o) 2 (ZM g b (false, o) 0 Q) 32 [(0, .ref (b.1 + 54))] [] m 0 0 := by
  unfold J_X12_pieceOfC_32 at hF
  refine x_aload_n hC dX12_pieceOfC_32 rfl 0 rfl ?_
  refine x_callV3 (kc2 := 0) (ks2 := 0) (k := 54) (As := []) (rest := []) hC dX12_pieceOfC_33 rfl hm (fun _ _ h => T_X12_isGood b _ m  h) mlX12_177 vlX12_isGood rfl (by decide) rfl rfl (Nat.le_of_ble_eq_true rfl) (by decide) (by decide) rfl rfl hF (fun r1 m2 hr1 hm2 hF => ?_)
  refine x_if_eq (tgt := 43) hC dX12_pieceOfC_36 rfl rfl (rg_01 hr1) hF (fun hq3 hF => ?_) (fun hq3 hF => ?_)
  · exact WJ_X12_pieceOfC_43 hC   m2 hm2 hF
  · refine x_aload_n hC dX12_pieceOfC_39 rfl 0 rfl ?_
    refine x_callV0 (kc2 := 0) (ks2 := 0) (k := 54) (As := []) (rest := []) hC dX12_pieceOfC_40 rfl hm2 (fun _ _ h => T_X12_value b _ m2  h) mlX12_244 vlX12_value rfl (by decide) rfl rfl (Nat.le_of_ble_eq_true rfl) (by decide) (by decide) rfl rfl hF (fun r4 m5 hr4 hm5 hF => ?_)
    exact WJ_X12_pieceOfC_43 hC   m5 hm5 hF
set_option maxRecDepth 20000 in
set_option maxHeartbeats 4000000 in
theorem WL_X12_pieceOfC_0 {g : Gx} {b : Bs} {o : Mm} {Q : Int → Mm → Prop} (hC : Cok g b RX12 cX12_pieceOfC 2 5 none) : ∀ n : Nat, ∀ m : Mm, Rg m → okR (L_X12_pieceOfC_0 n  m) Q → X g b (false, o) 2 (ZM g b (false, o) 0 Q) 0 [(0, .ref (b.1 + 54))] [] m 0 0 := by
  intro n
  induction n with
  | zero => intro  m hm hF; exact absurd hF (fun z => z)
  | succ n ih =>
    intro  m hm hF
    have hF : okR (LB_X12_pieceOfC_0 (L_X12_pieceOfC_0 n)  m) Q := hF
    unfold LB_X12_pieceOfC_0 at hF
    refine x_aload_n hC dX12_pieceOfC_0 rfl 0 rfl ?_
    refine x_callV3 (kc2 := 0) (ks2 := 0) (k := 54) (As := []) (rest := []) hC dX12_pieceOfC_1 rfl hm (fun _ _ h => T_X12_isGood b _ m  h) mlX12_177 vlX12_isGood rfl (by decide) rfl rfl (Nat.le_of_ble_eq_true rfl) (by decide) (by decide) rfl rfl hF (fun r1 m2 hr1 hm2 hF => ?_)
    refine x_if_eq (tgt := 32) hC dX12_pieceOfC_4 rfl rfl (rg_01 hr1) hF (fun hq3 hF => ?_) (fun hq3 hF => ?_)
    · exact WJ_X12_pieceOfC_32 hC   m2 hm2 hF
    · refine x_aload_n hC dX12_pieceOfC_7 rfl 0 rfl ?_
      refine x_callV1 (kc2 := 0) (ks2 := 0) (k := 54) (As := []) (rest := []) hC dX12_pieceOfC_8 rfl hm2 (fun _ _ h => T_X12_here b _ m2  h) mlX12_194 vlX12_here rfl (by decide) rfl rfl (Nat.le_of_ble_eq_true rfl) (by decide) (by decide) rfl rfl hF (fun r4 m5 hr4 hm5 hF => ?_)
      refine x_bipush hC dX12_pieceOfC_11 rfl rfl ?_
      refine x_icmp_eq (tgt := 25) hC dX12_pieceOfC_13 rfl rfl hr4 (rgc 33 rfl) hF (fun hq6 hF => ?_) (fun hq6 hF => ?_)
      · exact WJ_X12_pieceOfC_25 hC ih   m5 hm5 hF
      · refine x_aload_n hC dX12_pieceOfC_16 rfl 0 rfl ?_
        refine x_callV1 (kc2 := 0) (ks2 := 0) (k := 54) (As := []) (rest := []) hC dX12_pieceOfC_17 rfl hm5 (fun _ _ h => T_X12_here b _ m5  h) mlX12_194 vlX12_here rfl (by decide) rfl rfl (Nat.le_of_ble_eq_true rfl) (by decide) (by decide) rfl rfl hF (fun r7 m8 hr7 hm8 hF => ?_)
        refine x_bipush hC dX12_pieceOfC_20 rfl rfl ?_
        refine x_icmp_ne (tgt := 32) hC dX12_pieceOfC_22 rfl rfl hr7 (rgc 40 rfl) hF (fun hq9 hF => ?_) (fun hq9 hF => ?_)
        · exact WJ_X12_pieceOfC_32 hC   m8 hm8 hF
        · exact WJ_X12_pieceOfC_25 hC ih   m8 hm8 hF
set_option maxRecDepth 20000 in
set_option maxHeartbeats 4000000 in
theorem T_X12_pieceOfC (b : Bs) (o : Mm) (m : Mm) {r : Int} {m' : Mm} (h : F_X12_pieceOfC  m = some (r, m')) : Cn yX12_pieceOfC cX12_pieceOfC 2 none (5) 0 0 0 b (false, o) m [.ref (b.1 + 54)] (F_X12_pieceOfC  m) := by
  refine Cn_of rfl (Nat.le_of_ble_eq_true rfl) (fun g hC hm => ?_)
  have hF := okR_some h
  generalize hQ : (fun (r : Int) (m' : Mm) => F_X12_pieceOfC  m = some (r, m')) = Q at hF ⊢
  clear hQ h
  replace hC : Cok g b RX12 cX12_pieceOfC 2 5 none := hC
  refine x_lv (lv' := [(0, .ref (b.1 + 54))]) rfl ?_
  unfold F_X12_pieceOfC at hF
  exact WL_X12_pieceOfC_0 hC 100000   m hm hF
set_option maxRecDepth 20000 in
set_option maxHeartbeats 4000000 in
theorem WJ_X12_goesBehind_32 {g : Gx} {b : Bs} {o : Mm} {Q : Int → Mm → Prop} (hC : Cok g b RX12 cX12_goesBehind 2 3 (some .boolean)) (v1 : Int) (hv1 : inR v1) (m : Mm) (hm : Rg m) (hF : okR (J_X12_goesBehind_32 v1 m) Q) : X g b (false, o) 2 (ZM g b (false, o) 3 Q) 32 [(0, .ref (b.1 + 54)), (1, iV v1)] [] m 0 0 := by
  unfold J_X12_goesBehind_32 at hF
  refine x_aload_n hC dX12_goesBehind_32 rfl 0 rfl ?_
  refine x_iload_n hC dX12_goesBehind_33 rfl 1 rfl ?_
  refine x_callV0 (kc2 := 0) (ks2 := 0) (k := 54) (As := [iV v1]) (rest := []) hC dX12_goesBehind_34 rfl hm (fun _ _ h => T_X12_puts b _ m v1 hv1 h) mlX12_198 vlX12_puts rfl (by decide) rfl rfl (Nat.le_of_ble_eq_true rfl) (by decide) (by decide) rfl rfl hF (fun r1 m2 hr1 hm2 hF => ?_)
  refine x_iconst hC dX12_goesBehind_37 rfl ?_
  exact x_zreturn hC dX12_goesBehind_38 hm2 (Or.inr rfl) hF
set_option maxRecDepth 20000 in
set_option maxHeartbeats 4000000 in
theorem WJ_X12_goesBehind_17 {g : Gx} {b : Bs} {o : Mm} {Q : Int → Mm → Prop} (hC : Cok g b RX12 cX12_goesBehind 2 3 (some .boolean)) (v1 : Int) (hv1 : inR v1) (m : Mm) (hm : Rg m) (hF : okR (J_X12_goesBehind_17 v1 m) Q) : X g b (false, o) 2 (ZM g b (false, o) 3 Q) 17 [(0, .ref (b.1 + 54)), (1, iV v1)] [] m 0 0 := by
  unfold J_X12_goesBehind_17 at hF
  refine x_aload_n hC dX12_goesBehind_17 rfl 0 rfl ?_
  refine x_iload_n hC dX12_goesBehind_18 rfl 1 rfl ?_
  refine x_bipush hC dX12_goesBehind_19 rfl rfl ?_
  refine x_icmp_ne (tgt := 28) hC dX12_goesBehind_21 rfl rfl hv1 (rgc 124 rfl) hF (fun hq1 hF => ?_) (fun hq1 hF => ?_)
  · refine x_iconst hC dX12_goesBehind_28 rfl ?_
    refine x_callV0 (kc2 := 0) (ks2 := 0) (k := 54) (As := [iV 0]) (rest := []) hC dX12_goesBehind_29 rfl hm (fun _ _ h => T_X12_joins b _ m 0 (Or.inl rfl) h) mlX12_253 vlX12_joins rfl (by decide) rfl rfl (Nat.le_of_ble_eq_true rfl) (by decide) (by decide) rfl rfl hF (fun r2 m3 hr2 hm3 hF => ?_)
    exact WJ_X12_goesBehind_32 hC  v1 hv1 m3 hm3 hF
  · refine x_iconst hC dX12_goesBehind_24 rfl ?_
    refine x_goto (tgt := 29) hC dX12_goesBehind_25 rfl ?_
    refine x_callV0 (kc2 := 0) (ks2 := 0) (k := 54) (As := [iV 1]) (rest := []) hC dX12_goesBehind_29 rfl hm (fun _ _ h => T_X12_joins b _ m 1 (Or.inr rfl) h) mlX12_253 vlX12_joins rfl (by decide) rfl rfl (Nat.le_of_ble_eq_true rfl) (by decide) (by decide) rfl rfl hF (fun r4 m5 hr4 hm5 hF => ?_)
    exact WJ_X12_goesBehind_32 hC  v1 hv1 m5 hm5 hF
set_option maxRecDepth 20000 in
set_option maxHeartbeats 4000000 in
theorem WJ_X12_goesBehind_107 {g : Gx} {b : Bs} {o : Mm} {Q : Int → Mm → Prop} (hC : Cok g b RX12 cX12_goesBehind 2 3 (some .boolean)) (m : Mm) (hm : Rg m) (hF : okR (J_X12_goesBehind_107  m) Q) : X g b (false, o) 2 (ZM g b (false, o) 3 Q) 107 [(0, .ref (b.1 + 54))] [] m 0 0 := by
  unfold J_X12_goesBehind_107 at hF
  refine x_aload_n hC dX12_goesBehind_107 rfl 0 rfl ?_
  refine x_getI hC dX12_goesBehind_108 rfl flX12_256 rfl (by decide) rfl rfl ?_
  refine x_if_ne (tgt := 118) hC dX12_goesBehind_111 rfl rfl (hm.i 54 34 rfl) hF (fun hq1 hF => ?_) (fun hq1 hF => ?_)
  · refine x_iconst hC dX12_goesBehind_118 rfl ?_
    exact x_zreturn hC dX12_goesBehind_119 hm (Or.inl rfl) hF
  · refine x_aload_n hC dX12_goesBehind_114 rfl 0 rfl ?_
    refine x_callV0 (kc2 := 0) (ks2 := 0) (k := 54) (As := []) (rest := []) hC dX12_goesBehind_115 rfl hm (fun _ _ h => T_X12_ends b _ m  h) mlX12_250 vlX12_ends rfl (by decide) rfl rfl (Nat.le_of_ble_eq_true rfl) (by decide) (by decide) rfl rfl hF (fun r2 m3 hr2 hm3 hF => ?_)
    refine x_iconst hC dX12_goesBehind_118 rfl ?_
    exact x_zreturn hC dX12_goesBehind_119 hm3 (Or.inl rfl) hF
set_option maxRecDepth 20000 in
set_option maxHeartbeats 4000000 in
theorem T_X12_goesBehind (b : Bs) (o : Mm) (m : Mm) {r : Int} {m' : Mm} (h : F_X12_goesBehind  m = some (r, m')) : Cn yX12_goesBehind cX12_goesBehind 2 (some .boolean) (3) 0 0 3 b (false, o) m [.ref (b.1 + 54)] (F_X12_goesBehind  m) := by
  refine Cn_of rfl (Nat.le_of_ble_eq_true rfl) (fun g hC hm => ?_)
  have hF := okR_some h
  generalize hQ : (fun (r : Int) (m' : Mm) => F_X12_goesBehind  m = some (r, m')) = Q at hF ⊢
  clear hQ h
  replace hC : Cok g b RX12 cX12_goesBehind 2 3 (some .boolean) := hC
  refine x_lv (lv' := [(0, .ref (b.1 + 54))]) rfl ?_
  unfold F_X12_goesBehind at hF
  refine x_aload_n hC dX12_goesBehind_0 rfl 0 rfl ?_
  refine x_callV1 (kc2 := 0) (ks2 := 0) (k := 54) (As := []) (rest := []) hC dX12_goesBehind_1 rfl hm (fun _ _ h => T_X12_here b _ m  h) mlX12_194 vlX12_here rfl (by decide) rfl rfl (Nat.le_of_ble_eq_true rfl) (by decide) (by decide) rfl rfl hF (fun r1 m2 hr1 hm2 hF => ?_)
  refine x_istore_n (lv' := [(0, .ref (b.1 + 54))]) hC dX12_goesBehind_4 rfl rfl (by decide) rfl hr1 hF (fun x3 hx3 hF => ?_)
  refine x_iload_n hC dX12_goesBehind_5 rfl 0 rfl ?_
  refine x_bipush hC dX12_goesBehind_6 rfl rfl ?_
  refine x_icmp_eq (tgt := 17) hC dX12_goesBehind_8 rfl rfl hx3 (rgc 38 rfl) hF (fun hq4 hF => ?_) (fun hq4 hF => ?_)
  · refine x_sub [1, 0] rfl ?_
    exact WJ_X12_goesBehind_17 hC  x3 hx3 m2 hm2 hF
  · refine x_iload_n hC dX12_goesBehind_11 rfl 0 rfl ?_
    refine x_bipush hC dX12_goesBehind_12 rfl rfl ?_
    refine x_icmp_ne (tgt := 39) hC dX12_goesBehind_14 rfl rfl hx3 (rgc 124 rfl) hF (fun hq5 hF => ?_) (fun hq5 hF => ?_)
    · refine x_iload_n hC dX12_goesBehind_39 rfl 0 rfl ?_
      refine x_bipush hC dX12_goesBehind_40 rfl rfl ?_
      refine x_icmp_eq (tgt := 56) hC dX12_goesBehind_42 rfl rfl hx3 (rgc 41 rfl) hF (fun hq6 hF => ?_) (fun hq6 hF => ?_)
      · refine x_aload_n hC dX12_goesBehind_56 rfl 1 rfl ?_
        refine x_iconst hC dX12_goesBehind_57 rfl ?_
        refine x_callV0 (kc2 := 0) (ks2 := 0) (k := 54) (As := [iV 1]) (rest := []) hC dX12_goesBehind_58 rfl hm2 (fun _ _ h => T_X12_joins b _ m2 1 (Or.inr rfl) h) mlX12_253 vlX12_joins rfl (by decide) rfl rfl (Nat.le_of_ble_eq_true rfl) (by decide) (by decide) rfl rfl hF (fun r7 m8 hr7 hm8 hF => ?_)
        refine x_aload_n hC dX12_goesBehind_61 rfl 1 rfl ?_
        refine x_dup hC dX12_goesBehind_62 rfl rfl ?_
        refine x_getI hC dX12_goesBehind_63 rfl flX12_184 rfl (by decide) rfl rfl ?_
        refine x_iconst hC dX12_goesBehind_66 rfl ?_
        refine x_isub hC dX12_goesBehind_67 rfl ?_
        refine x_putI hC dX12_goesBehind_68 rfl fpX12_184 rfl (by decide) (by decide) rfl rfl hm8 (rg_wr _) rfl hF (fun m9 hm9 hF => ?_)
        refine x_aload_n hC dX12_goesBehind_71 rfl 1 rfl ?_
        refine x_dup hC dX12_goesBehind_72 rfl rfl ?_
        refine x_getI hC dX12_goesBehind_73 rfl flX12_187 rfl (by decide) rfl rfl ?_
        refine x_iconst hC dX12_goesBehind_76 rfl ?_
        refine x_isub hC dX12_goesBehind_77 rfl ?_
        refine x_putI hC dX12_goesBehind_78 rfl fpX12_187 rfl (by decide) (by decide) rfl rfl hm9 (rg_wr _) rfl hF (fun m10 hm10 hF => ?_)
        refine x_aload_n hC dX12_goesBehind_81 rfl 1 rfl ?_
        refine x_dup hC dX12_goesBehind_82 rfl rfl ?_
        refine x_getI hC dX12_goesBehind_83 rfl flX12_168 rfl (by decide) rfl rfl ?_
        refine x_iconst hC dX12_goesBehind_86 rfl ?_
        refine x_iadd hC dX12_goesBehind_87 rfl ?_
        refine x_putI hC dX12_goesBehind_88 rfl fpX12_168 rfl (by decide) (by decide) rfl rfl hm10 (rg_wr _) rfl hF (fun m11 hm11 hF => ?_)
        refine x_aload_n hC dX12_goesBehind_91 rfl 1 rfl ?_
        refine x_aload_n hC dX12_goesBehind_92 rfl 1 rfl ?_
        refine x_getI hC dX12_goesBehind_93 rfl flX12_184 rfl (by decide) rfl rfl ?_
        refine x_if_ne (tgt := 103) hC dX12_goesBehind_96 rfl rfl (hm11.i 54 33 rfl) hF (fun hq12 hF => ?_) (fun hq12 hF => ?_)
        · refine x_iconst hC dX12_goesBehind_103 rfl ?_
          refine x_putZ hC dX12_goesBehind_104 rfl fpX12_256 rfl (by decide) (by decide) rfl rfl hm11 (Or.inl rfl) rfl hF (fun m13 hm13 hF => ?_)
          refine x_sub [1] rfl ?_
          exact WJ_X12_goesBehind_107 hC   m13 hm13 hF
        · refine x_iconst hC dX12_goesBehind_99 rfl ?_
          refine x_goto (tgt := 104) hC dX12_goesBehind_100 rfl ?_
          refine x_putZ hC dX12_goesBehind_104 rfl fpX12_256 rfl (by decide) (by decide) rfl rfl hm11 (Or.inr rfl) rfl hF (fun m14 hm14 hF => ?_)
          refine x_sub [1] rfl ?_
          exact WJ_X12_goesBehind_107 hC   m14 hm14 hF
      · refine x_aload_n hC dX12_goesBehind_45 rfl 1 rfl ?_
        refine x_iconst hC dX12_goesBehind_46 rfl ?_
        refine x_aload_n hC dX12_goesBehind_47 rfl 1 rfl ?_
        refine x_getI hC dX12_goesBehind_48 rfl flX12_168 rfl (by decide) rfl rfl ?_
        refine x_callV0 (kc2 := 0) (ks2 := 0) (k := 54) (As := [iV 1, iV (m2 54 27)]) (rest := []) hC dX12_goesBehind_51 rfl hm2 (fun _ _ h => T_X12_wrongs b _ m2 1 (rgc 1 rfl) (m2 54 27) (hm2.i 54 27 rfl) h) mlX12_190 vlX12_wrongs rfl (by decide) rfl rfl (Nat.le_of_ble_eq_true rfl) (by decide) (by decide) rfl rfl hF (fun r15 m16 hr15 hm16 hF => ?_)
        refine x_iconst hC dX12_goesBehind_54 rfl ?_
        exact x_zreturn hC dX12_goesBehind_55 hm16 (Or.inl rfl) hF
    · refine x_sub [1, 0] rfl ?_
      exact WJ_X12_goesBehind_17 hC  x3 hx3 m2 hm2 hF
set_option maxRecDepth 20000 in
set_option maxHeartbeats 4000000 in
theorem WJ_X12_condition_59 {g : Gx} {b : Bs} {o : Mm} {Q : Int → Mm → Prop} {k_37 : Int → Mm → Rs} (hC : Cok g b RX12 cX12_condition 2 6 none) (hk_37 : ∀ v1 : Int, (v1 = 0 ∨ v1 = 1) → ∀ m : Mm, Rg m → okR (k_37 v1 m) Q → X g b (false, o) 2 (ZM g b (false, o) 0 Q) 37 [(0, .ref (b.1 + 54)), (1, iV v1)] [] m 0 0) (v1 : Int) (hv1 : (v1 = 0 ∨ v1 = 1)) (m : Mm) (hm : Rg m) (hF : okR (J_X12_condition_59 k_37 v1 m) Q) : X g b (false, o) 2 (ZM g b (false, o) 0 Q) 59 [(0, .ref (b.1 + 54)), (1, iV v1)] [] m 0 0 := by
  unfold J_X12_condition_59 at hF
  refine x_aload_n hC dX12_condition_59 rfl 0 rfl ?_
  refine x_callV3 (kc2 := 0) (ks2 := 0) (k := 54) (As := []) (rest := []) hC dX12_condition_60 rfl hm (fun _ _ h => T_X12_isGood b _ m  h) mlX12_177 vlX12_isGood rfl (by decide) rfl rfl (Nat.le_of_ble_eq_true rfl) (by decide) (by decide) rfl rfl hF (fun r1 m2 hr1 hm2 hF => ?_)
  refine x_if_eq (tgt := 37) hC dX12_condition_63 rfl rfl (rg_01 hr1) hF (fun hq3 hF => ?_) (fun hq3 hF => ?_)
  · exact hk_37 v1 hv1 m2 hm2 hF
  · refine x_aload_n hC dX12_condition_66 rfl 0 rfl ?_
    refine x_callV3 (kc2 := 0) (ks2 := 0) (k := 54) (As := []) (rest := []) hC dX12_condition_67 rfl hm2 (fun _ _ h => T_X12_goesBehind b _ m2  h) mlX12_262 vlX12_goesBehind rfl (by decide) rfl rfl (Nat.le_of_ble_eq_true rfl) (by decide) (by decide) rfl rfl hF (fun r4 m5 hr4 hm5 hF => ?_)
    refine x_istore_nZ (lv' := [(0, .ref (b.1 + 54))]) hC dX12_condition_70 rfl rfl (by decide) rfl hr4 hF (fun x6 hx6 hF => ?_)
    refine x_goto (tgt := 37) hC dX12_condition_71 rfl ?_
    refine x_sub [1, 0] rfl ?_
    exact hk_37 x6 hx6 m5 hm5 hF
set_option maxRecDepth 20000 in
set_option maxHeartbeats 4000000 in
theorem WL_X12_condition_37 {g : Gx} {b : Bs} {o : Mm} {Q : Int → Mm → Prop} (hC : Cok g b RX12 cX12_condition 2 6 none) : ∀ n : Nat, ∀ v1 : Int, (v1 = 0 ∨ v1 = 1) → ∀ m : Mm, Rg m → okR (L_X12_condition_37 n v1 m) Q → X g b (false, o) 2 (ZM g b (false, o) 0 Q) 37 [(0, .ref (b.1 + 54)), (1, iV v1)] [] m 0 0 := by
  intro n
  induction n with
  | zero => intro v1 hv1 m hm hF; exact absurd hF (fun z => z)
  | succ n ih =>
    intro v1 hv1 m hm hF
    have hF : okR (LB_X12_condition_37 (L_X12_condition_37 n) v1 m) Q := hF
    unfold LB_X12_condition_37 at hF
    refine x_aload_n hC dX12_condition_37 rfl 0 rfl ?_
    refine x_callV3 (kc2 := 0) (ks2 := 0) (k := 54) (As := []) (rest := []) hC dX12_condition_38 rfl hm (fun _ _ h => T_X12_isGood b _ m  h) mlX12_177 vlX12_isGood rfl (by decide) rfl rfl (Nat.le_of_ble_eq_true rfl) (by decide) (by decide) rfl rfl hF (fun r1 m2 hr1 hm2 hF => ?_)
    refine x_if_eq (tgt := 74) hC dX12_condition_41 rfl rfl (rg_01 hr1) hF (fun hq3 hF => ?_) (fun hq3 hF => ?_)
    · exact x_return hC dX12_condition_74 hm2 hF
    · refine x_aload_n hC dX12_condition_44 rfl 0 rfl ?_
      refine x_getI hC dX12_condition_45 rfl flX12_256 rfl (by decide) rfl rfl ?_
      refine x_if_ne (tgt := 74) hC dX12_condition_48 rfl rfl (hm2.i 54 34 rfl) hF (fun hq4 hF => ?_) (fun hq4 hF => ?_)
      · exact x_return hC dX12_condition_74 hm2 hF
      · refine x_iload_n hC dX12_condition_51 rfl 1 rfl ?_
        refine x_if_eq (tgt := 59) hC dX12_condition_52 rfl rfl (rg_01 hv1) hF (fun hq5 hF => ?_) (fun hq5 hF => ?_)
        · exact WJ_X12_condition_59 hC ih  v1 hv1 m2 hm2 hF
        · refine x_aload_n hC dX12_condition_55 rfl 0 rfl ?_
          refine x_callV0 (kc2 := 0) (ks2 := 0) (k := 54) (As := []) (rest := []) hC dX12_condition_56 rfl hm2 (fun _ _ h => T_X12_pieceOfC b _ m2  h) mlX12_259 vlX12_pieceOfC rfl (by decide) rfl rfl (Nat.le_of_ble_eq_true rfl) (by decide) (by decide) rfl rfl hF (fun r6 m7 hr6 hm7 hF => ?_)
          exact WJ_X12_condition_59 hC ih  v1 hv1 m7 hm7 hF
set_option maxRecDepth 20000 in
set_option maxHeartbeats 4000000 in
theorem WJ_X12_condition_23 {g : Gx} {b : Bs} {o : Mm} {Q : Int → Mm → Prop} (hC : Cok g b RX12 cX12_condition 2 6 none) (m : Mm) (hm : Rg m) (hF : okR (J_X12_condition_23  m) Q) : X g b (false, o) 2 (ZM g b (false, o) 0 Q) 23 [(0, .ref (b.1 + 54))] [] m 0 0 := by
  unfold J_X12_condition_23 at hF
  refine x_aload_n hC dX12_condition_23 rfl 0 rfl ?_
  refine x_callV3 (kc2 := 0) (ks2 := 0) (k := 54) (As := []) (rest := []) hC dX12_condition_24 rfl hm (fun _ _ h => T_X12_isGood b _ m  h) mlX12_177 vlX12_isGood rfl (by decide) rfl rfl (Nat.le_of_ble_eq_true rfl) (by decide) (by decide) rfl rfl hF (fun r1 m2 hr1 hm2 hF => ?_)
  refine x_if_ne (tgt := 31) hC dX12_condition_27 rfl rfl (rg_01 hr1) hF (fun hq3 hF => ?_) (fun hq3 hF => ?_)
  · refine x_aload_n hC dX12_condition_31 rfl 0 rfl ?_
    refine x_callV0 (kc2 := 0) (ks2 := 0) (k := 54) (As := []) (rest := []) hC dX12_condition_32 rfl hm2 (fun _ _ h => T_X12_opens b _ m2  h) mlX12_221 vlX12_opens rfl (by decide) rfl rfl (Nat.le_of_ble_eq_true rfl) (by decide) (by decide) rfl rfl hF (fun r4 m5 hr4 hm5 hF => ?_)
    refine x_iconst hC dX12_condition_35 rfl ?_
    refine x_istore_nZ (lv' := [(0, .ref (b.1 + 54))]) hC dX12_condition_36 rfl rfl (by decide) rfl (Or.inr rfl) hF (fun x6 hx6 hF => ?_)
    refine x_sub [1, 0] rfl ?_
    exact WL_X12_condition_37 hC 100000  x6 hx6 m5 hm5 hF
  · exact x_return hC dX12_condition_30 hm2 hF
set_option maxRecDepth 20000 in
set_option maxHeartbeats 4000000 in
theorem T_X12_condition (b : Bs) (o : Mm) (m : Mm) {r : Int} {m' : Mm} (h : F_X12_condition  m = some (r, m')) : Cn yX12_condition cX12_condition 2 none (6) 0 0 0 b (false, o) m [.ref (b.1 + 54)] (F_X12_condition  m) := by
  refine Cn_of rfl (Nat.le_of_ble_eq_true rfl) (fun g hC hm => ?_)
  have hF := okR_some h
  generalize hQ : (fun (r : Int) (m' : Mm) => F_X12_condition  m = some (r, m')) = Q at hF ⊢
  clear hQ h
  replace hC : Cok g b RX12 cX12_condition 2 6 none := hC
  refine x_lv (lv' := [(0, .ref (b.1 + 54))]) rfl ?_
  unfold F_X12_condition at hF
  refine x_aload_n hC dX12_condition_0 rfl 0 rfl ?_
  refine x_iconst hC dX12_condition_1 rfl ?_
  refine x_putZ hC dX12_condition_2 rfl fpX12_256 rfl (by decide) (by decide) rfl rfl hm (Or.inl rfl) rfl hF (fun m1 hm1 hF => ?_)
  refine x_aload_n hC dX12_condition_5 rfl 0 rfl ?_
  refine x_callV1 (kc2 := 0) (ks2 := 0) (k := 54) (As := []) (rest := []) hC dX12_condition_6 rfl hm1 (fun _ _ h => T_X12_here b _ m1  h) mlX12_194 vlX12_here rfl (by decide) rfl rfl (Nat.le_of_ble_eq_true rfl) (by decide) (by decide) rfl rfl hF (fun r2 m3 hr2 hm3 hF => ?_)
  refine x_bipush hC dX12_condition_9 rfl rfl ?_
  refine x_icmp_eq (tgt := 23) hC dX12_condition_11 rfl rfl hr2 (rgc 40 rfl) hF (fun hq4 hF => ?_) (fun hq4 hF => ?_)
  · exact WJ_X12_condition_23 hC   m3 hm3 hF
  · refine x_aload_n hC dX12_condition_14 rfl 0 rfl ?_
    refine x_iconst hC dX12_condition_15 rfl ?_
    refine x_aload_n hC dX12_condition_16 rfl 0 rfl ?_
    refine x_getI hC dX12_condition_17 rfl flX12_168 rfl (by decide) rfl rfl ?_
    refine x_callV0 (kc2 := 0) (ks2 := 0) (k := 54) (As := [iV 1, iV (m3 54 27)]) (rest := []) hC dX12_condition_20 rfl hm3 (fun _ _ h => T_X12_wrongs b _ m3 1 (rgc 1 rfl) (m3 54 27) (hm3.i 54 27 rfl) h) mlX12_190 vlX12_wrongs rfl (by decide) rfl rfl (Nat.le_of_ble_eq_true rfl) (by decide) (by decide) rfl rfl hF (fun r5 m6 hr5 hm6 hF => ?_)
    exact WJ_X12_condition_23 hC   m6 hm6 hF
set_option maxRecDepth 20000 in
set_option maxHeartbeats 4000000 in
theorem WJ_X12_clause_126 {g : Gx} {b : Bs} {o : Mm} {Q : Int → Mm → Prop} (hC : Cok g b RX12 cX12_clause 2 7 none) (m : Mm) (hm : Rg m) (hF : okR (J_X12_clause_126  m) Q) : X g b (false, o) 2 (ZM g b (false, o) 0 Q) 126 [(0, .ref (b.1 + 54))] [] m 0 0 := by
  unfold J_X12_clause_126 at hF
  refine x_aload_n hC dX12_clause_126 rfl 0 rfl ?_
  refine x_getR (t := 72) hC dX12_clause_127 rfl flX12_72 rfl (by decide) rfl rfl ?_
  refine x_aload_n hC dX12_clause_130 rfl 0 rfl ?_
  refine x_getI hC dX12_clause_131 rfl flX12_265 rfl (by decide) rfl rfl ?_
  refine x_aload_n hC dX12_clause_134 rfl 0 rfl ?_
  refine x_getI hC dX12_clause_135 rfl flX12_181 rfl (by decide) rfl rfl ?_
  refine x_iast hC dX12_clause_138 rfl rfl (by decide) rfl hm (hm.i 54 30 rfl) (hm.i 54 31 rfl) hF (fun m1 hm1 hF => ?_)
  refine x_aload_n hC dX12_clause_139 rfl 0 rfl ?_
  refine x_dup hC dX12_clause_140 rfl rfl ?_
  refine x_getI hC dX12_clause_141 rfl flX12_265 rfl (by decide) rfl rfl ?_
  refine x_iconst hC dX12_clause_144 rfl ?_
  refine x_iadd hC dX12_clause_145 rfl ?_
  refine x_putI hC dX12_clause_146 rfl fpX12_265 rfl (by decide) (by decide) rfl rfl hm1 (rg_wr _) rfl hF (fun m2 hm2 hF => ?_)
  exact x_return hC dX12_clause_149 hm2 hF
set_option maxRecDepth 20000 in
set_option maxHeartbeats 4000000 in
theorem WJ_X12_clause_47 {g : Gx} {b : Bs} {o : Mm} {Q : Int → Mm → Prop} (hC : Cok g b RX12 cX12_clause 2 7 none) (v1 : Int) (hv1 : inR v1) (m : Mm) (hm : Rg m) (hF : okR (J_X12_clause_47 v1 m) Q) : X g b (false, o) 2 (ZM g b (false, o) 0 Q) 47 [(0, .ref (b.1 + 54)), (1, iV v1)] [] m 0 0 := by
  unfold J_X12_clause_47 at hF
  refine x_aload_n hC dX12_clause_47 rfl 0 rfl ?_
  refine x_callV3 (kc2 := 0) (ks2 := 0) (k := 54) (As := []) (rest := []) hC dX12_clause_48 rfl hm (fun _ _ h => T_X12_isGood b _ m  h) mlX12_177 vlX12_isGood rfl (by decide) rfl rfl (Nat.le_of_ble_eq_true rfl) (by decide) (by decide) rfl rfl hF (fun r1 m2 hr1 hm2 hF => ?_)
  refine x_if_ne (tgt := 55) hC dX12_clause_51 rfl rfl (rg_01 hr1) hF (fun hq3 hF => ?_) (fun hq3 hF => ?_)
  · refine x_aload_n hC dX12_clause_55 rfl 0 rfl ?_
    refine x_getR (t := 69) hC dX12_clause_56 rfl flX12_63 rfl (by decide) rfl rfl ?_
    refine x_aload_n hC dX12_clause_59 rfl 0 rfl ?_
    refine x_getI hC dX12_clause_60 rfl flX12_265 rfl (by decide) rfl rfl ?_
    refine x_iload_n hC dX12_clause_63 rfl 1 rfl ?_
    refine x_iast hC dX12_clause_64 rfl rfl (by decide) rfl hm2 (hm2.i 54 30 rfl) hv1 hF (fun m4 hm4 hF => ?_)
    refine x_aload_n hC dX12_clause_65 rfl 0 rfl ?_
    refine x_getR (t := 70) hC dX12_clause_66 rfl flX12_66 rfl (by decide) rfl rfl ?_
    refine x_aload_n hC dX12_clause_69 rfl 0 rfl ?_
    refine x_getI hC dX12_clause_70 rfl flX12_265 rfl (by decide) rfl rfl ?_
    refine x_aload_n hC dX12_clause_73 rfl 0 rfl ?_
    refine x_getI hC dX12_clause_74 rfl flX12_181 rfl (by decide) rfl rfl ?_
    refine x_iast hC dX12_clause_77 rfl rfl (by decide) rfl hm4 (hm4.i 54 30 rfl) (hm4.i 54 31 rfl) hF (fun m5 hm5 hF => ?_)
    refine x_aload_n hC dX12_clause_78 rfl 0 rfl ?_
    refine x_dup hC dX12_clause_79 rfl rfl ?_
    refine x_getI hC dX12_clause_80 rfl flX12_168 rfl (by decide) rfl rfl ?_
    refine x_iconst hC dX12_clause_83 rfl ?_
    refine x_iadd hC dX12_clause_84 rfl ?_
    refine x_putI hC dX12_clause_85 rfl fpX12_168 rfl (by decide) (by decide) rfl rfl hm5 (rg_wr _) rfl hF (fun m6 hm6 hF => ?_)
    refine x_aload_n hC dX12_clause_88 rfl 0 rfl ?_
    refine x_iconst hC dX12_clause_89 rfl ?_
    refine x_putI hC dX12_clause_90 rfl fpX12_184 rfl (by decide) (by decide) rfl rfl hm6 (rgc 0 rfl) rfl hF (fun m7 hm7 hF => ?_)
    refine x_aload_n hC dX12_clause_93 rfl 0 rfl ?_
    refine x_iconst hC dX12_clause_94 rfl ?_
    refine x_putI hC dX12_clause_95 rfl fpX12_187 rfl (by decide) (by decide) rfl rfl hm7 (rgc 0 rfl) rfl hF (fun m8 hm8 hF => ?_)
    refine x_aload_n hC dX12_clause_98 rfl 0 rfl ?_
    refine x_callV0 (kc2 := 0) (ks2 := 0) (k := 54) (As := []) (rest := []) hC dX12_clause_99 rfl hm8 (fun _ _ h => T_X12_value b _ m8  h) mlX12_244 vlX12_value rfl (by decide) rfl rfl (Nat.le_of_ble_eq_true rfl) (by decide) (by decide) rfl rfl hF (fun r9 m10 hr9 hm10 hF => ?_)
    refine x_aload_n hC dX12_clause_102 rfl 0 rfl ?_
    refine x_getR (t := 71) hC dX12_clause_103 rfl flX12_69 rfl (by decide) rfl rfl ?_
    refine x_aload_n hC dX12_clause_106 rfl 0 rfl ?_
    refine x_getI hC dX12_clause_107 rfl flX12_265 rfl (by decide) rfl rfl ?_
    refine x_aload_n hC dX12_clause_110 rfl 0 rfl ?_
    refine x_getI hC dX12_clause_111 rfl flX12_181 rfl (by decide) rfl rfl ?_
    refine x_iast hC dX12_clause_114 rfl rfl (by decide) rfl hm10 (hm10.i 54 30 rfl) (hm10.i 54 31 rfl) hF (fun m11 hm11 hF => ?_)
    refine x_aload_n hC dX12_clause_115 rfl 0 rfl ?_
    refine x_callV3 (kc2 := 0) (ks2 := 0) (k := 54) (As := []) (rest := []) hC dX12_clause_116 rfl hm11 (fun _ _ h => T_X12_isGood b _ m11  h) mlX12_177 vlX12_isGood rfl (by decide) rfl rfl (Nat.le_of_ble_eq_true rfl) (by decide) (by decide) rfl rfl hF (fun r12 m13 hr12 hm13 hF => ?_)
    refine x_if_eq (tgt := 126) hC dX12_clause_119 rfl rfl (rg_01 hr12) hF (fun hq14 hF => ?_) (fun hq14 hF => ?_)
    · refine x_sub [0] rfl ?_
      exact WJ_X12_clause_126 hC   m13 hm13 hF
    · refine x_aload_n hC dX12_clause_122 rfl 0 rfl ?_
      refine x_callV0 (kc2 := 0) (ks2 := 0) (k := 54) (As := []) (rest := []) hC dX12_clause_123 rfl hm13 (fun _ _ h => T_X12_condition b _ m13  h) mlX12_268 vlX12_condition rfl (by decide) rfl rfl (Nat.le_of_ble_eq_true rfl) (by decide) (by decide) rfl rfl hF (fun r15 m16 hr15 hm16 hF => ?_)
      refine x_sub [0] rfl ?_
      exact WJ_X12_clause_126 hC   m16 hm16 hF
  · exact x_return hC dX12_clause_54 hm2 hF
set_option maxRecDepth 20000 in
set_option maxHeartbeats 4000000 in
theorem WJ_X12_clause_29 {g : Gx} {b : Bs} {o : Mm} {Q : Int → Mm → Prop} (hC : Cok g b RX12 cX12_clause 2 7 none) (v1 : Int) (hv1 : inR v1) (m : Mm) (hm : Rg m) (hF : okR (J_X12_clause_29 v1 m) Q) : X g b (false, o) 2 (ZM g b (false, o) 0 Q) 29 [(0, .ref (b.1 + 54)), (1, iV v1)] [] m 0 0 := by
  unfold J_X12_clause_29 at hF
  refine x_aload_n hC dX12_clause_29 rfl 0 rfl ?_
  refine x_getI hC dX12_clause_30 rfl flX12_265 rfl (by decide) rfl rfl ?_
  refine x_bipush hC dX12_clause_33 rfl rfl ?_
  refine x_icmp_ne (tgt := 47) hC dX12_clause_35 rfl rfl (hm.i 54 30 rfl) (rgc 14 rfl) hF (fun hq1 hF => ?_) (fun hq1 hF => ?_)
  · exact WJ_X12_clause_47 hC  v1 hv1 m hm hF
  · refine x_aload_n hC dX12_clause_38 rfl 0 rfl ?_
    refine x_iconst hC dX12_clause_39 rfl ?_
    refine x_aload_n hC dX12_clause_40 rfl 0 rfl ?_
    refine x_getI hC dX12_clause_41 rfl flX12_168 rfl (by decide) rfl rfl ?_
    refine x_callV0 (kc2 := 0) (ks2 := 0) (k := 54) (As := [iV 4, iV (m 54 27)]) (rest := []) hC dX12_clause_44 rfl hm (fun _ _ h => T_X12_wrongs b _ m 4 (rgc 4 rfl) (m 54 27) (hm.i 54 27 rfl) h) mlX12_190 vlX12_wrongs rfl (by decide) rfl rfl (Nat.le_of_ble_eq_true rfl) (by decide) (by decide) rfl rfl hF (fun r2 m3 hr2 hm3 hF => ?_)
    exact WJ_X12_clause_47 hC  v1 hv1 m3 hm3 hF
set_option maxRecDepth 20000 in
set_option maxHeartbeats 4000000 in
theorem T_X12_clause (b : Bs) (o : Mm) (m : Mm) {r : Int} {m' : Mm} (h : F_X12_clause  m = some (r, m')) : Cn yX12_clause cX12_clause 2 none (7) 0 0 0 b (false, o) m [.ref (b.1 + 54)] (F_X12_clause  m) := by
  refine Cn_of rfl (Nat.le_of_ble_eq_true rfl) (fun g hC hm => ?_)
  have hF := okR_some h
  generalize hQ : (fun (r : Int) (m' : Mm) => F_X12_clause  m = some (r, m')) = Q at hF ⊢
  clear hQ h
  replace hC : Cok g b RX12 cX12_clause 2 7 none := hC
  refine x_lv (lv' := [(0, .ref (b.1 + 54))]) rfl ?_
  unfold F_X12_clause at hF
  refine x_aload_n hC dX12_clause_0 rfl 0 rfl ?_
  refine x_callV1 (kc2 := 0) (ks2 := 0) (k := 54) (As := []) (rest := []) hC dX12_clause_1 rfl hm (fun _ _ h => T_X12_here b _ m  h) mlX12_194 vlX12_here rfl (by decide) rfl rfl (Nat.le_of_ble_eq_true rfl) (by decide) (by decide) rfl rfl hF (fun r1 m2 hr1 hm2 hF => ?_)
  refine x_istore_n (lv' := [(0, .ref (b.1 + 54))]) hC dX12_clause_4 rfl rfl (by decide) rfl hr1 hF (fun x3 hx3 hF => ?_)
  refine x_iload_n hC dX12_clause_5 rfl 0 rfl ?_
  refine x_bipush hC dX12_clause_6 rfl rfl ?_
  refine x_icmp_eq (tgt := 29) hC dX12_clause_8 rfl rfl hx3 (rgc 109 rfl) hF (fun hq4 hF => ?_) (fun hq4 hF => ?_)
  · refine x_sub [1, 0] rfl ?_
    exact WJ_X12_clause_29 hC  x3 hx3 m2 hm2 hF
  · refine x_iload_n hC dX12_clause_11 rfl 0 rfl ?_
    refine x_bipush hC dX12_clause_12 rfl rfl ?_
    refine x_icmp_eq (tgt := 29) hC dX12_clause_14 rfl rfl hx3 (rgc 114 rfl) hF (fun hq5 hF => ?_) (fun hq5 hF => ?_)
    · refine x_sub [1, 0] rfl ?_
      exact WJ_X12_clause_29 hC  x3 hx3 m2 hm2 hF
    · refine x_aload_n hC dX12_clause_17 rfl 1 rfl ?_
      refine x_iconst hC dX12_clause_18 rfl ?_
      refine x_aload_n hC dX12_clause_19 rfl 1 rfl ?_
      refine x_getI hC dX12_clause_20 rfl flX12_168 rfl (by decide) rfl rfl ?_
      refine x_callV0 (kc2 := 0) (ks2 := 0) (k := 54) (As := [iV 1, iV (m2 54 27)]) (rest := []) hC dX12_clause_23 rfl hm2 (fun _ _ h => T_X12_wrongs b _ m2 1 (rgc 1 rfl) (m2 54 27) (hm2.i 54 27 rfl) h) mlX12_190 vlX12_wrongs rfl (by decide) rfl rfl (Nat.le_of_ble_eq_true rfl) (by decide) (by decide) rfl rfl hF (fun r6 m7 hr6 hm7 hF => ?_)
      refine x_goto (tgt := 47) hC dX12_clause_26 rfl ?_
      refine x_sub [1, 0] rfl ?_
      exact WJ_X12_clause_47 hC  x3 hx3 m7 hm7 hF
set_option maxRecDepth 20000 in
set_option maxHeartbeats 4000000 in
theorem WJ_X12_tongue_115 {g : Gx} {b : Bs} {o : Mm} {Q : Int → Mm → Prop} {k_54 : Int → Mm → Rs} (hC : Cok g b RX12 cX12_tongue 4 8 (some .int)) (hk_54 : ∀ v2 : Int, (v2 = 0 ∨ v2 = 1) → ∀ m : Mm, Rg m → okR (k_54 v2 m) Q → X g b (false, o) 4 (ZM g b (false, o) 1 Q) 54 [(0, .ref (b.1 + 54)), (2, iV v2)] [] m 0 0) (v2 : Int) (hv2 : (v2 = 0 ∨ v2 = 1)) (m : Mm) (hm : Rg m) (hF : okR (J_X12_tongue_115 k_54 v2 m) Q) : X g b (false, o) 4 (ZM g b (false, o) 1 Q) 115 [(0, .ref (b.1 + 54)), (2, iV v2)] [] m 0 0 := by
  unfold J_X12_tongue_115 at hF
  refine x_aload_n hC dX12_tongue_115 rfl 0 rfl ?_
  refine x_dup hC dX12_tongue_116 rfl rfl ?_
  refine x_getI hC dX12_tongue_117 rfl flX12_168 rfl (by decide) rfl rfl ?_
  refine x_iconst hC dX12_tongue_120 rfl ?_
  refine x_iadd hC dX12_tongue_121 rfl ?_
  refine x_putI hC dX12_tongue_122 rfl fpX12_168 rfl (by decide) (by decide) rfl rfl hm (rg_wr _) rfl hF (fun m1 hm1 hF => ?_)
  refine x_goto (tgt := 54) hC dX12_tongue_125 rfl ?_
  exact hk_54 v2 hv2 m1 hm1 hF
set_option maxRecDepth 20000 in
set_option maxHeartbeats 4000000 in
theorem WJ_X12_tongue_93 {g : Gx} {b : Bs} {o : Mm} {Q : Int → Mm → Prop} {k_54 : Int → Mm → Rs} (hC : Cok g b RX12 cX12_tongue 4 8 (some .int)) (hk_54 : ∀ v2 : Int, (v2 = 0 ∨ v2 = 1) → ∀ m : Mm, Rg m → okR (k_54 v2 m) Q → X g b (false, o) 4 (ZM g b (false, o) 1 Q) 54 [(0, .ref (b.1 + 54)), (2, iV v2)] [] m 0 0) (v2 : Int) (hv2 : (v2 = 0 ∨ v2 = 1)) (m : Mm) (hm : Rg m) (hF : okR (J_X12_tongue_93 k_54 v2 m) Q) : X g b (false, o) 4 (ZM g b (false, o) 1 Q) 93 [(0, .ref (b.1 + 54)), (2, iV v2)] [] m 0 0 := by
  unfold J_X12_tongue_93 at hF
  refine x_iload_n hC dX12_tongue_93 rfl 1 rfl ?_
  refine x_if_eq (tgt := 54) hC dX12_tongue_94 rfl rfl (rg_01 hv2) hF (fun hq1 hF => ?_) (fun hq1 hF => ?_)
  · exact hk_54 v2 hv2 m hm hF
  · refine x_aload_n hC dX12_tongue_97 rfl 0 rfl ?_
    refine x_callV1 (kc2 := 0) (ks2 := 0) (k := 54) (As := []) (rest := []) hC dX12_tongue_98 rfl hm (fun _ _ h => T_X12_here b _ m  h) mlX12_194 vlX12_here rfl (by decide) rfl rfl (Nat.le_of_ble_eq_true rfl) (by decide) (by decide) rfl rfl hF (fun r2 m3 hr2 hm3 hF => ?_)
    refine x_bipush hC dX12_tongue_101 rfl rfl ?_
    refine x_icmp_eq (tgt := 115) hC dX12_tongue_103 rfl rfl hr2 (rgc 59 rfl) hF (fun hq4 hF => ?_) (fun hq4 hF => ?_)
    · exact WJ_X12_tongue_115 hC hk_54  v2 hv2 m3 hm3 hF
    · refine x_aload_n hC dX12_tongue_106 rfl 0 rfl ?_
      refine x_iconst hC dX12_tongue_107 rfl ?_
      refine x_aload_n hC dX12_tongue_108 rfl 0 rfl ?_
      refine x_getI hC dX12_tongue_109 rfl flX12_168 rfl (by decide) rfl rfl ?_
      refine x_callV0 (kc2 := 0) (ks2 := 0) (k := 54) (As := [iV 1, iV (m3 54 27)]) (rest := []) hC dX12_tongue_112 rfl hm3 (fun _ _ h => T_X12_wrongs b _ m3 1 (rgc 1 rfl) (m3 54 27) (hm3.i 54 27 rfl) h) mlX12_190 vlX12_wrongs rfl (by decide) rfl rfl (Nat.le_of_ble_eq_true rfl) (by decide) (by decide) rfl rfl hF (fun r5 m6 hr5 hm6 hF => ?_)
      exact WJ_X12_tongue_115 hC hk_54  v2 hv2 m6 hm6 hF
set_option maxRecDepth 20000 in
set_option maxHeartbeats 4000000 in
theorem WJ_X12_tongue_91 {g : Gx} {b : Bs} {o : Mm} {Q : Int → Mm → Prop} {k_54 : Int → Mm → Rs} (hC : Cok g b RX12 cX12_tongue 4 8 (some .int)) (hk_54 : ∀ v2 : Int, (v2 = 0 ∨ v2 = 1) → ∀ m : Mm, Rg m → okR (k_54 v2 m) Q → X g b (false, o) 4 (ZM g b (false, o) 1 Q) 54 [(0, .ref (b.1 + 54)), (2, iV v2)] [] m 0 0) (m : Mm) (hm : Rg m) (hF : okR (J_X12_tongue_91 k_54  m) Q) : X g b (false, o) 4 (ZM g b (false, o) 1 Q) 91 [(0, .ref (b.1 + 54))] [] m 0 0 := by
  unfold J_X12_tongue_91 at hF
  refine x_iconst hC dX12_tongue_91 rfl ?_
  refine x_istore_nZ (lv' := [(0, .ref (b.1 + 54))]) hC dX12_tongue_92 rfl rfl (by decide) rfl (Or.inl rfl) hF (fun x1 hx1 hF => ?_)
  refine x_sub [1, 0] rfl ?_
  exact WJ_X12_tongue_93 hC hk_54  x1 hx1 m hm hF
set_option maxRecDepth 20000 in
set_option maxHeartbeats 4000000 in
theorem WL_X12_tongue_206 {g : Gx} {b : Bs} {o : Mm} {Q : Int → Mm → Prop} (hC : Cok g b RX12 cX12_tongue 4 8 (some .int)) : ∀ n : Nat, ∀ v3 : Int, inR v3 → ∀ m : Mm, Rg m → okR (L_X12_tongue_206 n v3 m) Q → X g b (false, o) 4 (ZM g b (false, o) 1 Q) 206 [(0, .ref (b.1 + 54)), (3, iV v3)] [] m 0 0 := by
  intro n
  induction n with
  | zero => intro v3 hv3 m hm hF; exact absurd hF (fun z => z)
  | succ n ih =>
    intro v3 hv3 m hm hF
    have hF : okR (LB_X12_tongue_206 (L_X12_tongue_206 n) v3 m) Q := hF
    unfold LB_X12_tongue_206 at hF
    refine x_iload_n hC dX12_tongue_206 rfl 1 rfl ?_
    refine x_aload_n hC dX12_tongue_207 rfl 0 rfl ?_
    refine x_getI hC dX12_tongue_208 rfl flX12_181 rfl (by decide) rfl rfl ?_
    refine x_icmp_ge (tgt := 244) hC dX12_tongue_211 rfl rfl hv3 (hm.i 54 31 rfl) hF (fun hq1 hF => ?_) (fun hq1 hF => ?_)
    · refine x_aload_n hC dX12_tongue_244 rfl 0 rfl ?_
      refine x_aload_n hC dX12_tongue_245 rfl 0 rfl ?_
      refine x_getI hC dX12_tongue_246 rfl flX12_265 rfl (by decide) rfl rfl ?_
      refine x_putI hC dX12_tongue_249 rfl fpX12_274 rfl (by decide) (by decide) rfl rfl hm (hm.i 54 30 rfl) rfl hF (fun m2 hm2 hF => ?_)
      refine x_aload_n hC dX12_tongue_252 rfl 0 rfl ?_
      refine x_getI hC dX12_tongue_253 rfl flX12_274 rfl (by decide) rfl rfl ?_
      exact x_ireturn hC dX12_tongue_256 hm2 (hm2.i 54 14 rfl) hF
    · refine x_aload_n hC dX12_tongue_214 rfl 0 rfl ?_
      refine x_getR (t := 67) hC dX12_tongue_215 rfl flX12_57 rfl (by decide) rfl rfl ?_
      refine x_iload_n hC dX12_tongue_218 rfl 1 rfl ?_
      refine x_aload_n hC dX12_tongue_219 rfl 0 rfl ?_
      refine x_getR (t := 73) hC dX12_tongue_220 rfl flX12_75 rfl (by decide) rfl rfl ?_
      refine x_iload_n hC dX12_tongue_223 rfl 1 rfl ?_
      refine x_iald hC dX12_tongue_224 rfl rfl (by decide) rfl hm hv3 hF (fun x3 hx3 hF => ?_)
      refine x_iast hC dX12_tongue_225 rfl rfl (by decide) rfl hm hv3 hx3 hF (fun m4 hm4 hF => ?_)
      refine x_aload_n hC dX12_tongue_226 rfl 0 rfl ?_
      refine x_getR (t := 68) hC dX12_tongue_227 rfl flX12_60 rfl (by decide) rfl rfl ?_
      refine x_iload_n hC dX12_tongue_230 rfl 1 rfl ?_
      refine x_aload_n hC dX12_tongue_231 rfl 0 rfl ?_
      refine x_getR (t := 74) hC dX12_tongue_232 rfl flX12_78 rfl (by decide) rfl rfl ?_
      refine x_iload_n hC dX12_tongue_235 rfl 1 rfl ?_
      refine x_iald hC dX12_tongue_236 rfl rfl (by decide) rfl hm4 hv3 hF (fun x5 hx5 hF => ?_)
      refine x_iast hC dX12_tongue_237 rfl rfl (by decide) rfl hm4 hv3 hx5 hF (fun m6 hm6 hF => ?_)
      refine x_iinc (p := 1) (lv' := [(0, .ref (b.1 + 54))]) hC dX12_tongue_238 rfl rfl (by decide) rfl hF (fun x7 hx7 hF => ?_)
      refine x_goto (tgt := 206) hC dX12_tongue_241 rfl ?_
      refine x_sub [1, 0] rfl ?_
      exact ih x7 hx7 m6 hm6 hF
set_option maxRecDepth 20000 in
set_option maxHeartbeats 4000000 in
theorem WL_X12_tongue_142 {g : Gx} {b : Bs} {o : Mm} {Q : Int → Mm → Prop} (hC : Cok g b RX12 cX12_tongue 4 8 (some .int)) : ∀ n : Nat, ∀ v3 : Int, inR v3 → ∀ m : Mm, Rg m → okR (L_X12_tongue_142 n v3 m) Q → X g b (false, o) 4 (ZM g b (false, o) 1 Q) 142 [(0, .ref (b.1 + 54)), (3, iV v3)] [] m 0 0 := by
  intro n
  induction n with
  | zero => intro v3 hv3 m hm hF; exact absurd hF (fun z => z)
  | succ n ih =>
    intro v3 hv3 m hm hF
    have hF : okR (LB_X12_tongue_142 (L_X12_tongue_142 n) v3 m) Q := hF
    unfold LB_X12_tongue_142 at hF
    refine x_iload_n hC dX12_tongue_142 rfl 1 rfl ?_
    refine x_aload_n hC dX12_tongue_143 rfl 0 rfl ?_
    refine x_getI hC dX12_tongue_144 rfl flX12_265 rfl (by decide) rfl rfl ?_
    refine x_icmp_ge (tgt := 204) hC dX12_tongue_147 rfl rfl hv3 (hm.i 54 30 rfl) hF (fun hq1 hF => ?_) (fun hq1 hF => ?_)
    · refine x_iconst hC dX12_tongue_204 rfl ?_
      refine x_istore_nZ (lv' := [(0, .ref (b.1 + 54))]) hC dX12_tongue_205 rfl rfl (by decide) rfl (Or.inl rfl) hF (fun x2 hx2 hF => ?_)
      refine x_sub [1, 0] rfl ?_
      exact WL_X12_tongue_206 hC 100000  x2 (rg_01 hx2) m hm hF
    · refine x_aload_n hC dX12_tongue_150 rfl 0 rfl ?_
      refine x_getR (t := 63) hC dX12_tongue_151 rfl flX12_45 rfl (by decide) rfl rfl ?_
      refine x_iload_n hC dX12_tongue_154 rfl 1 rfl ?_
      refine x_aload_n hC dX12_tongue_155 rfl 0 rfl ?_
      refine x_getR (t := 69) hC dX12_tongue_156 rfl flX12_63 rfl (by decide) rfl rfl ?_
      refine x_iload_n hC dX12_tongue_159 rfl 1 rfl ?_
      refine x_iald hC dX12_tongue_160 rfl rfl (by decide) rfl hm hv3 hF (fun x3 hx3 hF => ?_)
      refine x_iast hC dX12_tongue_161 rfl rfl (by decide) rfl hm hv3 hx3 hF (fun m4 hm4 hF => ?_)
      refine x_aload_n hC dX12_tongue_162 rfl 0 rfl ?_
      refine x_getR (t := 64) hC dX12_tongue_163 rfl flX12_48 rfl (by decide) rfl rfl ?_
      refine x_iload_n hC dX12_tongue_166 rfl 1 rfl ?_
      refine x_aload_n hC dX12_tongue_167 rfl 0 rfl ?_
      refine x_getR (t := 70) hC dX12_tongue_168 rfl flX12_66 rfl (by decide) rfl rfl ?_
      refine x_iload_n hC dX12_tongue_171 rfl 1 rfl ?_
      refine x_iald hC dX12_tongue_172 rfl rfl (by decide) rfl hm4 hv3 hF (fun x5 hx5 hF => ?_)
      refine x_iast hC dX12_tongue_173 rfl rfl (by decide) rfl hm4 hv3 hx5 hF (fun m6 hm6 hF => ?_)
      refine x_aload_n hC dX12_tongue_174 rfl 0 rfl ?_
      refine x_getR (t := 65) hC dX12_tongue_175 rfl flX12_51 rfl (by decide) rfl rfl ?_
      refine x_iload_n hC dX12_tongue_178 rfl 1 rfl ?_
      refine x_aload_n hC dX12_tongue_179 rfl 0 rfl ?_
      refine x_getR (t := 71) hC dX12_tongue_180 rfl flX12_69 rfl (by decide) rfl rfl ?_
      refine x_iload_n hC dX12_tongue_183 rfl 1 rfl ?_
      refine x_iald hC dX12_tongue_184 rfl rfl (by decide) rfl hm6 hv3 hF (fun x7 hx7 hF => ?_)
      refine x_iast hC dX12_tongue_185 rfl rfl (by decide) rfl hm6 hv3 hx7 hF (fun m8 hm8 hF => ?_)
      refine x_aload_n hC dX12_tongue_186 rfl 0 rfl ?_
      refine x_getR (t := 66) hC dX12_tongue_187 rfl flX12_54 rfl (by decide) rfl rfl ?_
      refine x_iload_n hC dX12_tongue_190 rfl 1 rfl ?_
      refine x_aload_n hC dX12_tongue_191 rfl 0 rfl ?_
      refine x_getR (t := 72) hC dX12_tongue_192 rfl flX12_72 rfl (by decide) rfl rfl ?_
      refine x_iload_n hC dX12_tongue_195 rfl 1 rfl ?_
      refine x_iald hC dX12_tongue_196 rfl rfl (by decide) rfl hm8 hv3 hF (fun x9 hx9 hF => ?_)
      refine x_iast hC dX12_tongue_197 rfl rfl (by decide) rfl hm8 hv3 hx9 hF (fun m10 hm10 hF => ?_)
      refine x_iinc (p := 1) (lv' := [(0, .ref (b.1 + 54))]) hC dX12_tongue_198 rfl rfl (by decide) rfl hF (fun x11 hx11 hF => ?_)
      refine x_goto (tgt := 142) hC dX12_tongue_201 rfl ?_
      refine x_sub [1, 0] rfl ?_
      exact ih x11 hx11 m10 hm10 hF
set_option maxRecDepth 20000 in
set_option maxHeartbeats 4000000 in
theorem WJ_X12_tongue_128 {g : Gx} {b : Bs} {o : Mm} {Q : Int → Mm → Prop} (hC : Cok g b RX12 cX12_tongue 4 8 (some .int)) (m : Mm) (hm : Rg m) (hF : okR (J_X12_tongue_128  m) Q) : X g b (false, o) 4 (ZM g b (false, o) 1 Q) 128 [(0, .ref (b.1 + 54))] [] m 0 0 := by
  unfold J_X12_tongue_128 at hF
  refine x_aload_n hC dX12_tongue_128 rfl 0 rfl ?_
  refine x_getI hC dX12_tongue_129 rfl flX12_174 rfl (by decide) rfl rfl ?_
  refine x_if_ge (tgt := 140) hC dX12_tongue_132 rfl rfl (hm.i 54 29 rfl) hF (fun hq1 hF => ?_) (fun hq1 hF => ?_)
  · refine x_iconst hC dX12_tongue_140 rfl ?_
    refine x_istore_nZ (lv' := [(0, .ref (b.1 + 54))]) hC dX12_tongue_141 rfl rfl (by decide) rfl (Or.inl rfl) hF (fun x2 hx2 hF => ?_)
    refine x_sub [1, 0] rfl ?_
    exact WL_X12_tongue_142 hC 100000  x2 (rg_01 hx2) m hm hF
  · refine x_aload_n hC dX12_tongue_135 rfl 0 rfl ?_
    refine x_getI hC dX12_tongue_136 rfl flX12_174 rfl (by decide) rfl rfl ?_
    exact x_ireturn hC dX12_tongue_139 hm (hm.i 54 29 rfl) hF
set_option maxRecDepth 20000 in
set_option maxHeartbeats 4000000 in
theorem WL_X12_tongue_54 {g : Gx} {b : Bs} {o : Mm} {Q : Int → Mm → Prop} (hC : Cok g b RX12 cX12_tongue 4 8 (some .int)) : ∀ n : Nat, ∀ v2 : Int, (v2 = 0 ∨ v2 = 1) → ∀ m : Mm, Rg m → okR (L_X12_tongue_54 n v2 m) Q → X g b (false, o) 4 (ZM g b (false, o) 1 Q) 54 [(0, .ref (b.1 + 54)), (2, iV v2)] [] m 0 0 := by
  intro n
  induction n with
  | zero => intro v2 hv2 m hm hF; exact absurd hF (fun z => z)
  | succ n ih =>
    intro v2 hv2 m hm hF
    have hF : okR (LB_X12_tongue_54 (L_X12_tongue_54 n) v2 m) Q := hF
    unfold LB_X12_tongue_54 at hF
    refine x_iload_n hC dX12_tongue_54 rfl 1 rfl ?_
    refine x_if_eq (tgt := 128) hC dX12_tongue_55 rfl rfl (rg_01 hv2) hF (fun hq1 hF => ?_) (fun hq1 hF => ?_)
    · refine x_sub [0] rfl ?_
      exact WJ_X12_tongue_128 hC   m hm hF
    · refine x_aload_n hC dX12_tongue_58 rfl 0 rfl ?_
      refine x_callV3 (kc2 := 0) (ks2 := 0) (k := 54) (As := []) (rest := []) hC dX12_tongue_59 rfl hm (fun _ _ h => T_X12_isGood b _ m  h) mlX12_177 vlX12_isGood rfl (by decide) rfl rfl (Nat.le_of_ble_eq_true rfl) (by decide) (by decide) rfl rfl hF (fun r2 m3 hr2 hm3 hF => ?_)
      refine x_if_eq (tgt := 128) hC dX12_tongue_62 rfl rfl (rg_01 hr2) hF (fun hq4 hF => ?_) (fun hq4 hF => ?_)
      · refine x_sub [0] rfl ?_
        exact WJ_X12_tongue_128 hC   m3 hm3 hF
      · refine x_aload_n hC dX12_tongue_65 rfl 0 rfl ?_
        refine x_callV0 (kc2 := 0) (ks2 := 0) (k := 54) (As := []) (rest := []) hC dX12_tongue_66 rfl hm3 (fun _ _ h => T_X12_clause b _ m3  h) mlX12_271 vlX12_clause rfl (by decide) rfl rfl (Nat.le_of_ble_eq_true rfl) (by decide) (by decide) rfl rfl hF (fun r5 m6 hr5 hm6 hF => ?_)
        refine x_aload_n hC dX12_tongue_69 rfl 0 rfl ?_
        refine x_callV3 (kc2 := 0) (ks2 := 0) (k := 54) (As := []) (rest := []) hC dX12_tongue_70 rfl hm6 (fun _ _ h => T_X12_isGood b _ m6  h) mlX12_177 vlX12_isGood rfl (by decide) rfl rfl (Nat.le_of_ble_eq_true rfl) (by decide) (by decide) rfl rfl hF (fun r7 m8 hr7 hm8 hF => ?_)
        refine x_if_eq (tgt := 91) hC dX12_tongue_73 rfl rfl (rg_01 hr7) hF (fun hq9 hF => ?_) (fun hq9 hF => ?_)
        · refine x_sub [0] rfl ?_
          exact WJ_X12_tongue_91 hC ih   m8 hm8 hF
        · refine x_aload_n hC dX12_tongue_76 rfl 0 rfl ?_
          refine x_getI hC dX12_tongue_77 rfl flX12_168 rfl (by decide) rfl rfl ?_
          refine x_aload_n hC dX12_tongue_80 rfl 0 rfl ?_
          refine x_getI hC dX12_tongue_81 rfl flX12_171 rfl (by decide) rfl rfl ?_
          refine x_icmp_ge (tgt := 91) hC dX12_tongue_84 rfl rfl (hm8.i 54 27 rfl) (hm8.i 54 28 rfl) hF (fun hq10 hF => ?_) (fun hq10 hF => ?_)
          · refine x_sub [0] rfl ?_
            exact WJ_X12_tongue_91 hC ih   m8 hm8 hF
          · refine x_iconst hC dX12_tongue_87 rfl ?_
            refine x_goto (tgt := 92) hC dX12_tongue_88 rfl ?_
            refine x_istore_nZ (lv' := [(0, .ref (b.1 + 54))]) hC dX12_tongue_92 rfl rfl (by decide) rfl (Or.inr rfl) hF (fun x11 hx11 hF => ?_)
            refine x_sub [1, 0] rfl ?_
            exact WJ_X12_tongue_93 hC ih  x11 hx11 m8 hm8 hF
set_option maxRecDepth 20000 in
set_option maxHeartbeats 4000000 in
theorem T_X12_tongue (b : Bs) (o : Mm) (m : Mm) (a1 : Int) (ha1 : inR a1) {r : Int} {m' : Mm} (h : F_X12_tongue a1 m = some (r, m')) : Cn yX12_tongue cX12_tongue 4 (some .int) (8) 0 0 1 b (false, o) m [.ref (b.1 + 54), iV a1] (F_X12_tongue a1 m) := by
  refine Cn_of rfl (Nat.le_of_ble_eq_true rfl) (fun g hC hm => ?_)
  have hF := okR_some h
  generalize hQ : (fun (r : Int) (m' : Mm) => F_X12_tongue a1 m = some (r, m')) = Q at hF ⊢
  clear hQ h
  replace hC : Cok g b RX12 cX12_tongue 4 8 (some .int) := hC
  refine x_lv (lv' := [(0, .ref (b.1 + 54)), (1, iV a1)]) rfl ?_
  unfold F_X12_tongue at hF
  refine x_iload_n hC dX12_tongue_0 rfl 1 rfl ?_
  refine x_i2l hC dX12_tongue_1 rfl ha1 ?_
  refine x_lconst (x := 1) hC dX12_tongue_2 rfl rfl ?_
  refine x_ldc2 (x := 200) hC dX12_tongue_3 rfl kwX12_157 ?_
  refine x_callS3 (kc2 := 0) (ks2 := 0) (As := [lV a1, lV 1, lV 200]) (rest := []) hC dX12_tongue_6 rfl hm (fun _ _ h => T_X12_lies b _ m a1 (rg_RL ha1) 1 (rgcL 1 rfl) 200 (rgcL 200 rfl) h) mlX12_147 vsX12_lies rfl rfl (Nat.le_of_ble_eq_true rfl) (by decide) (by decide) rfl rfl hF (fun r1 m2 hr1 hm2 hF => ?_)
  refine x_if_eq (tgt := 20) hC dX12_tongue_9 rfl rfl (rg_01 hr1) hF (fun hq3 hF => ?_) (fun hq3 hF => ?_)
  · refine x_iconst hC dX12_tongue_20 rfl ?_
    exact x_ireturn hC dX12_tongue_21 hm2 (rgc (-1) rfl) hF
  · refine x_iload_n hC dX12_tongue_12 rfl 1 rfl ?_
    refine x_aload_n hC dX12_tongue_13 rfl 0 rfl ?_
    refine x_getI hC dX12_tongue_14 rfl flX12_161 rfl (by decide) rfl rfl ?_
    refine x_icmp_le (tgt := 22) hC dX12_tongue_17 rfl rfl ha1 (hm2.i 54 1 rfl) hF (fun hq4 hF => ?_) (fun hq4 hF => ?_)
    · refine x_aload_n hC dX12_tongue_22 rfl 0 rfl ?_
      refine x_iconst hC dX12_tongue_23 rfl ?_
      refine x_putI hC dX12_tongue_24 rfl fpX12_161 rfl (by decide) (by decide) rfl rfl hm2 (rgc 0 rfl) rfl hF (fun m5 hm5 hF => ?_)
      refine x_aload_n hC dX12_tongue_27 rfl 0 rfl ?_
      refine x_iconst hC dX12_tongue_28 rfl ?_
      refine x_putI hC dX12_tongue_29 rfl fpX12_168 rfl (by decide) (by decide) rfl rfl hm5 (rgc 0 rfl) rfl hF (fun m6 hm6 hF => ?_)
      refine x_aload_n hC dX12_tongue_32 rfl 0 rfl ?_
      refine x_iload_n hC dX12_tongue_33 rfl 1 rfl ?_
      refine x_putI hC dX12_tongue_34 rfl fpX12_171 rfl (by decide) (by decide) rfl rfl hm6 ha1 rfl hF (fun m7 hm7 hF => ?_)
      refine x_aload_n hC dX12_tongue_37 rfl 0 rfl ?_
      refine x_iconst hC dX12_tongue_38 rfl ?_
      refine x_putI hC dX12_tongue_39 rfl fpX12_174 rfl (by decide) (by decide) rfl rfl hm7 (rgc 0 rfl) rfl hF (fun m8 hm8 hF => ?_)
      refine x_aload_n hC dX12_tongue_42 rfl 0 rfl ?_
      refine x_iconst hC dX12_tongue_43 rfl ?_
      refine x_putI hC dX12_tongue_44 rfl fpX12_265 rfl (by decide) (by decide) rfl rfl hm8 (rgc 0 rfl) rfl hF (fun m9 hm9 hF => ?_)
      refine x_aload_n hC dX12_tongue_47 rfl 0 rfl ?_
      refine x_iconst hC dX12_tongue_48 rfl ?_
      refine x_putI hC dX12_tongue_49 rfl fpX12_181 rfl (by decide) (by decide) rfl rfl hm9 (rgc 0 rfl) rfl hF (fun m10 hm10 hF => ?_)
      refine x_iconst hC dX12_tongue_52 rfl ?_
      refine x_istore_nZ (lv' := [(0, .ref (b.1 + 54)), (1, iV a1)]) hC dX12_tongue_53 rfl rfl (by decide) rfl (Or.inr rfl) hF (fun x11 hx11 hF => ?_)
      refine x_sub [1, 0] rfl ?_
      exact WL_X12_tongue_54 hC 100000  x11 hx11 m10 hm10 hF
    · refine x_iconst hC dX12_tongue_20 rfl ?_
      exact x_ireturn hC dX12_tongue_21 hm2 (rgc (-1) rfl) hF
set_option maxRecDepth 20000 in
set_option maxHeartbeats 4000000 in
theorem T_X12_valueOf (b : Bs) (o : Mm) (m : Mm) (a1 : Int) (ha1 : inR a1) {r : Int} {m' : Mm} (h : F_X12_valueOf a1 m = some (r, m')) : Cn yX12_valueOf cX12_valueOf 2 (some .int) (0) 0 0 1 b (false, o) m [.ref (b.1 + 54), iV a1] (F_X12_valueOf a1 m) := by
  refine Cn_of rfl (Nat.le_of_ble_eq_true rfl) (fun g hC hm => ?_)
  have hF := okR_some h
  generalize hQ : (fun (r : Int) (m' : Mm) => F_X12_valueOf a1 m = some (r, m')) = Q at hF ⊢
  clear hQ h
  replace hC : Cok g b RX12 cX12_valueOf 2 0 (some .int) := hC
  refine x_lv (lv' := [(0, .ref (b.1 + 54)), (1, iV a1)]) rfl ?_
  unfold F_X12_valueOf at hF
  refine x_iload_n hC dX12_valueOf_0 rfl 1 rfl ?_
  refine x_tab1 (v := 97) (off := 159) (tgt := 160) hC dX12_valueOf_1 (by decide) rfl ha1 hF (fun hq1 hF => ?_) (fun hq1 hF => ?_)
  · refine x_aload_n hC dX12_valueOf_160 rfl 0 rfl ?_
    refine x_getI hC dX12_valueOf_161 rfl flX12_298 rfl (by decide) rfl rfl ?_
    exact x_ireturn hC dX12_valueOf_164 hm (hm.i 54 44 rfl) hF
  refine x_tab1 (v := 100) (off := 144) (tgt := 145) hC dX12_valueOf_1 (by decide) rfl ha1 hF (fun hq2 hF => ?_) (fun hq2 hF => ?_)
  · refine x_aload_n hC dX12_valueOf_145 rfl 0 rfl ?_
    refine x_getI hC dX12_valueOf_146 rfl flX12_289 rfl (by decide) rfl rfl ?_
    exact x_ireturn hC dX12_valueOf_149 hm (hm.i 54 41 rfl) hF
  refine x_tab1 (v := 101) (off := 149) (tgt := 150) hC dX12_valueOf_1 (by decide) rfl ha1 hF (fun hq3 hF => ?_) (fun hq3 hF => ?_)
  · refine x_aload_n hC dX12_valueOf_150 rfl 0 rfl ?_
    refine x_getI hC dX12_valueOf_151 rfl flX12_292 rfl (by decide) rfl rfl ?_
    exact x_ireturn hC dX12_valueOf_154 hm (hm.i 54 42 rfl) hF
  refine x_tab1 (v := 103) (off := 107) (tgt := 108) hC dX12_valueOf_1 (by decide) rfl ha1 hF (fun hq4 hF => ?_) (fun hq4 hF => ?_)
  · refine x_aload_n hC dX12_valueOf_108 rfl 0 rfl ?_
    refine x_getI hC dX12_valueOf_109 rfl flX12_277 rfl (by decide) rfl rfl ?_
    exact x_ireturn hC dX12_valueOf_112 hm (hm.i 54 37 rfl) hF
  refine x_tab1 (v := 107) (off := 154) (tgt := 155) hC dX12_valueOf_1 (by decide) rfl ha1 hF (fun hq5 hF => ?_) (fun hq5 hF => ?_)
  · refine x_aload_n hC dX12_valueOf_155 rfl 0 rfl ?_
    refine x_getI hC dX12_valueOf_156 rfl flX12_295 rfl (by decide) rfl rfl ?_
    exact x_ireturn hC dX12_valueOf_159 hm (hm.i 54 43 rfl) hF
  refine x_tab1 (v := 108) (off := 117) (tgt := 118) hC dX12_valueOf_1 (by decide) rfl ha1 hF (fun hq6 hF => ?_) (fun hq6 hF => ?_)
  · refine x_aload_n hC dX12_valueOf_118 rfl 0 rfl ?_
    refine x_getI hC dX12_valueOf_119 rfl flX12_283 rfl (by decide) rfl rfl ?_
    exact x_ireturn hC dX12_valueOf_122 hm (hm.i 54 39 rfl) hF
  refine x_tab1 (v := 112) (off := 122) (tgt := 123) hC dX12_valueOf_1 (by decide) rfl ha1 hF (fun hq7 hF => ?_) (fun hq7 hF => ?_)
  · refine x_aload_n hC dX12_valueOf_123 rfl 0 rfl ?_
    refine x_getI hC dX12_valueOf_124 rfl flX12_286 rfl (by decide) rfl rfl ?_
    exact x_ireturn hC dX12_valueOf_127 hm (hm.i 54 40 rfl) hF
  refine x_tab1 (v := 115) (off := 127) (tgt := 128) hC dX12_valueOf_1 (by decide) rfl ha1 hF (fun hq8 hF => ?_) (fun hq8 hF => ?_)
  · refine x_aload_n hC dX12_valueOf_128 rfl 0 rfl ?_
    refine x_getI hC dX12_valueOf_129 rfl flX12_280 rfl (by decide) rfl rfl ?_
    refine x_aload_n hC dX12_valueOf_132 rfl 0 rfl ?_
    refine x_getI hC dX12_valueOf_133 rfl flX12_283 rfl (by decide) rfl rfl ?_
    refine x_icmp_ne (tgt := 143) hC dX12_valueOf_136 rfl rfl (hm.i 54 38 rfl) (hm.i 54 39 rfl) hF (fun hq9 hF => ?_) (fun hq9 hF => ?_)
    · refine x_iconst hC dX12_valueOf_143 rfl ?_
      exact x_ireturn hC dX12_valueOf_144 hm (rgc 0 rfl) hF
    · refine x_iconst hC dX12_valueOf_139 rfl ?_
      refine x_goto (tgt := 144) hC dX12_valueOf_140 rfl ?_
      exact x_ireturn hC dX12_valueOf_144 hm (rgc 1 rfl) hF
  refine x_tab1 (v := 119) (off := 112) (tgt := 113) hC dX12_valueOf_1 (by decide) rfl ha1 hF (fun hq10 hF => ?_) (fun hq10 hF => ?_)
  · refine x_aload_n hC dX12_valueOf_113 rfl 0 rfl ?_
    refine x_getI hC dX12_valueOf_114 rfl flX12_280 rfl (by decide) rfl rfl ?_
    exact x_ireturn hC dX12_valueOf_117 hm (hm.i 54 38 rfl) hF
  refine x_tabD (tgt := 165) [97, 100, 101, 103, 107, 108, 112, 115, 119] hC dX12_valueOf_1 rfl ha1 rfl (List.forall_mem_cons.mpr ⟨hq1, (List.forall_mem_cons.mpr ⟨hq2, (List.forall_mem_cons.mpr ⟨hq3, (List.forall_mem_cons.mpr ⟨hq4, (List.forall_mem_cons.mpr ⟨hq5, (List.forall_mem_cons.mpr ⟨hq6, (List.forall_mem_cons.mpr ⟨hq7, (List.forall_mem_cons.mpr ⟨hq8, (List.forall_mem_cons.mpr ⟨hq10, (fun _ h => absurd h List.not_mem_nil)⟩)⟩)⟩)⟩)⟩)⟩)⟩)⟩)⟩) ?_
  refine x_aload_n hC dX12_valueOf_165 rfl 0 rfl ?_
  refine x_getI hC dX12_valueOf_166 rfl flX12_301 rfl (by decide) rfl rfl ?_
  exact x_ireturn hC dX12_valueOf_169 hm (hm.i 54 45 rfl) hF
set_option maxRecDepth 20000 in
set_option maxHeartbeats 4000000 in
theorem T_X12_worked (b : Bs) (o : Mm) (m : Mm) (a1 : Int) (ha1 : inR a1) (a2 : Int) (ha2 : inR a2) (a3 : Int) (ha3 : inR a3) {r : Int} {m' : Mm} (h : F_X12_worked a1 a2 a3 m = some (r, m')) : Cn yX12_worked cX12_worked 3 (some .int) (0) 0 0 1 b (false, o) m [iV a1, iV a2, iV a3] (F_X12_worked a1 a2 a3 m) := by
  refine Cn_of rfl (Nat.le_of_ble_eq_true rfl) (fun g hC hm => ?_)
  have hF := okR_some h
  generalize hQ : (fun (r : Int) (m' : Mm) => F_X12_worked a1 a2 a3 m = some (r, m')) = Q at hF ⊢
  clear hQ h
  replace hC : Cok g b RX12 cX12_worked 3 0 (some .int) := hC
  refine x_lv (lv' := [(0, iV a1), (1, iV a2), (2, iV a3)]) rfl ?_
  unfold F_X12_worked at hF
  refine x_iload_n hC dX12_worked_0 rfl 0 rfl ?_
  refine x_look1 (v := 37) (off := 91) (tgt := 92) hC dX12_worked_1 (by decide) rfl ha1 hF (fun hq1 hF => ?_) (fun hq1 hF => ?_)
  · refine x_iload_n hC dX12_worked_92 rfl 2 rfl ?_
    refine x_if_ne (tgt := 100) hC dX12_worked_93 rfl rfl ha3 hF (fun hq2 hF => ?_) (fun hq2 hF => ?_)
    · refine x_iload_n hC dX12_worked_100 rfl 1 rfl ?_
      refine x_iload_n hC dX12_worked_101 rfl 2 rfl ?_
      refine x_irem hC dX12_worked_102 rfl ha2 ha3 hF (fun hz3 hF => ?_)
      exact x_ireturn hC dX12_worked_103 hm (rg_wr _) hF
    · refine x_iconst hC dX12_worked_96 rfl ?_
      refine x_goto (tgt := 103) hC dX12_worked_97 rfl ?_
      exact x_ireturn hC dX12_worked_103 hm (rgc 0 rfl) hF
  refine x_look1 (v := 42) (off := 75) (tgt := 76) hC dX12_worked_1 (by decide) rfl ha1 hF (fun hq4 hF => ?_) (fun hq4 hF => ?_)
  · refine x_iload_n hC dX12_worked_76 rfl 1 rfl ?_
    refine x_iload_n hC dX12_worked_77 rfl 2 rfl ?_
    refine x_imul hC dX12_worked_78 rfl ?_
    exact x_ireturn hC dX12_worked_79 hm (rg_wr _) hF
  refine x_look1 (v := 43) (off := 67) (tgt := 68) hC dX12_worked_1 (by decide) rfl ha1 hF (fun hq5 hF => ?_) (fun hq5 hF => ?_)
  · refine x_iload_n hC dX12_worked_68 rfl 1 rfl ?_
    refine x_iload_n hC dX12_worked_69 rfl 2 rfl ?_
    refine x_iadd hC dX12_worked_70 rfl ?_
    exact x_ireturn hC dX12_worked_71 hm (rg_wr _) hF
  refine x_look1 (v := 45) (off := 71) (tgt := 72) hC dX12_worked_1 (by decide) rfl ha1 hF (fun hq6 hF => ?_) (fun hq6 hF => ?_)
  · refine x_iload_n hC dX12_worked_72 rfl 1 rfl ?_
    refine x_iload_n hC dX12_worked_73 rfl 2 rfl ?_
    refine x_isub hC dX12_worked_74 rfl ?_
    exact x_ireturn hC dX12_worked_75 hm (rg_wr _) hF
  refine x_look1 (v := 47) (off := 79) (tgt := 80) hC dX12_worked_1 (by decide) rfl ha1 hF (fun hq7 hF => ?_) (fun hq7 hF => ?_)
  · refine x_iload_n hC dX12_worked_80 rfl 2 rfl ?_
    refine x_if_ne (tgt := 88) hC dX12_worked_81 rfl rfl ha3 hF (fun hq8 hF => ?_) (fun hq8 hF => ?_)
    · refine x_iload_n hC dX12_worked_88 rfl 1 rfl ?_
      refine x_iload_n hC dX12_worked_89 rfl 2 rfl ?_
      refine x_idiv hC dX12_worked_90 rfl ha2 ha3 hF (fun hz9 hF => ?_)
      exact x_ireturn hC dX12_worked_91 hm (rg_wr _) hF
    · refine x_iconst hC dX12_worked_84 rfl ?_
      refine x_goto (tgt := 91) hC dX12_worked_85 rfl ?_
      exact x_ireturn hC dX12_worked_91 hm (rgc 0 rfl) hF
  refine x_look1 (v := 60) (off := 103) (tgt := 104) hC dX12_worked_1 (by decide) rfl ha1 hF (fun hq10 hF => ?_) (fun hq10 hF => ?_)
  · refine x_iload_n hC dX12_worked_104 rfl 1 rfl ?_
    refine x_iload_n hC dX12_worked_105 rfl 2 rfl ?_
    refine x_icmp_ge (tgt := 113) hC dX12_worked_106 rfl rfl ha2 ha3 hF (fun hq11 hF => ?_) (fun hq11 hF => ?_)
    · refine x_iconst hC dX12_worked_113 rfl ?_
      exact x_ireturn hC dX12_worked_114 hm (rgc 0 rfl) hF
    · refine x_iconst hC dX12_worked_109 rfl ?_
      refine x_goto (tgt := 114) hC dX12_worked_110 rfl ?_
      exact x_ireturn hC dX12_worked_114 hm (rgc 1 rfl) hF
  refine x_look1 (v := 62) (off := 114) (tgt := 115) hC dX12_worked_1 (by decide) rfl ha1 hF (fun hq12 hF => ?_) (fun hq12 hF => ?_)
  · refine x_iload_n hC dX12_worked_115 rfl 1 rfl ?_
    refine x_iload_n hC dX12_worked_116 rfl 2 rfl ?_
    refine x_icmp_le (tgt := 124) hC dX12_worked_117 rfl rfl ha2 ha3 hF (fun hq13 hF => ?_) (fun hq13 hF => ?_)
    · refine x_iconst hC dX12_worked_124 rfl ?_
      exact x_ireturn hC dX12_worked_125 hm (rgc 0 rfl) hF
    · refine x_iconst hC dX12_worked_120 rfl ?_
      refine x_goto (tgt := 125) hC dX12_worked_121 rfl ?_
      exact x_ireturn hC dX12_worked_125 hm (rgc 1 rfl) hF
  refine x_lookD (tgt := 126) [37, 42, 43, 45, 47, 60, 62] hC dX12_worked_1 rfl ha1 rfl (List.forall_mem_cons.mpr ⟨hq1, (List.forall_mem_cons.mpr ⟨hq4, (List.forall_mem_cons.mpr ⟨hq5, (List.forall_mem_cons.mpr ⟨hq6, (List.forall_mem_cons.mpr ⟨hq7, (List.forall_mem_cons.mpr ⟨hq10, (List.forall_mem_cons.mpr ⟨hq12, (fun _ h => absurd h List.not_mem_nil)⟩)⟩)⟩)⟩)⟩)⟩)⟩) ?_
  refine x_iload_n hC dX12_worked_126 rfl 1 rfl ?_
  refine x_iload_n hC dX12_worked_127 rfl 2 rfl ?_
  refine x_icmp_ne (tgt := 135) hC dX12_worked_128 rfl rfl ha2 ha3 hF (fun hq14 hF => ?_) (fun hq14 hF => ?_)
  · refine x_iconst hC dX12_worked_135 rfl ?_
    exact x_ireturn hC dX12_worked_136 hm (rgc 0 rfl) hF
  · refine x_iconst hC dX12_worked_131 rfl ?_
    refine x_goto (tgt := 136) hC dX12_worked_132 rfl ?_
    exact x_ireturn hC dX12_worked_136 hm (rgc 1 rfl) hF
set_option maxRecDepth 20000 in
set_option maxHeartbeats 4000000 in
theorem WJ_X12_does_46 {g : Gx} {b : Bs} {o : Mm} {Q : Int → Mm → Prop} (hC : Cok g b RX12 cX12_does 4 1 none) (v2 : Int) (hv2 : inR v2) (v3 : Int) (hv3 : inR v3) (m : Mm) (hm : Rg m) (hF : okR (J_X12_does_46 v2 v3 m) Q) : X g b (false, o) 4 (ZM g b (false, o) 0 Q) 46 [(0, .ref (b.1 + 54)), (2, iV v2), (3, iV v3)] [] m 0 0 := by
  unfold J_X12_does_46 at hF
  refine x_aload_n hC dX12_does_46 rfl 0 rfl ?_
  refine x_getR (t := 76) hC dX12_does_47 rfl flX12_84 rfl (by decide) rfl rfl ?_
  refine x_iload_n hC dX12_does_50 rfl 1 rfl ?_
  refine x_aload_n hC dX12_does_51 rfl 0 rfl ?_
  refine x_getR (t := 76) hC dX12_does_52 rfl flX12_84 rfl (by decide) rfl rfl ?_
  refine x_iload_n hC dX12_does_55 rfl 2 rfl ?_
  refine x_iald hC dX12_does_56 rfl rfl (by decide) rfl hm hv3 hF (fun x1 hx1 hF => ?_)
  refine x_iast hC dX12_does_57 rfl rfl (by decide) rfl hm hv2 hx1 hF (fun m2 hm2 hF => ?_)
  refine x_aload_n hC dX12_does_58 rfl 0 rfl ?_
  refine x_getR (t := 77) hC dX12_does_59 rfl flX12_87 rfl (by decide) rfl rfl ?_
  refine x_iload_n hC dX12_does_62 rfl 1 rfl ?_
  refine x_aload_n hC dX12_does_63 rfl 0 rfl ?_
  refine x_getR (t := 77) hC dX12_does_64 rfl flX12_87 rfl (by decide) rfl rfl ?_
  refine x_iload_n hC dX12_does_67 rfl 2 rfl ?_
  refine x_zald hC dX12_does_68 rfl rfl (by decide) rfl hm2 hv3 hF (fun x3 hx3 hF => ?_)
  refine x_zast hC dX12_does_69 rfl rfl (by decide) rfl hm2 hv2 hx3 hF (fun m4 hm4 hF => ?_)
  exact x_return hC dX12_does_70 hm4 hF
set_option maxRecDepth 20000 in
set_option maxHeartbeats 4000000 in
theorem WJ_X12_does_16 {g : Gx} {b : Bs} {o : Mm} {Q : Int → Mm → Prop} (hC : Cok g b RX12 cX12_does 4 1 none) (v1 : Int) (hv1 : inR v1) (v2 : Int) (hv2 : inR v2) (v3 : Int) (hv3 : inR v3) (m : Mm) (hm : Rg m) (hF : okR (J_X12_does_16 v1 v2 v3 m) Q) : X g b (false, o) 4 (ZM g b (false, o) 0 Q) 16 [(0, .ref (b.1 + 54)), (1, iV v1), (2, iV v2), (3, iV v3)] [] m 0 0 := by
  unfold J_X12_does_16 at hF
  refine x_aload_n hC dX12_does_16 rfl 0 rfl ?_
  refine x_getR (t := 77) hC dX12_does_17 rfl flX12_87 rfl (by decide) rfl rfl ?_
  refine x_iload_n hC dX12_does_20 rfl 2 rfl ?_
  refine x_zald hC dX12_does_21 rfl rfl (by decide) rfl hm hv2 hF (fun x1 hx1 hF => ?_)
  refine x_if_ne (tgt := 45) hC dX12_does_22 rfl rfl (rg_01 hx1) hF (fun hq2 hF => ?_) (fun hq2 hF => ?_)
  · exact x_return hC dX12_does_45 hm hF
  · refine x_aload_n hC dX12_does_25 rfl 0 rfl ?_
    refine x_getR (t := 76) hC dX12_does_26 rfl flX12_84 rfl (by decide) rfl rfl ?_
    refine x_iload_n hC dX12_does_29 rfl 2 rfl ?_
    refine x_iald hC dX12_does_30 rfl rfl (by decide) rfl hm hv2 hF (fun x3 hx3 hF => ?_)
    refine x_iload_n hC dX12_does_31 rfl 1 rfl ?_
    refine x_bipush hC dX12_does_32 rfl rfl ?_
    refine x_icmp_ne (tgt := 41) hC dX12_does_34 rfl rfl hv1 (rgc 38 rfl) hF (fun hq4 hF => ?_) (fun hq4 hF => ?_)
    · refine x_iconst hC dX12_does_41 rfl ?_
      refine x_icmp_eq (tgt := 46) hC dX12_does_42 rfl rfl hx3 (rgc 0 rfl) hF (fun hq5 hF => ?_) (fun hq5 hF => ?_)
      · refine x_sub [0, 2, 3] rfl ?_
        exact WJ_X12_does_46 hC  v2 hv2 v3 hv3 m hm hF
      · exact x_return hC dX12_does_45 hm hF
    · refine x_iconst hC dX12_does_37 rfl ?_
      refine x_goto (tgt := 42) hC dX12_does_38 rfl ?_
      refine x_icmp_eq (tgt := 46) hC dX12_does_42 rfl rfl hx3 (rgc 1 rfl) hF (fun hq6 hF => ?_) (fun hq6 hF => ?_)
      · refine x_sub [0, 2, 3] rfl ?_
        exact WJ_X12_does_46 hC  v2 hv2 v3 hv3 m hm hF
      · exact x_return hC dX12_does_45 hm hF
set_option maxRecDepth 20000 in
set_option maxHeartbeats 4000000 in
theorem WJ_X12_does_121 {g : Gx} {b : Bs} {o : Mm} {Q : Int → Mm → Prop} (hC : Cok g b RX12 cX12_does 4 1 none) (v1 : Int) (hv1 : inR v1) (v2 : Int) (hv2 : inR v2) (v3 : Int) (hv3 : inR v3) (m : Mm) (hm : Rg m) (hF : okR (J_X12_does_121 v1 v2 v3 m) Q) : X g b (false, o) 4 (ZM g b (false, o) 0 Q) 121 [(0, .ref (b.1 + 54)), (1, iV v1), (2, iV v2), (3, iV v3)] [] m 0 0 := by
  unfold J_X12_does_121 at hF
  refine x_aload_n hC dX12_does_121 rfl 0 rfl ?_
  refine x_getR (t := 76) hC dX12_does_122 rfl flX12_84 rfl (by decide) rfl rfl ?_
  refine x_iload_n hC dX12_does_125 rfl 2 rfl ?_
  refine x_iload_n hC dX12_does_126 rfl 1 rfl ?_
  refine x_aload_n hC dX12_does_127 rfl 0 rfl ?_
  refine x_getR (t := 76) hC dX12_does_128 rfl flX12_84 rfl (by decide) rfl rfl ?_
  refine x_iload_n hC dX12_does_131 rfl 2 rfl ?_
  refine x_iald hC dX12_does_132 rfl rfl (by decide) rfl hm hv2 hF (fun x1 hx1 hF => ?_)
  refine x_aload_n hC dX12_does_133 rfl 0 rfl ?_
  refine x_getR (t := 76) hC dX12_does_134 rfl flX12_84 rfl (by decide) rfl rfl ?_
  refine x_iload_n hC dX12_does_137 rfl 3 rfl ?_
  refine x_iald hC dX12_does_138 rfl rfl (by decide) rfl hm hv3 hF (fun x2 hx2 hF => ?_)
  refine x_callS1 (kc2 := 0) (ks2 := 0) (As := [iV v1, iV x1, iV x2]) (rest := [iV v2, .ref (b.1 + 76)]) hC dX12_does_139 rfl hm (fun _ _ h => T_X12_worked b _ m v1 hv1 x1 hx1 x2 hx2 h) mlX12_304 vsX12_worked rfl rfl (Nat.le_of_ble_eq_true rfl) (by decide) (by decide) rfl rfl hF (fun r3 m4 hr3 hm4 hF => ?_)
  refine x_iast hC dX12_does_142 rfl rfl (by decide) rfl hm4 hv2 hr3 hF (fun m5 hm5 hF => ?_)
  exact x_return hC dX12_does_143 hm5 hF
set_option maxRecDepth 20000 in
set_option maxHeartbeats 4000000 in
theorem T_X12_does (b : Bs) (o : Mm) (m : Mm) (a1 : Int) (ha1 : inR a1) (a2 : Int) (ha2 : inR a2) {r : Int} {m' : Mm} (h : F_X12_does a1 a2 m = some (r, m')) : Cn yX12_does cX12_does 4 none (1) 0 0 0 b (false, o) m [.ref (b.1 + 54), iV a1, iV a2] (F_X12_does a1 a2 m) := by
  refine Cn_of rfl (Nat.le_of_ble_eq_true rfl) (fun g hC hm => ?_)
  have hF := okR_some h
  generalize hQ : (fun (r : Int) (m' : Mm) => F_X12_does a1 a2 m = some (r, m')) = Q at hF ⊢
  clear hQ h
  replace hC : Cok g b RX12 cX12_does 4 1 none := hC
  refine x_lv (lv' := [(0, .ref (b.1 + 54)), (1, iV a1), (2, iV a2)]) rfl ?_
  unfold F_X12_does at hF
  refine x_iload_n hC dX12_does_0 rfl 2 rfl ?_
  refine x_iconst hC dX12_does_1 rfl ?_
  refine x_iadd hC dX12_does_2 rfl ?_
  refine x_istore_n (lv' := [(0, .ref (b.1 + 54)), (1, iV a1), (2, iV a2)]) hC dX12_does_3 rfl rfl (by decide) rfl (rg_wr _) hF (fun x1 hx1 hF => ?_)
  refine x_iload_n hC dX12_does_4 rfl 2 rfl ?_
  refine x_bipush hC dX12_does_5 rfl rfl ?_
  refine x_icmp_eq (tgt := 16) hC dX12_does_7 rfl rfl ha1 (rgc 38 rfl) hF (fun hq2 hF => ?_) (fun hq2 hF => ?_)
  · refine x_sub [1, 2, 3, 0] rfl ?_
    exact WJ_X12_does_16 hC  a1 ha1 a2 ha2 x1 hx1 m hm hF
  · refine x_iload_n hC dX12_does_10 rfl 2 rfl ?_
    refine x_bipush hC dX12_does_11 rfl rfl ?_
    refine x_icmp_ne (tgt := 71) hC dX12_does_13 rfl rfl ha1 (rgc 124 rfl) hF (fun hq3 hF => ?_) (fun hq3 hF => ?_)
    · refine x_aload_n hC dX12_does_71 rfl 1 rfl ?_
      refine x_getR (t := 77) hC dX12_does_72 rfl flX12_87 rfl (by decide) rfl rfl ?_
      refine x_iload_n hC dX12_does_75 rfl 3 rfl ?_
      refine x_aload_n hC dX12_does_76 rfl 1 rfl ?_
      refine x_getR (t := 77) hC dX12_does_77 rfl flX12_87 rfl (by decide) rfl rfl ?_
      refine x_iload_n hC dX12_does_80 rfl 3 rfl ?_
      refine x_zald hC dX12_does_81 rfl rfl (by decide) rfl hm ha2 hF (fun x4 hx4 hF => ?_)
      refine x_if_ne (tgt := 115) hC dX12_does_82 rfl rfl (rg_01 hx4) hF (fun hq5 hF => ?_) (fun hq5 hF => ?_)
      · refine x_iconst hC dX12_does_115 rfl ?_
        refine x_goto (tgt := 120) hC dX12_does_116 rfl ?_
        refine x_zast hC dX12_does_120 rfl rfl (by decide) rfl hm ha2 (Or.inr rfl) hF (fun m6 hm6 hF => ?_)
        refine x_sub [1, 2, 3, 0] rfl ?_
        exact WJ_X12_does_121 hC  a1 ha1 a2 ha2 x1 hx1 m6 hm6 hF
      · refine x_aload_n hC dX12_does_85 rfl 1 rfl ?_
        refine x_getR (t := 77) hC dX12_does_86 rfl flX12_87 rfl (by decide) rfl rfl ?_
        refine x_iload_n hC dX12_does_89 rfl 0 rfl ?_
        refine x_zald hC dX12_does_90 rfl rfl (by decide) rfl hm hx1 hF (fun x7 hx7 hF => ?_)
        refine x_if_ne (tgt := 115) hC dX12_does_91 rfl rfl (rg_01 hx7) hF (fun hq8 hF => ?_) (fun hq8 hF => ?_)
        · refine x_iconst hC dX12_does_115 rfl ?_
          refine x_goto (tgt := 120) hC dX12_does_116 rfl ?_
          refine x_zast hC dX12_does_120 rfl rfl (by decide) rfl hm ha2 (Or.inr rfl) hF (fun m9 hm9 hF => ?_)
          refine x_sub [1, 2, 3, 0] rfl ?_
          exact WJ_X12_does_121 hC  a1 ha1 a2 ha2 x1 hx1 m9 hm9 hF
        · refine x_iload_n hC dX12_does_94 rfl 2 rfl ?_
          refine x_bipush hC dX12_does_95 rfl rfl ?_
          refine x_icmp_eq (tgt := 106) hC dX12_does_97 rfl rfl ha1 (rgc 47 rfl) hF (fun hq10 hF => ?_) (fun hq10 hF => ?_)
          · refine x_aload_n hC dX12_does_106 rfl 1 rfl ?_
            refine x_getR (t := 76) hC dX12_does_107 rfl flX12_84 rfl (by decide) rfl rfl ?_
            refine x_iload_n hC dX12_does_110 rfl 0 rfl ?_
            refine x_iald hC dX12_does_111 rfl rfl (by decide) rfl hm hx1 hF (fun x11 hx11 hF => ?_)
            refine x_if_ne (tgt := 119) hC dX12_does_112 rfl rfl hx11 hF (fun hq12 hF => ?_) (fun hq12 hF => ?_)
            · refine x_iconst hC dX12_does_119 rfl ?_
              refine x_zast hC dX12_does_120 rfl rfl (by decide) rfl hm ha2 (Or.inl rfl) hF (fun m13 hm13 hF => ?_)
              refine x_sub [1, 2, 3, 0] rfl ?_
              exact WJ_X12_does_121 hC  a1 ha1 a2 ha2 x1 hx1 m13 hm13 hF
            · refine x_iconst hC dX12_does_115 rfl ?_
              refine x_goto (tgt := 120) hC dX12_does_116 rfl ?_
              refine x_zast hC dX12_does_120 rfl rfl (by decide) rfl hm ha2 (Or.inr rfl) hF (fun m14 hm14 hF => ?_)
              refine x_sub [1, 2, 3, 0] rfl ?_
              exact WJ_X12_does_121 hC  a1 ha1 a2 ha2 x1 hx1 m14 hm14 hF
          · refine x_iload_n hC dX12_does_100 rfl 2 rfl ?_
            refine x_bipush hC dX12_does_101 rfl rfl ?_
            refine x_icmp_ne (tgt := 119) hC dX12_does_103 rfl rfl ha1 (rgc 37 rfl) hF (fun hq15 hF => ?_) (fun hq15 hF => ?_)
            · refine x_iconst hC dX12_does_119 rfl ?_
              refine x_zast hC dX12_does_120 rfl rfl (by decide) rfl hm ha2 (Or.inl rfl) hF (fun m16 hm16 hF => ?_)
              refine x_sub [1, 2, 3, 0] rfl ?_
              exact WJ_X12_does_121 hC  a1 ha1 a2 ha2 x1 hx1 m16 hm16 hF
            · refine x_aload_n hC dX12_does_106 rfl 1 rfl ?_
              refine x_getR (t := 76) hC dX12_does_107 rfl flX12_84 rfl (by decide) rfl rfl ?_
              refine x_iload_n hC dX12_does_110 rfl 0 rfl ?_
              refine x_iald hC dX12_does_111 rfl rfl (by decide) rfl hm hx1 hF (fun x17 hx17 hF => ?_)
              refine x_if_ne (tgt := 119) hC dX12_does_112 rfl rfl hx17 hF (fun hq18 hF => ?_) (fun hq18 hF => ?_)
              · refine x_iconst hC dX12_does_119 rfl ?_
                refine x_zast hC dX12_does_120 rfl rfl (by decide) rfl hm ha2 (Or.inl rfl) hF (fun m19 hm19 hF => ?_)
                refine x_sub [1, 2, 3, 0] rfl ?_
                exact WJ_X12_does_121 hC  a1 ha1 a2 ha2 x1 hx1 m19 hm19 hF
              · refine x_iconst hC dX12_does_115 rfl ?_
                refine x_goto (tgt := 120) hC dX12_does_116 rfl ?_
                refine x_zast hC dX12_does_120 rfl rfl (by decide) rfl hm ha2 (Or.inr rfl) hF (fun m20 hm20 hF => ?_)
                refine x_sub [1, 2, 3, 0] rfl ?_
                exact WJ_X12_does_121 hC  a1 ha1 a2 ha2 x1 hx1 m20 hm20 hF
    · refine x_sub [1, 2, 3, 0] rfl ?_
      exact WJ_X12_does_16 hC  a1 ha1 a2 ha2 x1 hx1 m hm hF
set_option maxRecDepth 20000 in
set_option maxHeartbeats 4000000 in
theorem WJ_X12_works_121 {g : Gx} {b : Bs} {o : Mm} {Q : Int → Mm → Prop} {k_5 : Int → Int → Int → Mm → Rs} (hC : Cok g b RX12 cX12_works 5 2 none) (hk_5 : ∀ v2 : Int, inR v2 → ∀ v3 : Int, inR v3 → ∀ v4 : Int, inR v4 → ∀ m : Mm, Rg m → okR (k_5 v2 v3 v4 m) Q → X g b (false, o) 5 (ZM g b (false, o) 0 Q) 5 [(0, .ref (b.1 + 54)), (2, iV v2), (3, iV v3), (4, iV v4)] [] m 0 0) (v2 : Int) (hv2 : inR v2) (v3 : Int) (hv3 : inR v3) (v4 : Int) (hv4 : inR v4) (m : Mm) (hm : Rg m) (hF : okR (J_X12_works_121 k_5 v2 v3 v4 m) Q) : X g b (false, o) 5 (ZM g b (false, o) 0 Q) 121 [(0, .ref (b.1 + 54)), (2, iV v2), (3, iV v3), (4, iV v4)] [] m 0 0 := by
  unfold J_X12_works_121 at hF
  refine x_iinc (p := 3) (lv' := [(0, .ref (b.1 + 54)), (2, iV v2), (3, iV v3)]) hC dX12_works_121 rfl rfl (by decide) rfl hF (fun x1 hx1 hF => ?_)
  refine x_goto (tgt := 5) hC dX12_works_124 rfl ?_
  refine x_sub [1, 2, 3, 0] rfl ?_
  exact hk_5 v2 hv2 v3 hv3 x1 hx1 m hm hF
set_option maxRecDepth 20000 in
set_option maxHeartbeats 4000000 in
theorem WJ_X12_works_118 {g : Gx} {b : Bs} {o : Mm} {Q : Int → Mm → Prop} {k_5 : Int → Int → Int → Mm → Rs} (hC : Cok g b RX12 cX12_works 5 2 none) (hk_5 : ∀ v2 : Int, inR v2 → ∀ v3 : Int, inR v3 → ∀ v4 : Int, inR v4 → ∀ m : Mm, Rg m → okR (k_5 v2 v3 v4 m) Q → X g b (false, o) 5 (ZM g b (false, o) 0 Q) 5 [(0, .ref (b.1 + 54)), (2, iV v2), (3, iV v3), (4, iV v4)] [] m 0 0) (v2 : Int) (hv2 : inR v2) (v3 : Int) (hv3 : inR v3) (v4 : Int) (hv4 : inR v4) (m : Mm) (hm : Rg m) (hF : okR (J_X12_works_118 k_5 v2 v3 v4 m) Q) : X g b (false, o) 5 (ZM g b (false, o) 0 Q) 118 [(0, .ref (b.1 + 54)), (2, iV v2), (3, iV v3), (4, iV v4)] [] m 0 0 := by
  unfold J_X12_works_118 at hF
  refine x_iinc (p := 2) (lv' := [(0, .ref (b.1 + 54)), (2, iV v2), (4, iV v4)]) hC dX12_works_118 rfl rfl (by decide) rfl hF (fun x1 hx1 hF => ?_)
  refine x_sub [1, 2, 0, 3] rfl ?_
  exact WJ_X12_works_121 hC hk_5  v2 hv2 x1 hx1 v4 hv4 m hm hF
set_option maxRecDepth 20000 in
set_option maxHeartbeats 4000000 in
theorem WL_X12_works_5 {g : Gx} {b : Bs} {o : Mm} {Q : Int → Mm → Prop} (hC : Cok g b RX12 cX12_works 5 2 none) : ∀ n : Nat, ∀ v2 : Int, inR v2 → ∀ v3 : Int, inR v3 → ∀ v4 : Int, inR v4 → ∀ m : Mm, Rg m → okR (L_X12_works_5 n v2 v3 v4 m) Q → X g b (false, o) 5 (ZM g b (false, o) 0 Q) 5 [(0, .ref (b.1 + 54)), (2, iV v2), (3, iV v3), (4, iV v4)] [] m 0 0 := by
  intro n
  induction n with
  | zero => intro v2 hv2 v3 hv3 v4 hv4 m hm hF; exact absurd hF (fun z => z)
  | succ n ih =>
    intro v2 hv2 v3 hv3 v4 hv4 m hm hF
    have hF : okR (LB_X12_works_5 (L_X12_works_5 n) v2 v3 v4 m) Q := hF
    unfold LB_X12_works_5 at hF
    refine x_iload hC dX12_works_5 rfl 3 rfl ?_
    refine x_iload_n hC dX12_works_7 rfl 1 rfl ?_
    refine x_icmp_ge (tgt := 127) hC dX12_works_8 rfl rfl hv4 hv2 hF (fun hq1 hF => ?_) (fun hq1 hF => ?_)
    · exact x_return hC dX12_works_127 hm hF
    · refine x_aload_n hC dX12_works_11 rfl 0 rfl ?_
      refine x_getR (t := 67) hC dX12_works_12 rfl flX12_57 rfl (by decide) rfl rfl ?_
      refine x_iload hC dX12_works_15 rfl 3 rfl ?_
      refine x_iald hC dX12_works_17 rfl rfl (by decide) rfl hm hv4 hF (fun x2 hx2 hF => ?_)
      refine x_iconst hC dX12_works_18 rfl ?_
      refine x_icmp_le (tgt := 42) hC dX12_works_19 rfl rfl hx2 (rgc 2 rfl) hF (fun hq3 hF => ?_) (fun hq3 hF => ?_)
      · refine x_aload_n hC dX12_works_42 rfl 0 rfl ?_
        refine x_getR (t := 67) hC dX12_works_43 rfl flX12_57 rfl (by decide) rfl rfl ?_
        refine x_iload hC dX12_works_46 rfl 3 rfl ?_
        refine x_iald hC dX12_works_48 rfl rfl (by decide) rfl hm hv4 hF (fun x4 hx4 hF => ?_)
        refine x_iconst hC dX12_works_49 rfl ?_
        refine x_icmp_ne (tgt := 74) hC dX12_works_50 rfl rfl hx4 (rgc 2 rfl) hF (fun hq5 hF => ?_) (fun hq5 hF => ?_)
        · refine x_aload_n hC dX12_works_74 rfl 0 rfl ?_
          refine x_getR (t := 77) hC dX12_works_75 rfl flX12_87 rfl (by decide) rfl rfl ?_
          refine x_iload_n hC dX12_works_78 rfl 2 rfl ?_
          refine x_iconst hC dX12_works_79 rfl ?_
          refine x_zast hC dX12_works_80 rfl rfl (by decide) rfl hm hv3 (Or.inl rfl) hF (fun m6 hm6 hF => ?_)
          refine x_aload_n hC dX12_works_81 rfl 0 rfl ?_
          refine x_getR (t := 76) hC dX12_works_82 rfl flX12_84 rfl (by decide) rfl rfl ?_
          refine x_iload_n hC dX12_works_85 rfl 2 rfl ?_
          refine x_aload_n hC dX12_works_86 rfl 0 rfl ?_
          refine x_getR (t := 67) hC dX12_works_87 rfl flX12_57 rfl (by decide) rfl rfl ?_
          refine x_iload hC dX12_works_90 rfl 3 rfl ?_
          refine x_iald hC dX12_works_92 rfl rfl (by decide) rfl hm6 hv4 hF (fun x7 hx7 hF => ?_)
          refine x_if_ne (tgt := 106) hC dX12_works_93 rfl rfl hx7 hF (fun hq8 hF => ?_) (fun hq8 hF => ?_)
          · refine x_aload_n hC dX12_works_106 rfl 0 rfl ?_
            refine x_aload_n hC dX12_works_107 rfl 0 rfl ?_
            refine x_getR (t := 68) hC dX12_works_108 rfl flX12_60 rfl (by decide) rfl rfl ?_
            refine x_iload hC dX12_works_111 rfl 3 rfl ?_
            refine x_iald hC dX12_works_113 rfl rfl (by decide) rfl hm6 hv4 hF (fun x9 hx9 hF => ?_)
            refine x_callV1 (kc2 := 0) (ks2 := 0) (k := 54) (As := [iV x9]) (rest := [iV v3, .ref (b.1 + 76)]) hC dX12_works_114 rfl hm6 (fun _ _ h => T_X12_valueOf b _ m6 x9 hx9 h) mlX12_311 vlX12_valueOf rfl (by decide) rfl rfl (Nat.le_of_ble_eq_true rfl) (by decide) (by decide) rfl rfl hF (fun r10 m11 hr10 hm11 hF => ?_)
            refine x_iast hC dX12_works_117 rfl rfl (by decide) rfl hm11 hv3 hr10 hF (fun m12 hm12 hF => ?_)
            exact WJ_X12_works_118 hC ih  v2 hv2 v3 hv3 v4 hv4 m12 hm12 hF
          · refine x_aload_n hC dX12_works_96 rfl 0 rfl ?_
            refine x_getR (t := 68) hC dX12_works_97 rfl flX12_60 rfl (by decide) rfl rfl ?_
            refine x_iload hC dX12_works_100 rfl 3 rfl ?_
            refine x_iald hC dX12_works_102 rfl rfl (by decide) rfl hm6 hv4 hF (fun x13 hx13 hF => ?_)
            refine x_goto (tgt := 117) hC dX12_works_103 rfl ?_
            refine x_iast hC dX12_works_117 rfl rfl (by decide) rfl hm6 hv3 hx13 hF (fun m14 hm14 hF => ?_)
            exact WJ_X12_works_118 hC ih  v2 hv2 v3 hv3 v4 hv4 m14 hm14 hF
        · refine x_aload_n hC dX12_works_53 rfl 0 rfl ?_
          refine x_getR (t := 76) hC dX12_works_54 rfl flX12_84 rfl (by decide) rfl rfl ?_
          refine x_iload_n hC dX12_works_57 rfl 2 rfl ?_
          refine x_iconst hC dX12_works_58 rfl ?_
          refine x_isub hC dX12_works_59 rfl ?_
          refine x_iconst hC dX12_works_60 rfl ?_
          refine x_aload_n hC dX12_works_61 rfl 0 rfl ?_
          refine x_getR (t := 76) hC dX12_works_62 rfl flX12_84 rfl (by decide) rfl rfl ?_
          refine x_iload_n hC dX12_works_65 rfl 2 rfl ?_
          refine x_iconst hC dX12_works_66 rfl ?_
          refine x_isub hC dX12_works_67 rfl ?_
          refine x_iald hC dX12_works_68 rfl rfl (by decide) rfl hm (rg_wr _) hF (fun x15 hx15 hF => ?_)
          refine x_isub hC dX12_works_69 rfl ?_
          refine x_iast hC dX12_works_70 rfl rfl (by decide) rfl hm (rg_wr _) (rg_wr _) hF (fun m16 hm16 hF => ?_)
          refine x_goto (tgt := 121) hC dX12_works_71 rfl ?_
          exact WJ_X12_works_121 hC ih  v2 hv2 v3 hv3 v4 hv4 m16 hm16 hF
      · refine x_iinc (p := 2) (lv' := [(0, .ref (b.1 + 54)), (2, iV v2), (4, iV v4)]) hC dX12_works_22 rfl rfl (by decide) rfl hF (fun x17 hx17 hF => ?_)
        refine x_aload_n hC dX12_works_25 rfl 1 rfl ?_
        refine x_aload_n hC dX12_works_26 rfl 1 rfl ?_
        refine x_getR (t := 67) hC dX12_works_27 rfl flX12_57 rfl (by decide) rfl rfl ?_
        refine x_iload hC dX12_works_30 rfl 3 rfl ?_
        refine x_iald hC dX12_works_32 rfl rfl (by decide) rfl hm hv4 hF (fun x18 hx18 hF => ?_)
        refine x_iload_n hC dX12_works_33 rfl 0 rfl ?_
        refine x_iconst hC dX12_works_34 rfl ?_
        refine x_isub hC dX12_works_35 rfl ?_
        refine x_callV0 (kc2 := 0) (ks2 := 0) (k := 54) (As := [iV x18, iV (wr (x17 - 1))]) (rest := []) hC dX12_works_36 rfl hm (fun _ _ h => T_X12_does b _ m x18 hx18 (wr (x17 - 1)) (rg_wr _) h) mlX12_308 vlX12_does rfl (by decide) rfl rfl (Nat.le_of_ble_eq_true rfl) (by decide) (by decide) rfl rfl hF (fun r19 m20 hr19 hm20 hF => ?_)
        refine x_goto (tgt := 121) hC dX12_works_39 rfl ?_
        refine x_sub [1, 2, 0, 3] rfl ?_
        exact WJ_X12_works_121 hC ih  v2 hv2 x17 hx17 v4 hv4 m20 hm20 hF
set_option maxRecDepth 20000 in
set_option maxHeartbeats 4000000 in
theorem T_X12_works (b : Bs) (o : Mm) (m : Mm) (a1 : Int) (ha1 : inR a1) (a2 : Int) (ha2 : inR a2) {r : Int} {m' : Mm} (h : F_X12_works a1 a2 m = some (r, m')) : Cn yX12_works cX12_works 5 none (2) 0 0 0 b (false, o) m [.ref (b.1 + 54), iV a1, iV a2] (F_X12_works a1 a2 m) := by
  refine Cn_of rfl (Nat.le_of_ble_eq_true rfl) (fun g hC hm => ?_)
  have hF := okR_some h
  generalize hQ : (fun (r : Int) (m' : Mm) => F_X12_works a1 a2 m = some (r, m')) = Q at hF ⊢
  clear hQ h
  replace hC : Cok g b RX12 cX12_works 5 2 none := hC
  refine x_lv (lv' := [(0, .ref (b.1 + 54)), (1, iV a1), (2, iV a2)]) rfl ?_
  unfold F_X12_works at hF
  refine x_iconst hC dX12_works_0 rfl ?_
  refine x_istore_nZ (lv' := [(0, .ref (b.1 + 54)), (1, iV a1), (2, iV a2)]) hC dX12_works_1 rfl rfl (by decide) rfl (Or.inl rfl) hF (fun x1 hx1 hF => ?_)
  refine x_iload_n hC dX12_works_2 rfl 2 rfl ?_
  refine x_istore (lv' := [(3, iV x1), (0, .ref (b.1 + 54)), (1, iV a1), (2, iV a2)]) hC dX12_works_3 rfl (by decide) rfl ha1 hF (fun x2 hx2 hF => ?_)
  refine x_sub [2, 4, 1, 0] rfl ?_
  exact WL_X12_works_5 hC 100000  a2 ha2 x1 (rg_01 hx1) x2 hx2 m hm hF
set_option maxRecDepth 20000 in
set_option maxHeartbeats 4000000 in
theorem WJ_X12_tells_98 {g : Gx} {b : Bs} {o : Mm} {Q : Int → Mm → Prop} (hC : Cok g b RX12 cX12_tells 5 3 (some .int)) (v2 : Int) (hv2 : inR v2) (v4 : Int) (hv4 : inR v4) (m : Mm) (hm : Rg m) (hF : okR (J_X12_tells_98 v2 v4 m) Q) : X g b (false, o) 5 (ZM g b (false, o) 1 Q) 98 [(2, iV v2), (4, iV v4)] [] m 0 0 := by
  unfold J_X12_tells_98 at hF
  refine x_iload hC dX12_tells_98 rfl 1 rfl ?_
  refine x_if_ge (tgt := 107) hC dX12_tells_100 rfl rfl hv4 hF (fun hq1 hF => ?_) (fun hq1 hF => ?_)
  · refine x_iload hC dX12_tells_107 rfl 1 rfl ?_
    refine x_iload_n hC dX12_tells_109 rfl 0 rfl ?_
    refine x_icmp_le (tgt := 117) hC dX12_tells_110 rfl rfl hv4 hv2 hF (fun hq2 hF => ?_) (fun hq2 hF => ?_)
    · refine x_iload hC dX12_tells_117 rfl 1 rfl ?_
      exact x_ireturn hC dX12_tells_119 hm hv4 hF
    · refine x_iload_n hC dX12_tells_113 rfl 0 rfl ?_
      refine x_goto (tgt := 119) hC dX12_tells_114 rfl ?_
      exact x_ireturn hC dX12_tells_119 hm hv2 hF
  · refine x_iconst hC dX12_tells_103 rfl ?_
    refine x_goto (tgt := 119) hC dX12_tells_104 rfl ?_
    exact x_ireturn hC dX12_tells_119 hm (rgc 0 rfl) hF
set_option maxRecDepth 20000 in
set_option maxHeartbeats 4000000 in
theorem WJ_X12_tells_120 {g : Gx} {b : Bs} {o : Mm} {Q : Int → Mm → Prop} {k_2 : Int → Int → Int → Mm → Rs} (hC : Cok g b RX12 cX12_tells 5 3 (some .int)) (hk_2 : ∀ v1 : Int, inR v1 → ∀ v2 : Int, inR v2 → ∀ v3 : Int, inR v3 → ∀ m : Mm, Rg m → okR (k_2 v1 v2 v3 m) Q → X g b (false, o) 5 (ZM g b (false, o) 1 Q) 2 [(0, .ref (b.1 + 54)), (1, iV v1), (2, iV v2), (3, iV v3)] [] m 0 0) (v1 : Int) (hv1 : inR v1) (v2 : Int) (hv2 : inR v2) (v3 : Int) (hv3 : inR v3) (m : Mm) (hm : Rg m) (hF : okR (J_X12_tells_120 k_2 v1 v2 v3 m) Q) : X g b (false, o) 5 (ZM g b (false, o) 1 Q) 120 [(0, .ref (b.1 + 54)), (1, iV v1), (2, iV v2), (3, iV v3)] [] m 0 0 := by
  unfold J_X12_tells_120 at hF
  refine x_iinc (p := 3) (lv' := [(0, .ref (b.1 + 54)), (1, iV v1), (2, iV v2)]) hC dX12_tells_120 rfl rfl (by decide) rfl hF (fun x1 hx1 hF => ?_)
  refine x_goto (tgt := 2) hC dX12_tells_123 rfl ?_
  refine x_sub [1, 2, 3, 0] rfl ?_
  exact hk_2 v1 hv1 v2 hv2 x1 hx1 m hm hF
set_option maxRecDepth 20000 in
set_option maxHeartbeats 4000000 in
theorem WL_X12_tells_2 {g : Gx} {b : Bs} {o : Mm} {Q : Int → Mm → Prop} (hC : Cok g b RX12 cX12_tells 5 3 (some .int)) : ∀ n : Nat, ∀ v1 : Int, inR v1 → ∀ v2 : Int, inR v2 → ∀ v3 : Int, inR v3 → ∀ m : Mm, Rg m → okR (L_X12_tells_2 n v1 v2 v3 m) Q → X g b (false, o) 5 (ZM g b (false, o) 1 Q) 2 [(0, .ref (b.1 + 54)), (1, iV v1), (2, iV v2), (3, iV v3)] [] m 0 0 := by
  intro n
  induction n with
  | zero => intro v1 hv1 v2 hv2 v3 hv3 m hm hF; exact absurd hF (fun z => z)
  | succ n ih =>
    intro v1 hv1 v2 hv2 v3 hv3 m hm hF
    have hF : okR (LB_X12_tells_2 (L_X12_tells_2 n) v1 v2 v3 m) Q := hF
    unfold LB_X12_tells_2 at hF
    refine x_iload_n hC dX12_tells_2 rfl 3 rfl ?_
    refine x_aload_n hC dX12_tells_3 rfl 0 rfl ?_
    refine x_getI hC dX12_tells_4 rfl flX12_274 rfl (by decide) rfl rfl ?_
    refine x_icmp_ge (tgt := 126) hC dX12_tells_7 rfl rfl hv3 (hm.i 54 14 rfl) hF (fun hq1 hF => ?_) (fun hq1 hF => ?_)
    · refine x_iconst hC dX12_tells_126 rfl ?_
      exact x_ireturn hC dX12_tells_127 hm (rgc 0 rfl) hF
    · refine x_aload_n hC dX12_tells_10 rfl 0 rfl ?_
      refine x_getR (t := 63) hC dX12_tells_11 rfl flX12_45 rfl (by decide) rfl rfl ?_
      refine x_iload_n hC dX12_tells_14 rfl 3 rfl ?_
      refine x_iald hC dX12_tells_15 rfl rfl (by decide) rfl hm hv3 hF (fun x2 hx2 hF => ?_)
      refine x_iload_n hC dX12_tells_16 rfl 1 rfl ?_
      refine x_icmp_eq (tgt := 23) hC dX12_tells_17 rfl rfl hx2 hv1 hF (fun hq3 hF => ?_) (fun hq3 hF => ?_)
      · refine x_aload_n hC dX12_tells_23 rfl 0 rfl ?_
        refine x_aload_n hC dX12_tells_24 rfl 0 rfl ?_
        refine x_getR (t := 65) hC dX12_tells_25 rfl flX12_51 rfl (by decide) rfl rfl ?_
        refine x_iload_n hC dX12_tells_28 rfl 3 rfl ?_
        refine x_iald hC dX12_tells_29 rfl rfl (by decide) rfl hm hv3 hF (fun x4 hx4 hF => ?_)
        refine x_aload_n hC dX12_tells_30 rfl 0 rfl ?_
        refine x_getR (t := 66) hC dX12_tells_31 rfl flX12_54 rfl (by decide) rfl rfl ?_
        refine x_iload_n hC dX12_tells_34 rfl 3 rfl ?_
        refine x_iald hC dX12_tells_35 rfl rfl (by decide) rfl hm hv3 hF (fun x5 hx5 hF => ?_)
        refine x_callV0 (kc2 := 0) (ks2 := 0) (k := 54) (As := [iV x4, iV x5]) (rest := []) hC dX12_tells_36 rfl hm (fun _ _ h => T_X12_works b _ m x4 hx4 x5 hx5 h) mlX12_315 vlX12_works rfl (by decide) rfl rfl (Nat.le_of_ble_eq_true rfl) (by decide) (by decide) rfl rfl hF (fun r6 m7 hr6 hm7 hF => ?_)
        refine x_aload_n hC dX12_tells_39 rfl 0 rfl ?_
        refine x_getR (t := 77) hC dX12_tells_40 rfl flX12_87 rfl (by decide) rfl rfl ?_
        refine x_iconst hC dX12_tells_43 rfl ?_
        refine x_zald hC dX12_tells_44 rfl rfl (by decide) rfl hm7 (rgc 0 rfl) hF (fun x8 hx8 hF => ?_)
        refine x_if_ne (tgt := 120) hC dX12_tells_45 rfl rfl (rg_01 hx8) hF (fun hq9 hF => ?_) (fun hq9 hF => ?_)
        · exact WJ_X12_tells_120 hC ih  v1 hv1 v2 hv2 v3 hv3 m7 hm7 hF
        · refine x_aload_n hC dX12_tells_48 rfl 0 rfl ?_
          refine x_getR (t := 76) hC dX12_tells_49 rfl flX12_84 rfl (by decide) rfl rfl ?_
          refine x_iconst hC dX12_tells_52 rfl ?_
          refine x_iald hC dX12_tells_53 rfl rfl (by decide) rfl hm7 (rgc 0 rfl) hF (fun x10 hx10 hF => ?_)
          refine x_iconst hC dX12_tells_54 rfl ?_
          refine x_icmp_eq (tgt := 61) hC dX12_tells_55 rfl rfl hx10 (rgc 1 rfl) hF (fun hq11 hF => ?_) (fun hq11 hF => ?_)
          · refine x_aload_n hC dX12_tells_61 rfl 0 rfl ?_
            refine x_aload_n hC dX12_tells_62 rfl 0 rfl ?_
            refine x_getR (t := 64) hC dX12_tells_63 rfl flX12_48 rfl (by decide) rfl rfl ?_
            refine x_iload_n hC dX12_tells_66 rfl 3 rfl ?_
            refine x_iald hC dX12_tells_67 rfl rfl (by decide) rfl hm7 hv3 hF (fun x12 hx12 hF => ?_)
            refine x_aload_n hC dX12_tells_68 rfl 0 rfl ?_
            refine x_getR (t := 65) hC dX12_tells_69 rfl flX12_51 rfl (by decide) rfl rfl ?_
            refine x_iload_n hC dX12_tells_72 rfl 3 rfl ?_
            refine x_iald hC dX12_tells_73 rfl rfl (by decide) rfl hm7 hv3 hF (fun x13 hx13 hF => ?_)
            refine x_callV0 (kc2 := 0) (ks2 := 0) (k := 54) (As := [iV x12, iV x13]) (rest := []) hC dX12_tells_74 rfl hm7 (fun _ _ h => T_X12_works b _ m7 x12 hx12 x13 hx13 h) mlX12_315 vlX12_works rfl (by decide) rfl rfl (Nat.le_of_ble_eq_true rfl) (by decide) (by decide) rfl rfl hF (fun r14 m15 hr14 hm15 hF => ?_)
            refine x_aload_n hC dX12_tells_77 rfl 0 rfl ?_
            refine x_getR (t := 77) hC dX12_tells_78 rfl flX12_87 rfl (by decide) rfl rfl ?_
            refine x_iconst hC dX12_tells_81 rfl ?_
            refine x_zald hC dX12_tells_82 rfl rfl (by decide) rfl hm15 (rgc 0 rfl) hF (fun x16 hx16 hF => ?_)
            refine x_if_eq (tgt := 90) hC dX12_tells_83 rfl rfl (rg_01 hx16) hF (fun hq17 hF => ?_) (fun hq17 hF => ?_)
            · refine x_aload_n hC dX12_tells_90 rfl 0 rfl ?_
              refine x_getR (t := 76) hC dX12_tells_91 rfl flX12_84 rfl (by decide) rfl rfl ?_
              refine x_iconst hC dX12_tells_94 rfl ?_
              refine x_iald hC dX12_tells_95 rfl rfl (by decide) rfl hm15 (rgc 0 rfl) hF (fun x18 hx18 hF => ?_)
              refine x_istore (lv' := [(0, .ref (b.1 + 54)), (1, iV v1), (2, iV v2), (3, iV v3)]) hC dX12_tells_96 rfl (by decide) rfl hx18 hF (fun x19 hx19 hF => ?_)
              refine x_sub [3, 0] rfl ?_
              exact WJ_X12_tells_98 hC  v2 hv2 x19 hx19 m15 hm15 hF
            · refine x_iconst hC dX12_tells_86 rfl ?_
              refine x_goto (tgt := 96) hC dX12_tells_87 rfl ?_
              refine x_istoreZ (lv' := [(0, .ref (b.1 + 54)), (1, iV v1), (2, iV v2), (3, iV v3)]) hC dX12_tells_96 rfl (by decide) rfl (Or.inl rfl) hF (fun x20 hx20 hF => ?_)
              refine x_sub [3, 0] rfl ?_
              exact WJ_X12_tells_98 hC  v2 hv2 x20 (rg_01 hx20) m15 hm15 hF
          · refine x_goto (tgt := 120) hC dX12_tells_58 rfl ?_
            exact WJ_X12_tells_120 hC ih  v1 hv1 v2 hv2 v3 hv3 m7 hm7 hF
      · refine x_goto (tgt := 120) hC dX12_tells_20 rfl ?_
        exact WJ_X12_tells_120 hC ih  v1 hv1 v2 hv2 v3 hv3 m hm hF
set_option maxRecDepth 20000 in
set_option maxHeartbeats 4000000 in
theorem T_X12_tells (b : Bs) (o : Mm) (m : Mm) (a1 : Int) (ha1 : inR a1) (a2 : Int) (ha2 : inR a2) {r : Int} {m' : Mm} (h : F_X12_tells a1 a2 m = some (r, m')) : Cn yX12_tells cX12_tells 5 (some .int) (3) 0 0 1 b (false, o) m [.ref (b.1 + 54), iV a1, iV a2] (F_X12_tells a1 a2 m) := by
  refine Cn_of rfl (Nat.le_of_ble_eq_true rfl) (fun g hC hm => ?_)
  have hF := okR_some h
  generalize hQ : (fun (r : Int) (m' : Mm) => F_X12_tells a1 a2 m = some (r, m')) = Q at hF ⊢
  clear hQ h
  replace hC : Cok g b RX12 cX12_tells 5 3 (some .int) := hC
  refine x_lv (lv' := [(0, .ref (b.1 + 54)), (1, iV a1), (2, iV a2)]) rfl ?_
  unfold F_X12_tells at hF
  refine x_iconst hC dX12_tells_0 rfl ?_
  refine x_istore_nZ (lv' := [(0, .ref (b.1 + 54)), (1, iV a1), (2, iV a2)]) hC dX12_tells_1 rfl rfl (by decide) rfl (Or.inl rfl) hF (fun x1 hx1 hF => ?_)
  refine x_sub [1, 2, 3, 0] rfl ?_
  exact WL_X12_tells_2 hC 100000  a1 ha1 a2 ha2 x1 (rg_01 hx1) m hm hF
set_option maxRecDepth 20000 in
set_option maxHeartbeats 4000000 in
theorem T_X12_means (b : Bs) (o : Mm) (m : Mm) (a1 : Int) (ha1 : inR a1) (a2 : Int) (ha2 : inR a2) (a3 : Int) (ha3 : inR a3) (a4 : Int) (ha4 : inR a4) (a5 : Int) (ha5 : inR a5) (a6 : Int) (ha6 : inR a6) {r : Int} {m' : Mm} (h : F_X12_means a1 a2 a3 a4 a5 a6 m = some (r, m')) : Cn yX12_means cX12_means 7 (some .int) (4) 0 0 1 b (false, o) m [.ref (b.1 + 54), iV a1, iV a2, iV a3, iV a4, iV a5, iV a6] (F_X12_means a1 a2 a3 a4 a5 a6 m) := by
  refine Cn_of rfl (Nat.le_of_ble_eq_true rfl) (fun g hC hm => ?_)
  have hF := okR_some h
  generalize hQ : (fun (r : Int) (m' : Mm) => F_X12_means a1 a2 a3 a4 a5 a6 m = some (r, m')) = Q at hF ⊢
  clear hQ h
  replace hC : Cok g b RX12 cX12_means 7 4 (some .int) := hC
  refine x_lv (lv' := [(0, .ref (b.1 + 54)), (1, iV a1), (2, iV a2), (3, iV a3), (4, iV a4), (5, iV a5), (6, iV a6)]) rfl ?_
  unfold F_X12_means at hF
  refine x_aload_n hC dX12_means_0 rfl 0 rfl ?_
  refine x_iload_n hC dX12_means_1 rfl 1 rfl ?_
  refine x_putI hC dX12_means_2 rfl fpX12_292 rfl (by decide) (by decide) rfl rfl hm ha1 rfl hF (fun m1 hm1 hF => ?_)
  refine x_aload_n hC dX12_means_5 rfl 0 rfl ?_
  refine x_iload_n hC dX12_means_6 rfl 2 rfl ?_
  refine x_putI hC dX12_means_7 rfl fpX12_277 rfl (by decide) (by decide) rfl rfl hm1 ha2 rfl hF (fun m2 hm2 hF => ?_)
  refine x_aload_n hC dX12_means_10 rfl 0 rfl ?_
  refine x_iload_n hC dX12_means_11 rfl 3 rfl ?_
  refine x_putI hC dX12_means_12 rfl fpX12_280 rfl (by decide) (by decide) rfl rfl hm2 ha3 rfl hF (fun m3 hm3 hF => ?_)
  refine x_aload_n hC dX12_means_15 rfl 0 rfl ?_
  refine x_iload hC dX12_means_16 rfl 4 rfl ?_
  refine x_putI hC dX12_means_18 rfl fpX12_283 rfl (by decide) (by decide) rfl rfl hm3 ha4 rfl hF (fun m4 hm4 hF => ?_)
  refine x_aload_n hC dX12_means_21 rfl 0 rfl ?_
  refine x_iload hC dX12_means_22 rfl 5 rfl ?_
  refine x_putI hC dX12_means_24 rfl fpX12_286 rfl (by decide) (by decide) rfl rfl hm4 ha5 rfl hF (fun m5 hm5 hF => ?_)
  refine x_aload_n hC dX12_means_27 rfl 0 rfl ?_
  refine x_iload hC dX12_means_28 rfl 6 rfl ?_
  refine x_putI hC dX12_means_30 rfl fpX12_289 rfl (by decide) (by decide) rfl rfl hm5 ha6 rfl hF (fun m6 hm6 hF => ?_)
  refine x_aload_n hC dX12_means_33 rfl 0 rfl ?_
  refine x_iconst hC dX12_means_34 rfl ?_
  refine x_putI hC dX12_means_35 rfl fpX12_295 rfl (by decide) (by decide) rfl rfl hm6 (rgc 0 rfl) rfl hF (fun m7 hm7 hF => ?_)
  refine x_aload_n hC dX12_means_38 rfl 0 rfl ?_
  refine x_iconst hC dX12_means_39 rfl ?_
  refine x_putI hC dX12_means_40 rfl fpX12_298 rfl (by decide) (by decide) rfl rfl hm7 (rgc 0 rfl) rfl hF (fun m8 hm8 hF => ?_)
  refine x_aload_n hC dX12_means_43 rfl 0 rfl ?_
  refine x_iconst hC dX12_means_44 rfl ?_
  refine x_putI hC dX12_means_45 rfl fpX12_301 rfl (by decide) (by decide) rfl rfl hm8 (rgc 0 rfl) rfl hF (fun m9 hm9 hF => ?_)
  refine x_aload_n hC dX12_means_48 rfl 0 rfl ?_
  refine x_bipush hC dX12_means_49 rfl rfl ?_
  refine x_bipush hC dX12_means_51 rfl rfl ?_
  refine x_callV1 (kc2 := 0) (ks2 := 0) (k := 54) (As := [iV 109, iV 31]) (rest := []) hC dX12_means_53 rfl hm9 (fun _ _ h => T_X12_tells b _ m9 109 (rgc 109 rfl) 31 (rgc 31 rfl) h) mlX12_318 vlX12_tells rfl (by decide) rfl rfl (Nat.le_of_ble_eq_true rfl) (by decide) (by decide) rfl rfl hF (fun r10 m11 hr10 hm11 hF => ?_)
  exact x_ireturn hC dX12_means_56 hm11 hr10 hF
set_option maxRecDepth 20000 in
set_option maxHeartbeats 4000000 in
theorem WL_X12_sentence_69 {g : Gx} {b : Bs} {o : Mm} {Q : Int → Mm → Prop} (hC : Cok g b RX12 cX12_sentence 4 2 (some .int)) : ∀ n : Nat, ∀ v1 : Int, inR v1 → ∀ v2 : Int, inR v2 → ∀ v3 : Int, inR v3 → ∀ m : Mm, Rg m → okR (L_X12_sentence_69 n v1 v2 v3 m) Q → X g b (false, o) 4 (ZM g b (false, o) 1 Q) 69 [(0, .ref (b.1 + 54)), (1, iV v1), (2, iV v2), (3, iV v3)] [] m 0 0 := by
  intro n
  induction n with
  | zero => intro v1 hv1 v2 hv2 v3 hv3 m hm hF; exact absurd hF (fun z => z)
  | succ n ih =>
    intro v1 hv1 v2 hv2 v3 hv3 m hm hF
    have hF : okR (LB_X12_sentence_69 (L_X12_sentence_69 n) v1 v2 v3 m) Q := hF
    unfold LB_X12_sentence_69 at hF
    refine x_iload_n hC dX12_sentence_69 rfl 3 rfl ?_
    refine x_iload_n hC dX12_sentence_70 rfl 2 rfl ?_
    refine x_icmp_ge (tgt := 95) hC dX12_sentence_71 rfl rfl hv3 hv2 hF (fun hq1 hF => ?_) (fun hq1 hF => ?_)
    · refine x_aload_n hC dX12_sentence_95 rfl 0 rfl ?_
      refine x_getR (t := 59) hC dX12_sentence_96 rfl flX12_33 rfl (by decide) rfl rfl ?_
      refine x_iload_n hC dX12_sentence_99 rfl 1 rfl ?_
      refine x_iload_n hC dX12_sentence_100 rfl 2 rfl ?_
      refine x_iast hC dX12_sentence_101 rfl rfl (by decide) rfl hm hv1 hv2 hF (fun m2 hm2 hF => ?_)
      refine x_iload_n hC dX12_sentence_102 rfl 2 rfl ?_
      exact x_ireturn hC dX12_sentence_103 hm2 hv2 hF
    · refine x_aload_n hC dX12_sentence_74 rfl 0 rfl ?_
      refine x_getR (t := 60) hC dX12_sentence_75 rfl flX12_36 rfl (by decide) rfl rfl ?_
      refine x_iconst hC dX12_sentence_78 rfl ?_
      refine x_iload_n hC dX12_sentence_79 rfl 1 rfl ?_
      refine x_imul hC dX12_sentence_80 rfl ?_
      refine x_iload_n hC dX12_sentence_81 rfl 3 rfl ?_
      refine x_iadd hC dX12_sentence_82 rfl ?_
      refine x_aload_n hC dX12_sentence_83 rfl 0 rfl ?_
      refine x_iload_n hC dX12_sentence_84 rfl 3 rfl ?_
      refine x_callV1 (kc2 := 0) (ks2 := 0) (k := 54) (As := [iV v3]) (rest := [iV (wr ((wr (4 * v1)) + v3)), .ref (b.1 + 60)]) hC dX12_sentence_85 rfl hm (fun _ _ h => T_X12_byteAt b _ m v3 hv3 h) mlX12_327 vlX12_byteAt rfl (by decide) rfl rfl (Nat.le_of_ble_eq_true rfl) (by decide) (by decide) rfl rfl hF (fun r3 m4 hr3 hm4 hF => ?_)
      refine x_iast hC dX12_sentence_88 rfl rfl (by decide) rfl hm4 (rg_wr _) hr3 hF (fun m5 hm5 hF => ?_)
      refine x_iinc (p := 3) (lv' := [(0, .ref (b.1 + 54)), (1, iV v1), (2, iV v2)]) hC dX12_sentence_89 rfl rfl (by decide) rfl hF (fun x6 hx6 hF => ?_)
      refine x_goto (tgt := 69) hC dX12_sentence_92 rfl ?_
      refine x_sub [1, 2, 3, 0] rfl ?_
      exact ih v1 hv1 v2 hv2 x6 hx6 m5 hm5 hF
set_option maxRecDepth 20000 in
set_option maxHeartbeats 4000000 in
theorem WL_X12_sentence_37 {g : Gx} {b : Bs} {o : Mm} {Q : Int → Mm → Prop} (hC : Cok g b RX12 cX12_sentence 4 2 (some .int)) : ∀ n : Nat, ∀ v1 : Int, inR v1 → ∀ v2 : Int, inR v2 → ∀ v3 : Int, inR v3 → ∀ m : Mm, Rg m → okR (L_X12_sentence_37 n v1 v2 v3 m) Q → X g b (false, o) 4 (ZM g b (false, o) 1 Q) 37 [(0, .ref (b.1 + 54)), (1, iV v1), (2, iV v2), (3, iV v3)] [] m 0 0 := by
  intro n
  induction n with
  | zero => intro v1 hv1 v2 hv2 v3 hv3 m hm hF; exact absurd hF (fun z => z)
  | succ n ih =>
    intro v1 hv1 v2 hv2 v3 hv3 m hm hF
    have hF : okR (LB_X12_sentence_37 (L_X12_sentence_37 n) v1 v2 v3 m) Q := hF
    unfold LB_X12_sentence_37 at hF
    refine x_iload_n hC dX12_sentence_37 rfl 3 rfl ?_
    refine x_iload_n hC dX12_sentence_38 rfl 2 rfl ?_
    refine x_icmp_ge (tgt := 67) hC dX12_sentence_39 rfl rfl hv3 hv2 hF (fun hq1 hF => ?_) (fun hq1 hF => ?_)
    · refine x_iconst hC dX12_sentence_67 rfl ?_
      refine x_istore_nZ (lv' := [(0, .ref (b.1 + 54)), (1, iV v1), (2, iV v2)]) hC dX12_sentence_68 rfl rfl (by decide) rfl (Or.inl rfl) hF (fun x2 hx2 hF => ?_)
      refine x_sub [1, 2, 3, 0] rfl ?_
      exact WL_X12_sentence_69 hC 100000  v1 hv1 v2 hv2 x2 (rg_01 hx2) m hm hF
    · refine x_aload_n hC dX12_sentence_42 rfl 0 rfl ?_
      refine x_iload_n hC dX12_sentence_43 rfl 3 rfl ?_
      refine x_callV1 (kc2 := 0) (ks2 := 0) (k := 54) (As := [iV v3]) (rest := []) hC dX12_sentence_44 rfl hm (fun _ _ h => T_X12_byteAt b _ m v3 hv3 h) mlX12_327 vlX12_byteAt rfl (by decide) rfl rfl (Nat.le_of_ble_eq_true rfl) (by decide) (by decide) rfl rfl hF (fun r3 m4 hr3 hm4 hF => ?_)
      refine x_i2l hC dX12_sentence_47 rfl hr3 ?_
      refine x_lconst (x := 1) hC dX12_sentence_48 rfl rfl ?_
      refine x_ldc2 (x := 31) hC dX12_sentence_49 rfl kwX12_330 ?_
      refine x_callS3 (kc2 := 0) (ks2 := 0) (As := [lV r3, lV 1, lV 31]) (rest := []) hC dX12_sentence_52 rfl hm4 (fun _ _ h => T_X12_lies b _ m4 r3 (rg_RL hr3) 1 (rgcL 1 rfl) 31 (rgcL 31 rfl) h) mlX12_147 vsX12_lies rfl rfl (Nat.le_of_ble_eq_true rfl) (by decide) (by decide) rfl rfl hF (fun r5 m6 hr5 hm6 hF => ?_)
      refine x_if_ne (tgt := 61) hC dX12_sentence_55 rfl rfl (rg_01 hr5) hF (fun hq7 hF => ?_) (fun hq7 hF => ?_)
      · refine x_iinc (p := 3) (lv' := [(0, .ref (b.1 + 54)), (1, iV v1), (2, iV v2)]) hC dX12_sentence_61 rfl rfl (by decide) rfl hF (fun x8 hx8 hF => ?_)
        refine x_goto (tgt := 37) hC dX12_sentence_64 rfl ?_
        refine x_sub [1, 2, 3, 0] rfl ?_
        exact ih v1 hv1 v2 hv2 x8 hx8 m6 hm6 hF
      · refine x_bipush hC dX12_sentence_58 rfl rfl ?_
        exact x_ireturn hC dX12_sentence_60 hm6 (rgc (-2) rfl) hF
set_option maxRecDepth 20000 in
set_option maxHeartbeats 4000000 in
theorem T_X12_sentence (b : Bs) (o : Mm) (m : Mm) (a1 : Int) (ha1 : inR a1) (a2 : Int) (ha2 : inR a2) {r : Int} {m' : Mm} (h : F_X12_sentence a1 a2 m = some (r, m')) : Cn yX12_sentence cX12_sentence 4 (some .int) (2) 0 0 1 b (false, o) m [.ref (b.1 + 54), iV a1, iV a2] (F_X12_sentence a1 a2 m) := by
  refine Cn_of rfl (Nat.le_of_ble_eq_true rfl) (fun g hC hm => ?_)
  have hF := okR_some h
  generalize hQ : (fun (r : Int) (m' : Mm) => F_X12_sentence a1 a2 m = some (r, m')) = Q at hF ⊢
  clear hQ h
  replace hC : Cok g b RX12 cX12_sentence 4 2 (some .int) := hC
  refine x_lv (lv' := [(0, .ref (b.1 + 54)), (1, iV a1), (2, iV a2)]) rfl ?_
  unfold F_X12_sentence at hF
  refine x_aload_n hC dX12_sentence_0 rfl 0 rfl ?_
  refine x_iload_n hC dX12_sentence_1 rfl 1 rfl ?_
  refine x_callV3 (kc2 := 0) (ks2 := 0) (k := 54) (As := [iV a1]) (rest := []) hC dX12_sentence_2 rfl hm (fun _ _ h => T_X12_isMouth b _ m a1 ha1 h) mlX12_322 vlX12_isMouth rfl (by decide) rfl rfl (Nat.le_of_ble_eq_true rfl) (by decide) (by decide) rfl rfl hF (fun r1 m2 hr1 hm2 hF => ?_)
  refine x_if_eq (tgt := 28) hC dX12_sentence_5 rfl rfl (rg_01 hr1) hF (fun hq3 hF => ?_) (fun hq3 hF => ?_)
  · refine x_iconst hC dX12_sentence_28 rfl ?_
    exact x_ireturn hC dX12_sentence_29 hm2 (rgc (-1) rfl) hF
  · refine x_iload_n hC dX12_sentence_8 rfl 2 rfl ?_
    refine x_i2l hC dX12_sentence_9 rfl ha2 ?_
    refine x_lconst (x := 0) hC dX12_sentence_10 rfl rfl ?_
    refine x_ldc2 (x := 4) hC dX12_sentence_11 rfl kwX12_325 ?_
    refine x_callS3 (kc2 := 0) (ks2 := 0) (As := [lV a2, lV 0, lV 4]) (rest := []) hC dX12_sentence_14 rfl hm2 (fun _ _ h => T_X12_lies b _ m2 a2 (rg_RL ha2) 0 (rgcL 0 rfl) 4 (rgcL 4 rfl) h) mlX12_147 vsX12_lies rfl rfl (Nat.le_of_ble_eq_true rfl) (by decide) (by decide) rfl rfl hF (fun r4 m5 hr4 hm5 hF => ?_)
    refine x_if_eq (tgt := 28) hC dX12_sentence_17 rfl rfl (rg_01 hr4) hF (fun hq6 hF => ?_) (fun hq6 hF => ?_)
    · refine x_iconst hC dX12_sentence_28 rfl ?_
      exact x_ireturn hC dX12_sentence_29 hm5 (rgc (-1) rfl) hF
    · refine x_iload_n hC dX12_sentence_20 rfl 2 rfl ?_
      refine x_aload_n hC dX12_sentence_21 rfl 0 rfl ?_
      refine x_getI hC dX12_sentence_22 rfl flX12_161 rfl (by decide) rfl rfl ?_
      refine x_icmp_le (tgt := 30) hC dX12_sentence_25 rfl rfl ha2 (hm5.i 54 1 rfl) hF (fun hq7 hF => ?_) (fun hq7 hF => ?_)
      · refine x_aload_n hC dX12_sentence_30 rfl 0 rfl ?_
        refine x_iconst hC dX12_sentence_31 rfl ?_
        refine x_putI hC dX12_sentence_32 rfl fpX12_161 rfl (by decide) (by decide) rfl rfl hm5 (rgc 0 rfl) rfl hF (fun m8 hm8 hF => ?_)
        refine x_iconst hC dX12_sentence_35 rfl ?_
        refine x_istore_nZ (lv' := [(0, .ref (b.1 + 54)), (1, iV a1), (2, iV a2)]) hC dX12_sentence_36 rfl rfl (by decide) rfl (Or.inl rfl) hF (fun x9 hx9 hF => ?_)
        refine x_sub [1, 2, 3, 0] rfl ?_
        exact WL_X12_sentence_37 hC 100000  a1 ha1 a2 ha2 x9 (rg_01 hx9) m8 hm8 hF
      · refine x_iconst hC dX12_sentence_28 rfl ?_
        exact x_ireturn hC dX12_sentence_29 hm5 (rgc (-1) rfl) hF
set_option maxRecDepth 20000 in
set_option maxHeartbeats 4000000 in
theorem WJ_X12_say_42 {g : Gx} {b : Bs} {o : Mm} {Q : Int → Mm → Prop} (hC : Cok g b RX12 cX12_say 3 2 (some .int)) (v1 : Int) (hv1 : inR v1) (v2 : Int) (hv2 : inR v2) (m : Mm) (hm : Rg m) (hF : okR (J_X12_say_42 v1 v2 m) Q) : X g b (false, o) 3 (ZM g b (false, o) 1 Q) 42 [(0, .ref (b.1 + 54)), (1, iV v1), (2, iV v2)] [] m 0 0 := by
  unfold J_X12_say_42 at hF
  refine x_aload_n hC dX12_say_42 rfl 0 rfl ?_
  refine x_getI hC dX12_say_43 rfl flX12_332 rfl (by decide) rfl rfl ?_
  refine x_sipush hC dX12_say_46 rfl rfl ?_
  refine x_icmp_ne (tgt := 54) hC dX12_say_49 rfl rfl (hm.i 54 5 rfl) (rgc 150 rfl) hF (fun hq1 hF => ?_) (fun hq1 hF => ?_)
  · refine x_aload_n hC dX12_say_54 rfl 0 rfl ?_
    refine x_getR (t := 61) hC dX12_say_55 rfl flX12_39 rfl (by decide) rfl rfl ?_
    refine x_aload_n hC dX12_say_58 rfl 0 rfl ?_
    refine x_getI hC dX12_say_59 rfl flX12_332 rfl (by decide) rfl rfl ?_
    refine x_iload_n hC dX12_say_62 rfl 1 rfl ?_
    refine x_iast hC dX12_say_63 rfl rfl (by decide) rfl hm (hm.i 54 5 rfl) hv1 hF (fun m2 hm2 hF => ?_)
    refine x_aload_n hC dX12_say_64 rfl 0 rfl ?_
    refine x_getR (t := 62) hC dX12_say_65 rfl flX12_42 rfl (by decide) rfl rfl ?_
    refine x_aload_n hC dX12_say_68 rfl 0 rfl ?_
    refine x_getI hC dX12_say_69 rfl flX12_332 rfl (by decide) rfl rfl ?_
    refine x_iload_n hC dX12_say_72 rfl 2 rfl ?_
    refine x_iast hC dX12_say_73 rfl rfl (by decide) rfl hm2 (hm2.i 54 5 rfl) hv2 hF (fun m3 hm3 hF => ?_)
    refine x_aload_n hC dX12_say_74 rfl 0 rfl ?_
    refine x_dup hC dX12_say_75 rfl rfl ?_
    refine x_getI hC dX12_say_76 rfl flX12_332 rfl (by decide) rfl rfl ?_
    refine x_iconst hC dX12_say_79 rfl ?_
    refine x_iadd hC dX12_say_80 rfl ?_
    refine x_putI hC dX12_say_81 rfl fpX12_332 rfl (by decide) (by decide) rfl rfl hm3 (rg_wr _) rfl hF (fun m4 hm4 hF => ?_)
    refine x_aload_n hC dX12_say_84 rfl 0 rfl ?_
    refine x_getI hC dX12_say_85 rfl flX12_332 rfl (by decide) rfl rfl ?_
    exact x_ireturn hC dX12_say_88 hm4 (hm4.i 54 5 rfl) hF
  · refine x_iconst hC dX12_say_52 rfl ?_
    exact x_ireturn hC dX12_say_53 hm (rgc (-1) rfl) hF
set_option maxRecDepth 20000 in
set_option maxHeartbeats 4000000 in
theorem T_X12_say (b : Bs) (o : Mm) (m : Mm) (a1 : Int) (ha1 : inR a1) (a2 : Int) (ha2 : inR a2) {r : Int} {m' : Mm} (h : F_X12_say a1 a2 m = some (r, m')) : Cn yX12_say cX12_say 3 (some .int) (2) 0 0 1 b (false, o) m [.ref (b.1 + 54), iV a1, iV a2] (F_X12_say a1 a2 m) := by
  refine Cn_of rfl (Nat.le_of_ble_eq_true rfl) (fun g hC hm => ?_)
  have hF := okR_some h
  generalize hQ : (fun (r : Int) (m' : Mm) => F_X12_say a1 a2 m = some (r, m')) = Q at hF ⊢
  clear hQ h
  replace hC : Cok g b RX12 cX12_say 3 2 (some .int) := hC
  refine x_lv (lv' := [(0, .ref (b.1 + 54)), (1, iV a1), (2, iV a2)]) rfl ?_
  unfold F_X12_say at hF
  refine x_aload_n hC dX12_say_0 rfl 0 rfl ?_
  refine x_iload_n hC dX12_say_1 rfl 1 rfl ?_
  refine x_callV3 (kc2 := 0) (ks2 := 0) (k := 54) (As := [iV a1]) (rest := []) hC dX12_say_2 rfl hm (fun _ _ h => T_X12_isMouth b _ m a1 ha1 h) mlX12_322 vlX12_isMouth rfl (by decide) rfl rfl (Nat.le_of_ble_eq_true rfl) (by decide) (by decide) rfl rfl hF (fun r1 m2 hr1 hm2 hF => ?_)
  refine x_if_eq (tgt := 52) hC dX12_say_5 rfl rfl (rg_01 hr1) hF (fun hq3 hF => ?_) (fun hq3 hF => ?_)
  · refine x_iconst hC dX12_say_52 rfl ?_
    exact x_ireturn hC dX12_say_53 hm2 (rgc (-1) rfl) hF
  · refine x_iload_n hC dX12_say_8 rfl 2 rfl ?_
    refine x_i2l hC dX12_say_9 rfl ha2 ?_
    refine x_aload_n hC dX12_say_10 rfl 0 rfl ?_
    refine x_getI hC dX12_say_11 rfl flX12_332 rfl (by decide) rfl rfl ?_
    refine x_if_ne (tgt := 21) hC dX12_say_14 rfl rfl (hm2.i 54 5 rfl) hF (fun hq4 hF => ?_) (fun hq4 hF => ?_)
    · refine x_aload_n hC dX12_say_21 rfl 0 rfl ?_
      refine x_getR (t := 62) hC dX12_say_22 rfl flX12_42 rfl (by decide) rfl rfl ?_
      refine x_aload_n hC dX12_say_25 rfl 0 rfl ?_
      refine x_getI hC dX12_say_26 rfl flX12_332 rfl (by decide) rfl rfl ?_
      refine x_iconst hC dX12_say_29 rfl ?_
      refine x_isub hC dX12_say_30 rfl ?_
      refine x_iald hC dX12_say_31 rfl rfl (by decide) rfl hm2 (rg_wr _) hF (fun x5 hx5 hF => ?_)
      refine x_i2l hC dX12_say_32 rfl hx5 ?_
      refine x_ldc2 (x := 9999) hC dX12_say_33 rfl kwX12_335 ?_
      refine x_callS3 (kc2 := 0) (ks2 := 0) (As := [lV a2, lV x5, lV 9999]) (rest := []) hC dX12_say_36 rfl hm2 (fun _ _ h => T_X12_lies b _ m2 a2 (rg_RL ha2) x5 (rg_RL hx5) 9999 (rgcL 9999 rfl) h) mlX12_147 vsX12_lies rfl rfl (Nat.le_of_ble_eq_true rfl) (by decide) (by decide) rfl rfl hF (fun r6 m7 hr6 hm7 hF => ?_)
      refine x_if_eq (tgt := 52) hC dX12_say_39 rfl rfl (rg_01 hr6) hF (fun hq8 hF => ?_) (fun hq8 hF => ?_)
      · refine x_iconst hC dX12_say_52 rfl ?_
        exact x_ireturn hC dX12_say_53 hm7 (rgc (-1) rfl) hF
      · exact WJ_X12_say_42 hC  a1 ha1 a2 ha2 m7 hm7 hF
    · refine x_lconst (x := 0) hC dX12_say_17 rfl rfl ?_
      refine x_goto (tgt := 33) hC dX12_say_18 rfl ?_
      refine x_ldc2 (x := 9999) hC dX12_say_33 rfl kwX12_335 ?_
      refine x_callS3 (kc2 := 0) (ks2 := 0) (As := [lV a2, lV 0, lV 9999]) (rest := []) hC dX12_say_36 rfl hm2 (fun _ _ h => T_X12_lies b _ m2 a2 (rg_RL ha2) 0 (rgcL 0 rfl) 9999 (rgcL 9999 rfl) h) mlX12_147 vsX12_lies rfl rfl (Nat.le_of_ble_eq_true rfl) (by decide) (by decide) rfl rfl hF (fun r9 m10 hr9 hm10 hF => ?_)
      refine x_if_eq (tgt := 52) hC dX12_say_39 rfl rfl (rg_01 hr9) hF (fun hq11 hF => ?_) (fun hq11 hF => ?_)
      · refine x_iconst hC dX12_say_52 rfl ?_
        exact x_ireturn hC dX12_say_53 hm10 (rgc (-1) rfl) hF
      · exact WJ_X12_say_42 hC  a1 ha1 a2 ha2 m10 hm10 hF
set_option maxRecDepth 20000 in
set_option maxHeartbeats 4000000 in
theorem T_X12_size (b : Bs) (o : Mm) (m : Mm) (a1 : Int) (ha1 : inR a1) {r : Int} {m' : Mm} (h : F_X12_size a1 m = some (r, m')) : Cn yX12_size cX12_size 1 (some .int) (0) 0 0 1 b (false, o) m [iV a1] (F_X12_size a1 m) := by
  refine Cn_of rfl (Nat.le_of_ble_eq_true rfl) (fun g hC hm => ?_)
  have hF := okR_some h
  generalize hQ : (fun (r : Int) (m' : Mm) => F_X12_size a1 m = some (r, m')) = Q at hF ⊢
  clear hQ h
  replace hC : Cok g b RX12 cX12_size 1 0 (some .int) := hC
  refine x_lv (lv' := [(0, iV a1)]) rfl ?_
  unfold F_X12_size at hF
  refine x_iload_n hC dX12_size_0 rfl 0 rfl ?_
  refine x_if_ge (tgt := 9) hC dX12_size_1 rfl rfl ha1 hF (fun hq1 hF => ?_) (fun hq1 hF => ?_)
  · refine x_iload_n hC dX12_size_9 rfl 0 rfl ?_
    exact x_ireturn hC dX12_size_10 hm ha1 hF
  · refine x_iload_n hC dX12_size_4 rfl 0 rfl ?_
    refine x_ineg hC dX12_size_5 rfl ?_
    refine x_goto (tgt := 10) hC dX12_size_6 rfl ?_
    exact x_ireturn hC dX12_size_10 hm (rg_wr _) hF
set_option maxRecDepth 20000 in
set_option maxHeartbeats 4000000 in
theorem T_X12_wayOf (b : Bs) (o : Mm) (m : Mm) (a1 : Int) (ha1 : inR a1) (a2 : Int) (ha2 : inR a2) {r : Int} {m' : Mm} (h : F_X12_wayOf a1 a2 m = some (r, m')) : Cn yX12_wayOf cX12_wayOf 3 (some .int) (1) 0 0 1 b (false, o) m [.ref (b.1 + 54), iV a1, iV a2] (F_X12_wayOf a1 a2 m) := by
  refine Cn_of rfl (Nat.le_of_ble_eq_true rfl) (fun g hC hm => ?_)
  have hF := okR_some h
  generalize hQ : (fun (r : Int) (m' : Mm) => F_X12_wayOf a1 a2 m = some (r, m')) = Q at hF ⊢
  clear hQ h
  replace hC : Cok g b RX12 cX12_wayOf 3 1 (some .int) := hC
  refine x_lv (lv' := [(0, .ref (b.1 + 54)), (1, iV a1), (2, iV a2)]) rfl ?_
  unfold F_X12_wayOf at hF
  refine x_aload_n hC dX12_wayOf_0 rfl 0 rfl ?_
  refine x_getR (t := 56) hC dX12_wayOf_1 rfl flX12_23 rfl (by decide) rfl rfl ?_
  refine x_iload_n hC dX12_wayOf_4 rfl 1 rfl ?_
  refine x_iald hC dX12_wayOf_5 rfl rfl (by decide) rfl hm ha1 hF (fun x1 hx1 hF => ?_)
  refine x_aload_n hC dX12_wayOf_6 rfl 0 rfl ?_
  refine x_getR (t := 56) hC dX12_wayOf_7 rfl flX12_23 rfl (by decide) rfl rfl ?_
  refine x_iload_n hC dX12_wayOf_10 rfl 2 rfl ?_
  refine x_iald hC dX12_wayOf_11 rfl rfl (by decide) rfl hm ha2 hF (fun x2 hx2 hF => ?_)
  refine x_isub hC dX12_wayOf_12 rfl ?_
  refine x_callS1 (kc2 := 0) (ks2 := 0) (As := [iV (wr (x1 - x2))]) (rest := []) hC dX12_wayOf_13 rfl hm (fun _ _ h => T_X12_size b _ m (wr (x1 - x2)) (rg_wr _) h) mlX12_337 vsX12_size rfl rfl (Nat.le_of_ble_eq_true rfl) (by decide) (by decide) rfl rfl hF (fun r3 m4 hr3 hm4 hF => ?_)
  refine x_aload_n hC dX12_wayOf_16 rfl 0 rfl ?_
  refine x_getR (t := 57) hC dX12_wayOf_17 rfl flX12_27 rfl (by decide) rfl rfl ?_
  refine x_iload_n hC dX12_wayOf_20 rfl 1 rfl ?_
  refine x_iald hC dX12_wayOf_21 rfl rfl (by decide) rfl hm4 ha1 hF (fun x5 hx5 hF => ?_)
  refine x_aload_n hC dX12_wayOf_22 rfl 0 rfl ?_
  refine x_getR (t := 57) hC dX12_wayOf_23 rfl flX12_27 rfl (by decide) rfl rfl ?_
  refine x_iload_n hC dX12_wayOf_26 rfl 2 rfl ?_
  refine x_iald hC dX12_wayOf_27 rfl rfl (by decide) rfl hm4 ha2 hF (fun x6 hx6 hF => ?_)
  refine x_isub hC dX12_wayOf_28 rfl ?_
  refine x_callS1 (kc2 := 0) (ks2 := 0) (As := [iV (wr (x5 - x6))]) (rest := [iV r3]) hC dX12_wayOf_29 rfl hm4 (fun _ _ h => T_X12_size b _ m4 (wr (x5 - x6)) (rg_wr _) h) mlX12_337 vsX12_size rfl rfl (Nat.le_of_ble_eq_true rfl) (by decide) (by decide) rfl rfl hF (fun r7 m8 hr7 hm8 hF => ?_)
  refine x_iadd hC dX12_wayOf_32 rfl ?_
  exact x_ireturn hC dX12_wayOf_33 hm8 (rg_wr _) hF
set_option maxRecDepth 20000 in
set_option maxHeartbeats 4000000 in
theorem T_X12_way (b : Bs) (o : Mm) (m : Mm) (a1 : Int) (ha1 : inR a1) (a2 : Int) (ha2 : inR a2) {r : Int} {m' : Mm} (h : F_X12_way a1 a2 m = some (r, m')) : Cn yX12_way cX12_way 3 (some .int) (2) 0 0 1 b (false, o) m [.ref (b.1 + 54), iV a1, iV a2] (F_X12_way a1 a2 m) := by
  refine Cn_of rfl (Nat.le_of_ble_eq_true rfl) (fun g hC hm => ?_)
  have hF := okR_some h
  generalize hQ : (fun (r : Int) (m' : Mm) => F_X12_way a1 a2 m = some (r, m')) = Q at hF ⊢
  clear hQ h
  replace hC : Cok g b RX12 cX12_way 3 2 (some .int) := hC
  refine x_lv (lv' := [(0, .ref (b.1 + 54)), (1, iV a1), (2, iV a2)]) rfl ?_
  unfold F_X12_way at hF
  refine x_aload_n hC dX12_way_0 rfl 0 rfl ?_
  refine x_iload_n hC dX12_way_1 rfl 1 rfl ?_
  refine x_callV3 (kc2 := 0) (ks2 := 0) (k := 54) (As := [iV a1]) (rest := []) hC dX12_way_2 rfl hm (fun _ _ h => T_X12_isMouth b _ m a1 ha1 h) mlX12_322 vlX12_isMouth rfl (by decide) rfl rfl (Nat.le_of_ble_eq_true rfl) (by decide) (by decide) rfl rfl hF (fun r1 m2 hr1 hm2 hF => ?_)
  refine x_if_eq (tgt := 25) hC dX12_way_5 rfl rfl (rg_01 hr1) hF (fun hq3 hF => ?_) (fun hq3 hF => ?_)
  · refine x_iconst hC dX12_way_25 rfl ?_
    exact x_ireturn hC dX12_way_26 hm2 (rgc (-1) rfl) hF
  · refine x_aload_n hC dX12_way_8 rfl 0 rfl ?_
    refine x_iload_n hC dX12_way_9 rfl 2 rfl ?_
    refine x_callV3 (kc2 := 0) (ks2 := 0) (k := 54) (As := [iV a2]) (rest := []) hC dX12_way_10 rfl hm2 (fun _ _ h => T_X12_isMouth b _ m2 a2 ha2 h) mlX12_322 vlX12_isMouth rfl (by decide) rfl rfl (Nat.le_of_ble_eq_true rfl) (by decide) (by decide) rfl rfl hF (fun r4 m5 hr4 hm5 hF => ?_)
    refine x_if_eq (tgt := 25) hC dX12_way_13 rfl rfl (rg_01 hr4) hF (fun hq6 hF => ?_) (fun hq6 hF => ?_)
    · refine x_iconst hC dX12_way_25 rfl ?_
      exact x_ireturn hC dX12_way_26 hm5 (rgc (-1) rfl) hF
    · refine x_aload_n hC dX12_way_16 rfl 0 rfl ?_
      refine x_iload_n hC dX12_way_17 rfl 1 rfl ?_
      refine x_iload_n hC dX12_way_18 rfl 2 rfl ?_
      refine x_callV1 (kc2 := 0) (ks2 := 0) (k := 54) (As := [iV a1, iV a2]) (rest := []) hC dX12_way_19 rfl hm5 (fun _ _ h => T_X12_wayOf b _ m5 a1 ha1 a2 ha2 h) mlX12_340 vlX12_wayOf rfl (by decide) rfl rfl (Nat.le_of_ble_eq_true rfl) (by decide) (by decide) rfl rfl hF (fun r7 m8 hr7 hm8 hF => ?_)
      refine x_goto (tgt := 26) hC dX12_way_22 rfl ?_
      exact x_ireturn hC dX12_way_26 hm8 hr7 hF
set_option maxRecDepth 20000 in
set_option maxHeartbeats 4000000 in
theorem T_X12_isNear (b : Bs) (o : Mm) (m : Mm) (a1 : Int) (ha1 : inR a1) (a2 : Int) (ha2 : inR a2) {r : Int} {m' : Mm} (h : F_X12_isNear a1 a2 m = some (r, m')) : Cn yX12_isNear cX12_isNear 3 (some .boolean) (2) 0 0 3 b (false, o) m [.ref (b.1 + 54), iV a1, iV a2] (F_X12_isNear a1 a2 m) := by
  refine Cn_of rfl (Nat.le_of_ble_eq_true rfl) (fun g hC hm => ?_)
  have hF := okR_some h
  generalize hQ : (fun (r : Int) (m' : Mm) => F_X12_isNear a1 a2 m = some (r, m')) = Q at hF ⊢
  clear hQ h
  replace hC : Cok g b RX12 cX12_isNear 3 2 (some .boolean) := hC
  refine x_lv (lv' := [(0, .ref (b.1 + 54)), (1, iV a1), (2, iV a2)]) rfl ?_
  unfold F_X12_isNear at hF
  refine x_aload_n hC dX12_isNear_0 rfl 0 rfl ?_
  refine x_iload_n hC dX12_isNear_1 rfl 1 rfl ?_
  refine x_iload_n hC dX12_isNear_2 rfl 2 rfl ?_
  refine x_callV1 (kc2 := 0) (ks2 := 0) (k := 54) (As := [iV a1, iV a2]) (rest := []) hC dX12_isNear_3 rfl hm (fun _ _ h => T_X12_wayOf b _ m a1 ha1 a2 ha2 h) mlX12_340 vlX12_wayOf rfl (by decide) rfl rfl (Nat.le_of_ble_eq_true rfl) (by decide) (by decide) rfl rfl hF (fun r1 m2 hr1 hm2 hF => ?_)
  refine x_aload_n hC dX12_isNear_6 rfl 0 rfl ?_
  refine x_getI hC dX12_isNear_7 rfl flX12_13 rfl (by decide) rfl rfl ?_
  refine x_icmp_gt (tgt := 17) hC dX12_isNear_10 rfl rfl hr1 (hm2.i 54 3 rfl) hF (fun hq3 hF => ?_) (fun hq3 hF => ?_)
  · refine x_iconst hC dX12_isNear_17 rfl ?_
    exact x_zreturn hC dX12_isNear_18 hm2 (Or.inl rfl) hF
  · refine x_iconst hC dX12_isNear_13 rfl ?_
    refine x_goto (tgt := 18) hC dX12_isNear_14 rfl ?_
    exact x_zreturn hC dX12_isNear_18 hm2 (Or.inr rfl) hF
set_option maxRecDepth 20000 in
set_option maxHeartbeats 4000000 in
theorem T_X12_isBefore (b : Bs) (o : Mm) (m : Mm) (a1 : Int) (ha1 : inR a1) (a2 : Int) (ha2 : inR a2) (a3 : Int) (ha3 : inR a3) {r : Int} {m' : Mm} (h : F_X12_isBefore a1 a2 a3 m = some (r, m')) : Cn yX12_isBefore cX12_isBefore 6 (some .boolean) (2) 0 0 3 b (false, o) m [.ref (b.1 + 54), iV a1, iV a2, iV a3] (F_X12_isBefore a1 a2 a3 m) := by
  refine Cn_of rfl (Nat.le_of_ble_eq_true rfl) (fun g hC hm => ?_)
  have hF := okR_some h
  generalize hQ : (fun (r : Int) (m' : Mm) => F_X12_isBefore a1 a2 a3 m = some (r, m')) = Q at hF ⊢
  clear hQ h
  replace hC : Cok g b RX12 cX12_isBefore 6 2 (some .boolean) := hC
  refine x_lv (lv' := [(0, .ref (b.1 + 54)), (1, iV a1), (2, iV a2), (3, iV a3)]) rfl ?_
  unfold F_X12_isBefore at hF
  refine x_aload_n hC dX12_isBefore_0 rfl 0 rfl ?_
  refine x_iload_n hC dX12_isBefore_1 rfl 1 rfl ?_
  refine x_iload_n hC dX12_isBefore_2 rfl 2 rfl ?_
  refine x_callV1 (kc2 := 0) (ks2 := 0) (k := 54) (As := [iV a1, iV a2]) (rest := []) hC dX12_isBefore_3 rfl hm (fun _ _ h => T_X12_wayOf b _ m a1 ha1 a2 ha2 h) mlX12_340 vlX12_wayOf rfl (by decide) rfl rfl (Nat.le_of_ble_eq_true rfl) (by decide) (by decide) rfl rfl hF (fun r1 m2 hr1 hm2 hF => ?_)
  refine x_istore (lv' := [(0, .ref (b.1 + 54)), (1, iV a1), (2, iV a2), (3, iV a3)]) hC dX12_isBefore_6 rfl (by decide) rfl hr1 hF (fun x3 hx3 hF => ?_)
  refine x_aload_n hC dX12_isBefore_8 rfl 1 rfl ?_
  refine x_iload_n hC dX12_isBefore_9 rfl 2 rfl ?_
  refine x_iload_n hC dX12_isBefore_10 rfl 4 rfl ?_
  refine x_callV1 (kc2 := 0) (ks2 := 0) (k := 54) (As := [iV a1, iV a3]) (rest := []) hC dX12_isBefore_11 rfl hm2 (fun _ _ h => T_X12_wayOf b _ m2 a1 ha1 a3 ha3 h) mlX12_340 vlX12_wayOf rfl (by decide) rfl rfl (Nat.le_of_ble_eq_true rfl) (by decide) (by decide) rfl rfl hF (fun r4 m5 hr4 hm5 hF => ?_)
  refine x_istore (lv' := [(4, iV x3), (0, .ref (b.1 + 54)), (1, iV a1), (2, iV a2), (3, iV a3)]) hC dX12_isBefore_14 rfl (by decide) rfl hr4 hF (fun x6 hx6 hF => ?_)
  refine x_iload hC dX12_isBefore_16 rfl 1 rfl ?_
  refine x_iload hC dX12_isBefore_18 rfl 0 rfl ?_
  refine x_icmp_lt (tgt := 35) hC dX12_isBefore_20 rfl rfl hx3 hx6 hF (fun hq7 hF => ?_) (fun hq7 hF => ?_)
  · refine x_iconst hC dX12_isBefore_35 rfl ?_
    refine x_goto (tgt := 40) hC dX12_isBefore_36 rfl ?_
    exact x_zreturn hC dX12_isBefore_40 hm5 (Or.inr rfl) hF
  · refine x_iload hC dX12_isBefore_23 rfl 1 rfl ?_
    refine x_iload hC dX12_isBefore_25 rfl 0 rfl ?_
    refine x_icmp_ne (tgt := 39) hC dX12_isBefore_27 rfl rfl hx3 hx6 hF (fun hq8 hF => ?_) (fun hq8 hF => ?_)
    · refine x_iconst hC dX12_isBefore_39 rfl ?_
      exact x_zreturn hC dX12_isBefore_40 hm5 (Or.inl rfl) hF
    · refine x_iload_n hC dX12_isBefore_30 rfl 4 rfl ?_
      refine x_iload_n hC dX12_isBefore_31 rfl 5 rfl ?_
      refine x_icmp_ge (tgt := 39) hC dX12_isBefore_32 rfl rfl ha2 ha3 hF (fun hq9 hF => ?_) (fun hq9 hF => ?_)
      · refine x_iconst hC dX12_isBefore_39 rfl ?_
        exact x_zreturn hC dX12_isBefore_40 hm5 (Or.inl rfl) hF
      · refine x_iconst hC dX12_isBefore_35 rfl ?_
        refine x_goto (tgt := 40) hC dX12_isBefore_36 rfl ?_
        exact x_zreturn hC dX12_isBefore_40 hm5 (Or.inr rfl) hF

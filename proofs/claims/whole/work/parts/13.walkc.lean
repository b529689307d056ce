set_option maxRecDepth 20000 in
set_option maxHeartbeats 4000000 in
theorem T_X11_within (b : Bs) (o : Mm) (m : Mm) (a1 : Int) (ha1 : inR a1) (a2 : Int) (ha2 : inR a2) (a3 : Int) (ha3 : inR a3) {r : Int} {m' : Mm} (h : F_X11_within a1 a2 a3 m = some (r, m')) : Cn yX11_within cX11_within 3 (some .boolean) (0) 0 0 3 b (true, o) m [iV a1, iV a2, iV a3] (F_X11_within a1 a2 a3 m) := by
  refine Cn_of rfl (Nat.le_of_ble_eq_true rfl) (fun g hC hm => ?_)
  have hF := okR_some h
  generalize hQ : (fun (r : Int) (m' : Mm) => F_X11_within a1 a2 a3 m = some (r, m')) = Q at hF ⊢
  clear hQ h
  replace hC : Cok g b RX11 cX11_within 3 0 (some .boolean) := hC
  refine x_lv (lv' := [(0, iV a1), (1, iV a2), (2, iV a3)]) rfl ?_
  unfold F_X11_within at hF
  refine x_iload_n hC dX11_within_0 rfl 0 rfl ?_
  refine x_iload_n hC dX11_within_1 rfl 1 rfl ?_
  refine x_icmp_lt (tgt := 14) hC dX11_within_2 rfl rfl ha1 ha2 hF (fun hq1 hF => ?_) (fun hq1 hF => ?_)
  · refine x_iconst hC dX11_within_14 rfl ?_
    exact x_zreturn hC dX11_within_15 hm (Or.inl rfl) hF
  · refine x_iload_n hC dX11_within_5 rfl 0 rfl ?_
    refine x_iload_n hC dX11_within_6 rfl 2 rfl ?_
    refine x_icmp_gt (tgt := 14) hC dX11_within_7 rfl rfl ha1 ha3 hF (fun hq2 hF => ?_) (fun hq2 hF => ?_)
    · refine x_iconst hC dX11_within_14 rfl ?_
      exact x_zreturn hC dX11_within_15 hm (Or.inl rfl) hF
    · refine x_iconst hC dX11_within_10 rfl ?_
      refine x_goto (tgt := 15) hC dX11_within_11 rfl ?_
      exact x_zreturn hC dX11_within_15 hm (Or.inr rfl) hF
set_option maxRecDepth 20000 in
set_option maxHeartbeats 4000000 in
theorem WL_X4_takeSentence_50 {g : Gx} {b : Bs} {o : Mm} {Q : Int → Mm → Prop} (hC : Cok g b RX4 cX4_takeSentence 5 1 (some .boolean)) : ∀ n : Nat, ∀ v1 : Int, inR v1 → ∀ v3 : Int, inR v3 → ∀ v4 : Int, inR v4 → ∀ m : Mm, Rg m → okR (L_X4_takeSentence_50 n v1 v3 v4 m) Q → X g b (true, o) 5 (ZM g b (true, o) 3 Q) 50 [(0, .ref (b.1 + 1)), (1, iV v1), (2, .ref (b.1 + 7)), (3, iV v3), (4, iV v4)] [] m 0 0 := by
  intro n
  induction n with
  | zero => intro v1 hv1 v3 hv3 v4 hv4 m hm hF; exact absurd hF (fun z => z)
  | succ n ih =>
    intro v1 hv1 v3 hv3 v4 hv4 m hm hF
    have hF : okR (LB_X4_takeSentence_50 (L_X4_takeSentence_50 n) v1 v3 v4 m) Q := hF
    unfold LB_X4_takeSentence_50 at hF
    refine x_iload hC dX4_takeSentence_50 rfl 4 rfl ?_
    refine x_iload_n hC dX4_takeSentence_52 rfl 3 rfl ?_
    refine x_icmp_ge (tgt := 79) hC dX4_takeSentence_53 rfl rfl hv4 hv3 hF (fun hq1 hF => ?_) (fun hq1 hF => ?_)
    · refine x_aload_n hC dX4_takeSentence_79 rfl 0 rfl ?_
      refine x_getR (t := 5) hC dX4_takeSentence_80 rfl flX4_21 rfl (by decide) rfl rfl ?_
      refine x_iload_n hC dX4_takeSentence_83 rfl 1 rfl ?_
      refine x_iload_n hC dX4_takeSentence_84 rfl 3 rfl ?_
      refine x_iast hC dX4_takeSentence_85 rfl rfl (by decide) rfl hm hv1 hv3 hF (fun m2 hm2 hF => ?_)
      refine x_iconst hC dX4_takeSentence_86 rfl ?_
      exact x_zreturn hC dX4_takeSentence_87 hm2 (Or.inr rfl) hF
    · refine x_aload_n hC dX4_takeSentence_56 rfl 0 rfl ?_
      refine x_getR (t := 6) hC dX4_takeSentence_57 rfl flX4_24 rfl (by decide) rfl rfl ?_
      refine x_iload_n hC dX4_takeSentence_60 rfl 1 rfl ?_
      refine x_iconst hC dX4_takeSentence_61 rfl ?_
      refine x_imul hC dX4_takeSentence_62 rfl ?_
      refine x_iload hC dX4_takeSentence_63 rfl 4 rfl ?_
      refine x_iadd hC dX4_takeSentence_65 rfl ?_
      refine x_aload_n hC dX4_takeSentence_66 rfl 2 rfl ?_
      refine x_iload hC dX4_takeSentence_67 rfl 4 rfl ?_
      refine x_callV1 (kc2 := 0) (ks2 := 0) (k := 7) (As := [iV v4]) (rest := [iV (wr ((wr (v1 * 4)) + v4)), .ref (b.1 + 6)]) hC dX4_takeSentence_69 rfl hm (fun _ _ h => T_X10_byteAt b _ m v4 hv4 h) mlX4_51 vlX10_byteAt rfl (by decide) rfl rfl (Nat.le_of_ble_eq_true rfl) (by decide) (by decide) rfl rfl hF (fun r3 m4 hr3 hm4 hF => ?_)
      refine x_iast hC dX4_takeSentence_72 rfl rfl (by decide) rfl hm4 (rg_wr _) hr3 hF (fun m5 hm5 hF => ?_)
      refine x_iinc (p := 4) (lv' := [(0, .ref (b.1 + 1)), (1, iV v1), (2, .ref (b.1 + 7)), (3, iV v3)]) hC dX4_takeSentence_73 rfl rfl (by decide) rfl hF (fun x6 hx6 hF => ?_)
      refine x_goto (tgt := 50) hC dX4_takeSentence_76 rfl ?_
      refine x_sub [1, 2, 3, 4, 0] rfl ?_
      exact ih v1 hv1 v3 hv3 x6 hx6 m5 hm5 hF
set_option maxRecDepth 20000 in
set_option maxHeartbeats 4000000 in
theorem WL_X4_takeSentence_3 {g : Gx} {b : Bs} {o : Mm} {Q : Int → Mm → Prop} (hC : Cok g b RX4 cX4_takeSentence 5 1 (some .boolean)) : ∀ n : Nat, ∀ v1 : Int, inR v1 → ∀ v3 : Int, inR v3 → ∀ v4 : Int, inR v4 → ∀ m : Mm, Rg m → okR (L_X4_takeSentence_3 n v1 v3 v4 m) Q → X g b (true, o) 5 (ZM g b (true, o) 3 Q) 3 [(0, .ref (b.1 + 1)), (1, iV v1), (2, .ref (b.1 + 7)), (3, iV v3), (4, iV v4)] [] m 0 0 := by
  intro n
  induction n with
  | zero => intro v1 hv1 v3 hv3 v4 hv4 m hm hF; exact absurd hF (fun z => z)
  | succ n ih =>
    intro v1 hv1 v3 hv3 v4 hv4 m hm hF
    have hF : okR (LB_X4_takeSentence_3 (L_X4_takeSentence_3 n) v1 v3 v4 m) Q := hF
    unfold LB_X4_takeSentence_3 at hF
    refine x_iload hC dX4_takeSentence_3 rfl 4 rfl ?_
    refine x_iload_n hC dX4_takeSentence_5 rfl 3 rfl ?_
    refine x_icmp_ge (tgt := 32) hC dX4_takeSentence_6 rfl rfl hv4 hv3 hF (fun hq1 hF => ?_) (fun hq1 hF => ?_)
    · refine x_aload_n hC dX4_takeSentence_32 rfl 0 rfl ?_
      refine x_iload_n hC dX4_takeSentence_33 rfl 1 rfl ?_
      refine x_callV3 (kc2 := 0) (ks2 := 0) (k := 1) (As := [iV v1]) (rest := []) hC dX4_takeSentence_34 rfl hm (fun _ _ h => T_X4_has b _ m v1 hv1 h) mlX4_37 vlX4_has rfl (by decide) rfl rfl (Nat.le_of_ble_eq_true rfl) (by decide) (by decide) rfl rfl hF (fun r2 m3 hr2 hm3 hF => ?_)
      refine x_if_eq (tgt := 45) hC dX4_takeSentence_37 rfl rfl (rg_01 hr2) hF (fun hq4 hF => ?_) (fun hq4 hF => ?_)
      · refine x_iconst hC dX4_takeSentence_45 rfl ?_
        exact x_zreturn hC dX4_takeSentence_46 hm3 (Or.inl rfl) hF
      · refine x_iload_n hC dX4_takeSentence_40 rfl 3 rfl ?_
        refine x_iconst hC dX4_takeSentence_41 rfl ?_
        refine x_icmp_le (tgt := 47) hC dX4_takeSentence_42 rfl rfl hv3 (rgc 4 rfl) hF (fun hq5 hF => ?_) (fun hq5 hF => ?_)
        · refine x_iconst hC dX4_takeSentence_47 rfl ?_
          refine x_istoreZ (lv' := [(0, .ref (b.1 + 1)), (1, iV v1), (2, .ref (b.1 + 7)), (3, iV v3)]) hC dX4_takeSentence_48 rfl (by decide) rfl (Or.inl rfl) hF (fun x6 hx6 hF => ?_)
          refine x_sub [1, 2, 3, 4, 0] rfl ?_
          exact WL_X4_takeSentence_50 hC 100000  v1 hv1 v3 hv3 x6 (rg_01 hx6) m3 hm3 hF
        · refine x_iconst hC dX4_takeSentence_45 rfl ?_
          exact x_zreturn hC dX4_takeSentence_46 hm3 (Or.inl rfl) hF
    · refine x_aload_n hC dX4_takeSentence_9 rfl 2 rfl ?_
      refine x_iload hC dX4_takeSentence_10 rfl 4 rfl ?_
      refine x_callV1 (kc2 := 0) (ks2 := 0) (k := 7) (As := [iV v4]) (rest := []) hC dX4_takeSentence_12 rfl hm (fun _ _ h => T_X10_byteAt b _ m v4 hv4 h) mlX4_51 vlX10_byteAt rfl (by decide) rfl rfl (Nat.le_of_ble_eq_true rfl) (by decide) (by decide) rfl rfl hF (fun r7 m8 hr7 hm8 hF => ?_)
      refine x_iconst hC dX4_takeSentence_15 rfl ?_
      refine x_bipush hC dX4_takeSentence_16 rfl rfl ?_
      refine x_callSN3 (kc2 := 0) (ks2 := 0) (As := [iV r7, iV 1, iV 31]) (rest := []) hC dX4_takeSentence_18 rfl hm8 (fun _ _ h => T_X11_within b _ m8 r7 hr7 1 (rgc 1 rfl) 31 (rgc 31 rfl) h) mlX4_56 vsX11_within rfl rfl (Nat.le_of_ble_eq_true rfl) (by decide) (by decide) rfl rfl hF (fun r9 m10 hr9 hm10 hF => ?_)
      refine x_if_ne (tgt := 26) hC dX4_takeSentence_21 rfl rfl (rg_01 hr9) hF (fun hq11 hF => ?_) (fun hq11 hF => ?_)
      · refine x_iinc (p := 4) (lv' := [(0, .ref (b.1 + 1)), (1, iV v1), (2, .ref (b.1 + 7)), (3, iV v3)]) hC dX4_takeSentence_26 rfl rfl (by decide) rfl hF (fun x12 hx12 hF => ?_)
        refine x_goto (tgt := 3) hC dX4_takeSentence_29 rfl ?_
        refine x_sub [1, 2, 3, 4, 0] rfl ?_
        exact ih v1 hv1 v3 hv3 x12 hx12 m10 hm10 hF
      · refine x_iconst hC dX4_takeSentence_24 rfl ?_
        exact x_zreturn hC dX4_takeSentence_25 hm10 (Or.inl rfl) hF
set_option maxRecDepth 20000 in
set_option maxHeartbeats 4000000 in
theorem T_X4_takeSentence (b : Bs) (o : Mm) (m : Mm) (a1 : Int) (ha1 : inR a1) (a2 : Int) (ha2 : inR a2) {r : Int} {m' : Mm} (h : F_X4_takeSentence a1 a2 m = some (r, m')) : Cn yX4_takeSentence cX4_takeSentence 5 (some .boolean) (1) 0 0 3 b (true, o) m [.ref (b.1 + 1), iV a1, .ref (b.1 + 7), iV a2] (F_X4_takeSentence a1 a2 m) := by
  refine Cn_of rfl (Nat.le_of_ble_eq_true rfl) (fun g hC hm => ?_)
  have hF := okR_some h
  generalize hQ : (fun (r : Int) (m' : Mm) => F_X4_takeSentence a1 a2 m = some (r, m')) = Q at hF ⊢
  clear hQ h
  replace hC : Cok g b RX4 cX4_takeSentence 5 1 (some .boolean) := hC
  refine x_lv (lv' := [(0, .ref (b.1 + 1)), (1, iV a1), (2, .ref (b.1 + 7)), (3, iV a2)]) rfl ?_
  unfold F_X4_takeSentence at hF
  refine x_iconst hC dX4_takeSentence_0 rfl ?_
  refine x_istoreZ (lv' := [(0, .ref (b.1 + 1)), (1, iV a1), (2, .ref (b.1 + 7)), (3, iV a2)]) hC dX4_takeSentence_1 rfl (by decide) rfl (Or.inl rfl) hF (fun x1 hx1 hF => ?_)
  refine x_sub [1, 2, 3, 4, 0] rfl ?_
  exact WL_X4_takeSentence_3 hC 100000  a1 ha1 a2 ha2 x1 (rg_01 hx1) m hm hF
set_option maxRecDepth 20000 in
set_option maxHeartbeats 4000000 in
theorem WJ_X4_wordsOf_29 {g : Gx} {b : Bs} {o : Mm} {Q : Int → Mm → Prop} {k_4 : Int → Int → Int → Mm → Rs} (hC : Cok g b RX4 cX4_wordsOf 4 0 (some .int)) (hk_4 : ∀ v1 : Int, inR v1 → ∀ v2 : Int, inR v2 → ∀ v3 : Int, inR v3 → ∀ m : Mm, Rg m → okR (k_4 v1 v2 v3 m) Q → X g b (true, o) 4 (ZM g b (true, o) 1 Q) 4 [(0, .ref (b.1 + 1)), (1, iV v1), (2, iV v2), (3, iV v3)] [] m 0 0) (v1 : Int) (hv1 : inR v1) (v2 : Int) (hv2 : inR v2) (v3 : Int) (hv3 : inR v3) (m : Mm) (hm : Rg m) (hF : okR (J_X4_wordsOf_29 k_4 v1 v2 v3 m) Q) : X g b (true, o) 4 (ZM g b (true, o) 1 Q) 29 [(0, .ref (b.1 + 1)), (1, iV v1), (2, iV v2), (3, iV v3)] [] m 0 0 := by
  unfold J_X4_wordsOf_29 at hF
  refine x_iinc (p := 3) (lv' := [(0, .ref (b.1 + 1)), (1, iV v1), (2, iV v2)]) hC dX4_wordsOf_29 rfl rfl (by decide) rfl hF (fun x1 hx1 hF => ?_)
  refine x_goto (tgt := 4) hC dX4_wordsOf_32 rfl ?_
  refine x_sub [1, 2, 3, 0] rfl ?_
  exact hk_4 v1 hv1 v2 hv2 x1 hx1 m hm hF
set_option maxRecDepth 20000 in
set_option maxHeartbeats 4000000 in
theorem WL_X4_wordsOf_4 {g : Gx} {b : Bs} {o : Mm} {Q : Int → Mm → Prop} (hC : Cok g b RX4 cX4_wordsOf 4 0 (some .int)) : ∀ n : Nat, ∀ v1 : Int, inR v1 → ∀ v2 : Int, inR v2 → ∀ v3 : Int, inR v3 → ∀ m : Mm, Rg m → okR (L_X4_wordsOf_4 n v1 v2 v3 m) Q → X g b (true, o) 4 (ZM g b (true, o) 1 Q) 4 [(0, .ref (b.1 + 1)), (1, iV v1), (2, iV v2), (3, iV v3)] [] m 0 0 := by
  intro n
  induction n with
  | zero => intro v1 hv1 v2 hv2 v3 hv3 m hm hF; exact absurd hF (fun z => z)
  | succ n ih =>
    intro v1 hv1 v2 hv2 v3 hv3 m hm hF
    have hF : okR (LB_X4_wordsOf_4 (L_X4_wordsOf_4 n) v1 v2 v3 m) Q := hF
    unfold LB_X4_wordsOf_4 at hF
    refine x_iload_n hC dX4_wordsOf_4 rfl 3 rfl ?_
    refine x_aload_n hC dX4_wordsOf_5 rfl 0 rfl ?_
    refine x_getI hC dX4_wordsOf_6 rfl flX4_34 rfl (by decide) rfl rfl ?_
    refine x_icmp_ge (tgt := 35) hC dX4_wordsOf_9 rfl rfl hv3 (hm.i 1 5 rfl) hF (fun hq1 hF => ?_) (fun hq1 hF => ?_)
    · refine x_iload_n hC dX4_wordsOf_35 rfl 2 rfl ?_
      exact x_ireturn hC dX4_wordsOf_36 hm hv2 hF
    · refine x_iload_n hC dX4_wordsOf_12 rfl 1 rfl ?_
      refine x_iload_n hC dX4_wordsOf_13 rfl 3 rfl ?_
      refine x_ishr hC dX4_wordsOf_14 rfl ?_
      refine x_iconst hC dX4_wordsOf_15 rfl ?_
      refine x_iand hC dX4_wordsOf_16 rfl ?_
      refine x_if_eq (tgt := 29) hC dX4_wordsOf_17 rfl rfl (rg_tI _) hF (fun hq2 hF => ?_) (fun hq2 hF => ?_)
      · exact WJ_X4_wordsOf_29 hC ih  v1 hv1 v2 hv2 v3 hv3 m hm hF
      · refine x_iload_n hC dX4_wordsOf_20 rfl 2 rfl ?_
        refine x_aload_n hC dX4_wordsOf_21 rfl 0 rfl ?_
        refine x_getR (t := 5) hC dX4_wordsOf_22 rfl flX4_21 rfl (by decide) rfl rfl ?_
        refine x_iload_n hC dX4_wordsOf_25 rfl 3 rfl ?_
        refine x_iald hC dX4_wordsOf_26 rfl rfl (by decide) rfl hm hv3 hF (fun x3 hx3 hF => ?_)
        refine x_iadd hC dX4_wordsOf_27 rfl ?_
        refine x_istore_n (lv' := [(0, .ref (b.1 + 1)), (1, iV v1), (3, iV v3)]) hC dX4_wordsOf_28 rfl rfl (by decide) rfl (rg_wr _) hF (fun x4 hx4 hF => ?_)
        refine x_sub [1, 2, 0, 3] rfl ?_
        exact WJ_X4_wordsOf_29 hC ih  v1 hv1 x4 hx4 v3 hv3 m hm hF
set_option maxRecDepth 20000 in
set_option maxHeartbeats 4000000 in
theorem T_X4_wordsOf (b : Bs) (o : Mm) (m : Mm) (a1 : Int) (ha1 : inR a1) {r : Int} {m' : Mm} (h : F_X4_wordsOf a1 m = some (r, m')) : Cn yX4_wordsOf cX4_wordsOf 4 (some .int) (0) 0 0 1 b (true, o) m [.ref (b.1 + 1), iV a1] (F_X4_wordsOf a1 m) := by
  refine Cn_of rfl (Nat.le_of_ble_eq_true rfl) (fun g hC hm => ?_)
  have hF := okR_some h
  generalize hQ : (fun (r : Int) (m' : Mm) => F_X4_wordsOf a1 m = some (r, m')) = Q at hF ⊢
  clear hQ h
  replace hC : Cok g b RX4 cX4_wordsOf 4 0 (some .int) := hC
  refine x_lv (lv' := [(0, .ref (b.1 + 1)), (1, iV a1)]) rfl ?_
  unfold F_X4_wordsOf at hF
  refine x_iconst hC dX4_wordsOf_0 rfl ?_
  refine x_istore_nZ (lv' := [(0, .ref (b.1 + 1)), (1, iV a1)]) hC dX4_wordsOf_1 rfl rfl (by decide) rfl (Or.inl rfl) hF (fun x1 hx1 hF => ?_)
  refine x_iconst hC dX4_wordsOf_2 rfl ?_
  refine x_istore_nZ (lv' := [(2, iV x1), (0, .ref (b.1 + 1)), (1, iV a1)]) hC dX4_wordsOf_3 rfl rfl (by decide) rfl (Or.inl rfl) hF (fun x2 hx2 hF => ?_)
  refine x_sub [2, 3, 1, 0] rfl ?_
  exact WL_X4_wordsOf_4 hC 100000  a1 ha1 x1 (rg_01 hx1) x2 (rg_01 hx2) m hm hF
set_option maxRecDepth 20000 in
set_option maxHeartbeats 4000000 in
theorem WL_X5_allSuch_35 {g : Gx} {b : Bs} {o : Mm} {Q : Int → Mm → Prop} (hC : Cok g b RX5 cX5_allSuch 3 1 (some .boolean)) : ∀ n : Nat, ∀ v1 : Int, inR v1 → ∀ v2 : Int, inR v2 → ∀ m : Mm, Rg m → okR (L_X5_allSuch_35 n v1 v2 m) Q → X g b (true, o) 3 (ZM g b (true, o) 3 Q) 35 [(0, .ref (b.1 + 34)), (1, iV v1), (2, iV v2)] [] m 0 0 := by
  intro n
  induction n with
  | zero => intro v1 hv1 v2 hv2 m hm hF; exact absurd hF (fun z => z)
  | succ n ih =>
    intro v1 hv1 v2 hv2 m hm hF
    have hF : okR (LB_X5_allSuch_35 (L_X5_allSuch_35 n) v1 v2 m) Q := hF
    unfold LB_X5_allSuch_35 at hF
    refine x_iload_n hC dX5_allSuch_35 rfl 2 rfl ?_
    refine x_iload_n hC dX5_allSuch_36 rfl 1 rfl ?_
    refine x_icmp_ge (tgt := 69) hC dX5_allSuch_37 rfl rfl hv2 hv1 hF (fun hq1 hF => ?_) (fun hq1 hF => ?_)
    · refine x_iconst hC dX5_allSuch_69 rfl ?_
      exact x_zreturn hC dX5_allSuch_70 hm (Or.inr rfl) hF
    · refine x_iload_n hC dX5_allSuch_40 rfl 2 rfl ?_
      refine x_bipush hC dX5_allSuch_41 rfl rfl ?_
      refine x_icmp_ge (tgt := 69) hC dX5_allSuch_43 rfl rfl hv2 (rgc 12 rfl) hF (fun hq2 hF => ?_) (fun hq2 hF => ?_)
      · refine x_iconst hC dX5_allSuch_69 rfl ?_
        exact x_zreturn hC dX5_allSuch_70 hm (Or.inr rfl) hF
      · refine x_aload_n hC dX5_allSuch_46 rfl 0 rfl ?_
        refine x_getR (t := 36) hC dX5_allSuch_47 rfl flX5_15 rfl (by decide) rfl rfl ?_
        refine x_iload_n hC dX5_allSuch_50 rfl 2 rfl ?_
        refine x_iald hC dX5_allSuch_51 rfl rfl (by decide) rfl hm hv2 hF (fun x3 hx3 hF => ?_)
        refine x_iconst hC dX5_allSuch_52 rfl ?_
        refine x_bipush hC dX5_allSuch_53 rfl rfl ?_
        refine x_callSN3 (kc2 := 0) (ks2 := 0) (As := [iV x3, iV 0, iV 32]) (rest := []) hC dX5_allSuch_55 rfl hm (fun _ _ h => T_X11_within b _ m x3 hx3 0 (rgc 0 rfl) 32 (rgc 32 rfl) h) mlX5_66 vsX11_within rfl rfl (Nat.le_of_ble_eq_true rfl) (by decide) (by decide) rfl rfl hF (fun r4 m5 hr4 hm5 hF => ?_)
        refine x_if_ne (tgt := 63) hC dX5_allSuch_58 rfl rfl (rg_01 hr4) hF (fun hq6 hF => ?_) (fun hq6 hF => ?_)
        · refine x_iinc (p := 2) (lv' := [(0, .ref (b.1 + 34)), (1, iV v1)]) hC dX5_allSuch_63 rfl rfl (by decide) rfl hF (fun x7 hx7 hF => ?_)
          refine x_goto (tgt := 35) hC dX5_allSuch_66 rfl ?_
          refine x_sub [1, 2, 0] rfl ?_
          exact ih v1 hv1 x7 hx7 m5 hm5 hF
        · refine x_iconst hC dX5_allSuch_61 rfl ?_
          exact x_zreturn hC dX5_allSuch_62 hm5 (Or.inl rfl) hF
set_option maxRecDepth 20000 in
set_option maxHeartbeats 4000000 in
theorem WL_X5_allSuch_2 {g : Gx} {b : Bs} {o : Mm} {Q : Int → Mm → Prop} (hC : Cok g b RX5 cX5_allSuch 3 1 (some .boolean)) : ∀ n : Nat, ∀ v1 : Int, inR v1 → ∀ v2 : Int, inR v2 → ∀ m : Mm, Rg m → okR (L_X5_allSuch_2 n v1 v2 m) Q → X g b (true, o) 3 (ZM g b (true, o) 3 Q) 2 [(0, .ref (b.1 + 34)), (1, iV v1), (2, iV v2)] [] m 0 0 := by
  intro n
  induction n with
  | zero => intro v1 hv1 v2 hv2 m hm hF; exact absurd hF (fun z => z)
  | succ n ih =>
    intro v1 hv1 v2 hv2 m hm hF
    have hF : okR (LB_X5_allSuch_2 (L_X5_allSuch_2 n) v1 v2 m) Q := hF
    unfold LB_X5_allSuch_2 at hF
    refine x_iload_n hC dX5_allSuch_2 rfl 2 rfl ?_
    refine x_aload_n hC dX5_allSuch_3 rfl 0 rfl ?_
    refine x_getI hC dX5_allSuch_4 rfl flX5_52 rfl (by decide) rfl rfl ?_
    refine x_icmp_ge (tgt := 33) hC dX5_allSuch_7 rfl rfl hv2 (hm.i 34 10 rfl) hF (fun hq1 hF => ?_) (fun hq1 hF => ?_)
    · refine x_iconst hC dX5_allSuch_33 rfl ?_
      refine x_istore_nZ (lv' := [(0, .ref (b.1 + 34)), (1, iV v1)]) hC dX5_allSuch_34 rfl rfl (by decide) rfl (Or.inl rfl) hF (fun x2 hx2 hF => ?_)
      refine x_sub [1, 2, 0] rfl ?_
      exact WL_X5_allSuch_35 hC 100000  v1 hv1 x2 (rg_01 hx2) m hm hF
    · refine x_aload_n hC dX5_allSuch_10 rfl 0 rfl ?_
      refine x_getR (t := 35) hC dX5_allSuch_11 rfl flX5_9 rfl (by decide) rfl rfl ?_
      refine x_iload_n hC dX5_allSuch_14 rfl 2 rfl ?_
      refine x_iald hC dX5_allSuch_15 rfl rfl (by decide) rfl hm hv2 hF (fun x3 hx3 hF => ?_)
      refine x_iconst hC dX5_allSuch_16 rfl ?_
      refine x_bipush hC dX5_allSuch_17 rfl rfl ?_
      refine x_callSN3 (kc2 := 0) (ks2 := 0) (As := [iV x3, iV 1, iV 63]) (rest := []) hC dX5_allSuch_19 rfl hm (fun _ _ h => T_X11_within b _ m x3 hx3 1 (rgc 1 rfl) 63 (rgc 63 rfl) h) mlX5_66 vsX11_within rfl rfl (Nat.le_of_ble_eq_true rfl) (by decide) (by decide) rfl rfl hF (fun r4 m5 hr4 hm5 hF => ?_)
      refine x_if_ne (tgt := 27) hC dX5_allSuch_22 rfl rfl (rg_01 hr4) hF (fun hq6 hF => ?_) (fun hq6 hF => ?_)
      · refine x_iinc (p := 2) (lv' := [(0, .ref (b.1 + 34)), (1, iV v1)]) hC dX5_allSuch_27 rfl rfl (by decide) rfl hF (fun x7 hx7 hF => ?_)
        refine x_goto (tgt := 2) hC dX5_allSuch_30 rfl ?_
        refine x_sub [1, 2, 0] rfl ?_
        exact ih v1 hv1 x7 hx7 m5 hm5 hF
      · refine x_iconst hC dX5_allSuch_25 rfl ?_
        exact x_zreturn hC dX5_allSuch_26 hm5 (Or.inl rfl) hF
set_option maxRecDepth 20000 in
set_option maxHeartbeats 4000000 in
theorem T_X5_allSuch (b : Bs) (o : Mm) (m : Mm) (a1 : Int) (ha1 : inR a1) {r : Int} {m' : Mm} (h : F_X5_allSuch a1 m = some (r, m')) : Cn yX5_allSuch cX5_allSuch 3 (some .boolean) (1) 0 0 3 b (true, o) m [.ref (b.1 + 34), iV a1] (F_X5_allSuch a1 m) := by
  refine Cn_of rfl (Nat.le_of_ble_eq_true rfl) (fun g hC hm => ?_)
  have hF := okR_some h
  generalize hQ : (fun (r : Int) (m' : Mm) => F_X5_allSuch a1 m = some (r, m')) = Q at hF ⊢
  clear hQ h
  replace hC : Cok g b RX5 cX5_allSuch 3 1 (some .boolean) := hC
  refine x_lv (lv' := [(0, .ref (b.1 + 34)), (1, iV a1)]) rfl ?_
  unfold F_X5_allSuch at hF
  refine x_iconst hC dX5_allSuch_0 rfl ?_
  refine x_istore_nZ (lv' := [(0, .ref (b.1 + 34)), (1, iV a1)]) hC dX5_allSuch_1 rfl rfl (by decide) rfl (Or.inl rfl) hF (fun x1 hx1 hF => ?_)
  refine x_sub [1, 2, 0] rfl ?_
  exact WL_X5_allSuch_2 hC 100000  a1 ha1 x1 (rg_01 hx1) m hm hF
set_option maxRecDepth 20000 in
set_option maxHeartbeats 4000000 in
theorem WL_X5_takePairs_12 {g : Gx} {b : Bs} {o : Mm} {Q : Int → Mm → Prop} (hC : Cok g b RX5 cX5_takePairs 4 2 (some .boolean)) : ∀ n : Nat, ∀ v3 : Int, inR v3 → ∀ m : Mm, Rg m → okR (L_X5_takePairs_12 n v3 m) Q → X g b (true, o) 4 (ZM g b (true, o) 3 Q) 12 [(0, .ref (b.1 + 34)), (1, .ref (b.1 + 7)), (3, iV v3)] [] m 0 0 := by
  intro n
  induction n with
  | zero => intro v3 hv3 m hm hF; exact absurd hF (fun z => z)
  | succ n ih =>
    intro v3 hv3 m hm hF
    have hF : okR (LB_X5_takePairs_12 (L_X5_takePairs_12 n) v3 m) Q := hF
    unfold LB_X5_takePairs_12 at hF
    refine x_iload_n hC dX5_takePairs_12 rfl 2 rfl ?_
    refine x_aload_n hC dX5_takePairs_13 rfl 0 rfl ?_
    refine x_getI hC dX5_takePairs_14 rfl flX5_52 rfl (by decide) rfl rfl ?_
    refine x_icmp_ge (tgt := 54) hC dX5_takePairs_17 rfl rfl hv3 (hm.i 34 10 rfl) hF (fun hq1 hF => ?_) (fun hq1 hF => ?_)
    · refine x_aload_n hC dX5_takePairs_54 rfl 0 rfl ?_
      refine x_aload_n hC dX5_takePairs_55 rfl 0 rfl ?_
      refine x_getI hC dX5_takePairs_56 rfl flX5_52 rfl (by decide) rfl rfl ?_
      refine x_callV3 (kc2 := 0) (ks2 := 0) (k := 34) (As := [iV (m 34 10)]) (rest := []) hC dX5_takePairs_59 rfl hm (fun _ _ h => T_X5_allSuch b _ m (m 34 10) (hm.i 34 10 rfl) h) mlX5_62 vlX5_allSuch rfl (by decide) rfl rfl (Nat.le_of_ble_eq_true rfl) (by decide) (by decide) rfl rfl hF (fun r2 m3 hr2 hm3 hF => ?_)
      exact x_zreturn hC dX5_takePairs_62 hm3 hr2 hF
    · refine x_aload_n hC dX5_takePairs_20 rfl 0 rfl ?_
      refine x_getR (t := 35) hC dX5_takePairs_21 rfl flX5_9 rfl (by decide) rfl rfl ?_
      refine x_iload_n hC dX5_takePairs_24 rfl 2 rfl ?_
      refine x_aload_n hC dX5_takePairs_25 rfl 1 rfl ?_
      refine x_iconst hC dX5_takePairs_26 rfl ?_
      refine x_iload_n hC dX5_takePairs_27 rfl 2 rfl ?_
      refine x_imul hC dX5_takePairs_28 rfl ?_
      refine x_callV1 (kc2 := 0) (ks2 := 0) (k := 7) (As := [iV (wr (2 * v3))]) (rest := [iV v3, .ref (b.1 + 35)]) hC dX5_takePairs_29 rfl hm (fun _ _ h => T_X10_byteAt b _ m (wr (2 * v3)) (rg_wr _) h) mlX5_56 vlX10_byteAt rfl (by decide) rfl rfl (Nat.le_of_ble_eq_true rfl) (by decide) (by decide) rfl rfl hF (fun r4 m5 hr4 hm5 hF => ?_)
      refine x_iast hC dX5_takePairs_32 rfl rfl (by decide) rfl hm5 hv3 hr4 hF (fun m6 hm6 hF => ?_)
      refine x_aload_n hC dX5_takePairs_33 rfl 0 rfl ?_
      refine x_getR (t := 36) hC dX5_takePairs_34 rfl flX5_15 rfl (by decide) rfl rfl ?_
      refine x_iload_n hC dX5_takePairs_37 rfl 2 rfl ?_
      refine x_aload_n hC dX5_takePairs_38 rfl 1 rfl ?_
      refine x_iconst hC dX5_takePairs_39 rfl ?_
      refine x_iload_n hC dX5_takePairs_40 rfl 2 rfl ?_
      refine x_imul hC dX5_takePairs_41 rfl ?_
      refine x_iconst hC dX5_takePairs_42 rfl ?_
      refine x_iadd hC dX5_takePairs_43 rfl ?_
      refine x_callV1 (kc2 := 0) (ks2 := 0) (k := 7) (As := [iV (wr ((wr (2 * v3)) + 1))]) (rest := [iV v3, .ref (b.1 + 36)]) hC dX5_takePairs_44 rfl hm6 (fun _ _ h => T_X10_byteAt b _ m6 (wr ((wr (2 * v3)) + 1)) (rg_wr _) h) mlX5_56 vlX10_byteAt rfl (by decide) rfl rfl (Nat.le_of_ble_eq_true rfl) (by decide) (by decide) rfl rfl hF (fun r7 m8 hr7 hm8 hF => ?_)
      refine x_iast hC dX5_takePairs_47 rfl rfl (by decide) rfl hm8 hv3 hr7 hF (fun m9 hm9 hF => ?_)
      refine x_iinc (p := 2) (lv' := [(0, .ref (b.1 + 34)), (1, .ref (b.1 + 7))]) hC dX5_takePairs_48 rfl rfl (by decide) rfl hF (fun x10 hx10 hF => ?_)
      refine x_goto (tgt := 12) hC dX5_takePairs_51 rfl ?_
      refine x_sub [1, 2, 0] rfl ?_
      exact ih x10 hx10 m9 hm9 hF
set_option maxRecDepth 20000 in
set_option maxHeartbeats 4000000 in
theorem T_X5_takePairs (b : Bs) (o : Mm) (m : Mm) (a1 : Int) (ha1 : inR a1) {r : Int} {m' : Mm} (h : F_X5_takePairs a1 m = some (r, m')) : Cn yX5_takePairs cX5_takePairs 4 (some .boolean) (2) 0 0 3 b (true, o) m [.ref (b.1 + 34), .ref (b.1 + 7), iV a1] (F_X5_takePairs a1 m) := by
  refine Cn_of rfl (Nat.le_of_ble_eq_true rfl) (fun g hC hm => ?_)
  have hF := okR_some h
  generalize hQ : (fun (r : Int) (m' : Mm) => F_X5_takePairs a1 m = some (r, m')) = Q at hF ⊢
  clear hQ h
  replace hC : Cok g b RX5 cX5_takePairs 4 2 (some .boolean) := hC
  refine x_lv (lv' := [(0, .ref (b.1 + 34)), (1, .ref (b.1 + 7)), (2, iV a1)]) rfl ?_
  unfold F_X5_takePairs at hF
  refine x_aload_n hC dX5_takePairs_0 rfl 0 rfl ?_
  refine x_iload_n hC dX5_takePairs_1 rfl 2 rfl ?_
  refine x_bipush hC dX5_takePairs_2 rfl rfl ?_
  refine x_callS1 (kc2 := 0) (ks2 := 0) (As := [iV a1, iV 12]) (rest := [.ref (b.1 + 34)]) hC dX5_takePairs_4 rfl hm (fun _ _ h => T_J9_min_7cf53 b _ m a1 ha1 12 (rgc 12 rfl) h) mlX5_46 vsJ9_min_7cf53 rfl rfl (Nat.le_of_ble_eq_true rfl) (by decide) (by decide) rfl rfl hF (fun r1 m2 hr1 hm2 hF => ?_)
  refine x_putI hC dX5_takePairs_7 rfl fpX5_52 rfl (by decide) (by decide) rfl rfl hm2 hr1 rfl hF (fun m3 hm3 hF => ?_)
  refine x_iconst hC dX5_takePairs_10 rfl ?_
  refine x_istore_nZ (lv' := [(0, .ref (b.1 + 34)), (1, .ref (b.1 + 7)), (2, iV a1)]) hC dX5_takePairs_11 rfl rfl (by decide) rfl (Or.inl rfl) hF (fun x4 hx4 hF => ?_)
  refine x_sub [1, 2, 0] rfl ?_
  exact WL_X5_takePairs_12 hC 100000  x4 (rg_01 hx4) m3 hm3 hF
set_option maxRecDepth 20000 in
set_option maxHeartbeats 4000000 in
theorem WL_X5_takeGapsThenMeanings_39 {g : Gx} {b : Bs} {o : Mm} {Q : Int → Mm → Prop} (hC : Cok g b RX5 cX5_takeGapsThenMeanings 4 2 (some .boolean)) : ∀ n : Nat, ∀ v3 : Int, inR v3 → ∀ m : Mm, Rg m → okR (L_X5_takeGapsThenMeanings_39 n v3 m) Q → X g b (true, o) 4 (ZM g b (true, o) 3 Q) 39 [(0, .ref (b.1 + 34)), (1, .ref (b.1 + 7)), (3, iV v3)] [] m 0 0 := by
  intro n
  induction n with
  | zero => intro v3 hv3 m hm hF; exact absurd hF (fun z => z)
  | succ n ih =>
    intro v3 hv3 m hm hF
    have hF : okR (LB_X5_takeGapsThenMeanings_39 (L_X5_takeGapsThenMeanings_39 n) v3 m) Q := hF
    unfold LB_X5_takeGapsThenMeanings_39 at hF
    refine x_iload_n hC dX5_takeGapsThenMeanings_39 rfl 2 rfl ?_
    refine x_aload_n hC dX5_takeGapsThenMeanings_40 rfl 0 rfl ?_
    refine x_getI hC dX5_takeGapsThenMeanings_41 rfl flX5_52 rfl (by decide) rfl rfl ?_
    refine x_icmp_gt (tgt := 69) hC dX5_takeGapsThenMeanings_44 rfl rfl hv3 (hm.i 34 10 rfl) hF (fun hq1 hF => ?_) (fun hq1 hF => ?_)
    · refine x_aload_n hC dX5_takeGapsThenMeanings_69 rfl 0 rfl ?_
      refine x_aload_n hC dX5_takeGapsThenMeanings_70 rfl 0 rfl ?_
      refine x_getI hC dX5_takeGapsThenMeanings_71 rfl flX5_52 rfl (by decide) rfl rfl ?_
      refine x_iconst hC dX5_takeGapsThenMeanings_74 rfl ?_
      refine x_iadd hC dX5_takeGapsThenMeanings_75 rfl ?_
      refine x_callV3 (kc2 := 0) (ks2 := 0) (k := 34) (As := [iV (wr ((m 34 10) + 1))]) (rest := []) hC dX5_takeGapsThenMeanings_76 rfl hm (fun _ _ h => T_X5_allSuch b _ m (wr ((m 34 10) + 1)) (rg_wr _) h) mlX5_62 vlX5_allSuch rfl (by decide) rfl rfl (Nat.le_of_ble_eq_true rfl) (by decide) (by decide) rfl rfl hF (fun r2 m3 hr2 hm3 hF => ?_)
      exact x_zreturn hC dX5_takeGapsThenMeanings_79 hm3 hr2 hF
    · refine x_aload_n hC dX5_takeGapsThenMeanings_47 rfl 0 rfl ?_
      refine x_getR (t := 36) hC dX5_takeGapsThenMeanings_48 rfl flX5_15 rfl (by decide) rfl rfl ?_
      refine x_iload_n hC dX5_takeGapsThenMeanings_51 rfl 2 rfl ?_
      refine x_aload_n hC dX5_takeGapsThenMeanings_52 rfl 1 rfl ?_
      refine x_aload_n hC dX5_takeGapsThenMeanings_53 rfl 0 rfl ?_
      refine x_getI hC dX5_takeGapsThenMeanings_54 rfl flX5_52 rfl (by decide) rfl rfl ?_
      refine x_iload_n hC dX5_takeGapsThenMeanings_57 rfl 2 rfl ?_
      refine x_iadd hC dX5_takeGapsThenMeanings_58 rfl ?_
      refine x_callV1 (kc2 := 0) (ks2 := 0) (k := 7) (As := [iV (wr ((m 34 10) + v3))]) (rest := [iV v3, .ref (b.1 + 36)]) hC dX5_takeGapsThenMeanings_59 rfl hm (fun _ _ h => T_X10_byteAt b _ m (wr ((m 34 10) + v3)) (rg_wr _) h) mlX5_56 vlX10_byteAt rfl (by decide) rfl rfl (Nat.le_of_ble_eq_true rfl) (by decide) (by decide) rfl rfl hF (fun r4 m5 hr4 hm5 hF => ?_)
      refine x_iast hC dX5_takeGapsThenMeanings_62 rfl rfl (by decide) rfl hm5 hv3 hr4 hF (fun m6 hm6 hF => ?_)
      refine x_iinc (p := 2) (lv' := [(0, .ref (b.1 + 34)), (1, .ref (b.1 + 7))]) hC dX5_takeGapsThenMeanings_63 rfl rfl (by decide) rfl hF (fun x7 hx7 hF => ?_)
      refine x_goto (tgt := 39) hC dX5_takeGapsThenMeanings_66 rfl ?_
      refine x_sub [1, 2, 0] rfl ?_
      exact ih x7 hx7 m6 hm6 hF
set_option maxRecDepth 20000 in
set_option maxHeartbeats 4000000 in
theorem WL_X5_takeGapsThenMeanings_12 {g : Gx} {b : Bs} {o : Mm} {Q : Int → Mm → Prop} (hC : Cok g b RX5 cX5_takeGapsThenMeanings 4 2 (some .boolean)) : ∀ n : Nat, ∀ v3 : Int, inR v3 → ∀ m : Mm, Rg m → okR (L_X5_takeGapsThenMeanings_12 n v3 m) Q → X g b (true, o) 4 (ZM g b (true, o) 3 Q) 12 [(0, .ref (b.1 + 34)), (1, .ref (b.1 + 7)), (3, iV v3)] [] m 0 0 := by
  intro n
  induction n with
  | zero => intro v3 hv3 m hm hF; exact absurd hF (fun z => z)
  | succ n ih =>
    intro v3 hv3 m hm hF
    have hF : okR (LB_X5_takeGapsThenMeanings_12 (L_X5_takeGapsThenMeanings_12 n) v3 m) Q := hF
    unfold LB_X5_takeGapsThenMeanings_12 at hF
    refine x_iload_n hC dX5_takeGapsThenMeanings_12 rfl 2 rfl ?_
    refine x_aload_n hC dX5_takeGapsThenMeanings_13 rfl 0 rfl ?_
    refine x_getI hC dX5_takeGapsThenMeanings_14 rfl flX5_52 rfl (by decide) rfl rfl ?_
    refine x_icmp_ge (tgt := 37) hC dX5_takeGapsThenMeanings_17 rfl rfl hv3 (hm.i 34 10 rfl) hF (fun hq1 hF => ?_) (fun hq1 hF => ?_)
    · refine x_iconst hC dX5_takeGapsThenMeanings_37 rfl ?_
      refine x_istore_nZ (lv' := [(0, .ref (b.1 + 34)), (1, .ref (b.1 + 7))]) hC dX5_takeGapsThenMeanings_38 rfl rfl (by decide) rfl (Or.inl rfl) hF (fun x2 hx2 hF => ?_)
      refine x_sub [1, 2, 0] rfl ?_
      exact WL_X5_takeGapsThenMeanings_39 hC 100000  x2 (rg_01 hx2) m hm hF
    · refine x_aload_n hC dX5_takeGapsThenMeanings_20 rfl 0 rfl ?_
      refine x_getR (t := 35) hC dX5_takeGapsThenMeanings_21 rfl flX5_9 rfl (by decide) rfl rfl ?_
      refine x_iload_n hC dX5_takeGapsThenMeanings_24 rfl 2 rfl ?_
      refine x_aload_n hC dX5_takeGapsThenMeanings_25 rfl 1 rfl ?_
      refine x_iload_n hC dX5_takeGapsThenMeanings_26 rfl 2 rfl ?_
      refine x_callV1 (kc2 := 0) (ks2 := 0) (k := 7) (As := [iV v3]) (rest := [iV v3, .ref (b.1 + 35)]) hC dX5_takeGapsThenMeanings_27 rfl hm (fun _ _ h => T_X10_byteAt b _ m v3 hv3 h) mlX5_56 vlX10_byteAt rfl (by decide) rfl rfl (Nat.le_of_ble_eq_true rfl) (by decide) (by decide) rfl rfl hF (fun r3 m4 hr3 hm4 hF => ?_)
      refine x_iast hC dX5_takeGapsThenMeanings_30 rfl rfl (by decide) rfl hm4 hv3 hr3 hF (fun m5 hm5 hF => ?_)
      refine x_iinc (p := 2) (lv' := [(0, .ref (b.1 + 34)), (1, .ref (b.1 + 7))]) hC dX5_takeGapsThenMeanings_31 rfl rfl (by decide) rfl hF (fun x6 hx6 hF => ?_)
      refine x_goto (tgt := 12) hC dX5_takeGapsThenMeanings_34 rfl ?_
      refine x_sub [1, 2, 0] rfl ?_
      exact ih x6 hx6 m5 hm5 hF
set_option maxRecDepth 20000 in
set_option maxHeartbeats 4000000 in
theorem T_X5_takeGapsThenMeanings (b : Bs) (o : Mm) (m : Mm) (a1 : Int) (ha1 : inR a1) {r : Int} {m' : Mm} (h : F_X5_takeGapsThenMeanings a1 m = some (r, m')) : Cn yX5_takeGapsThenMeanings cX5_takeGapsThenMeanings 4 (some .boolean) (2) 0 0 3 b (true, o) m [.ref (b.1 + 34), .ref (b.1 + 7), iV a1] (F_X5_takeGapsThenMeanings a1 m) := by
  refine Cn_of rfl (Nat.le_of_ble_eq_true rfl) (fun g hC hm => ?_)
  have hF := okR_some h
  generalize hQ : (fun (r : Int) (m' : Mm) => F_X5_takeGapsThenMeanings a1 m = some (r, m')) = Q at hF ⊢
  clear hQ h
  replace hC : Cok g b RX5 cX5_takeGapsThenMeanings 4 2 (some .boolean) := hC
  refine x_lv (lv' := [(0, .ref (b.1 + 34)), (1, .ref (b.1 + 7)), (2, iV a1)]) rfl ?_
  unfold F_X5_takeGapsThenMeanings at hF
  refine x_aload_n hC dX5_takeGapsThenMeanings_0 rfl 0 rfl ?_
  refine x_iload_n hC dX5_takeGapsThenMeanings_1 rfl 2 rfl ?_
  refine x_bipush hC dX5_takeGapsThenMeanings_2 rfl rfl ?_
  refine x_callS1 (kc2 := 0) (ks2 := 0) (As := [iV a1, iV 10]) (rest := [.ref (b.1 + 34)]) hC dX5_takeGapsThenMeanings_4 rfl hm (fun _ _ h => T_J9_min_7cf53 b _ m a1 ha1 10 (rgc 10 rfl) h) mlX5_46 vsJ9_min_7cf53 rfl rfl (Nat.le_of_ble_eq_true rfl) (by decide) (by decide) rfl rfl hF (fun r1 m2 hr1 hm2 hF => ?_)
  refine x_putI hC dX5_takeGapsThenMeanings_7 rfl fpX5_52 rfl (by decide) (by decide) rfl rfl hm2 hr1 rfl hF (fun m3 hm3 hF => ?_)
  refine x_iconst hC dX5_takeGapsThenMeanings_10 rfl ?_
  refine x_istore_nZ (lv' := [(0, .ref (b.1 + 34)), (1, .ref (b.1 + 7)), (2, iV a1)]) hC dX5_takeGapsThenMeanings_11 rfl rfl (by decide) rfl (Or.inl rfl) hF (fun x4 hx4 hF => ?_)
  refine x_sub [1, 2, 0] rfl ?_
  exact WL_X5_takeGapsThenMeanings_12 hC 100000  x4 (rg_01 hx4) m3 hm3 hF
set_option maxRecDepth 20000 in
set_option maxHeartbeats 4000000 in
theorem WJ_X5_beginBehind_60 {g : Gx} {b : Bs} {o : Mm} {Q : Int → Mm → Prop} {k_35 : Int → Mm → Rs} (hC : Cok g b RX5 cX5_beginBehind 4 2 none) (hk_35 : ∀ v3 : Int, inR v3 → ∀ m : Mm, Rg m → okR (k_35 v3 m) Q → X g b (true, o) 4 (ZM g b (true, o) 0 Q) 35 [(0, .ref (b.1 + 34)), (3, iV v3)] [] m 0 0) (v3 : Int) (hv3 : inR v3) (m : Mm) (hm : Rg m) (hF : okR (J_X5_beginBehind_60 k_35 v3 m) Q) : X g b (true, o) 4 (ZM g b (true, o) 0 Q) 60 [(0, .ref (b.1 + 34)), (3, iV v3)] [] m 0 0 := by
  unfold J_X5_beginBehind_60 at hF
  refine x_iinc (p := 1) (lv' := [(0, .ref (b.1 + 34))]) hC dX5_beginBehind_60 rfl rfl (by decide) rfl hF (fun x1 hx1 hF => ?_)
  refine x_goto (tgt := 35) hC dX5_beginBehind_63 rfl ?_
  refine x_sub [1, 0] rfl ?_
  exact hk_35 x1 hx1 m hm hF
set_option maxRecDepth 20000 in
set_option maxHeartbeats 4000000 in
theorem WL_X5_beginBehind_35 {g : Gx} {b : Bs} {o : Mm} {Q : Int → Mm → Prop} (hC : Cok g b RX5 cX5_beginBehind 4 2 none) : ∀ n : Nat, ∀ v3 : Int, inR v3 → ∀ m : Mm, Rg m → okR (L_X5_beginBehind_35 n v3 m) Q → X g b (true, o) 4 (ZM g b (true, o) 0 Q) 35 [(0, .ref (b.1 + 34)), (3, iV v3)] [] m 0 0 := by
  intro n
  induction n with
  | zero => intro v3 hv3 m hm hF; exact absurd hF (fun z => z)
  | succ n ih =>
    intro v3 hv3 m hm hF
    have hF : okR (LB_X5_beginBehind_35 (L_X5_beginBehind_35 n) v3 m) Q := hF
    unfold LB_X5_beginBehind_35 at hF
    refine x_iload_n hC dX5_beginBehind_35 rfl 1 rfl ?_
    refine x_bipush hC dX5_beginBehind_36 rfl rfl ?_
    refine x_icmp_gt (tgt := 66) hC dX5_beginBehind_38 rfl rfl hv3 (rgc 8 rfl) hF (fun hq1 hF => ?_) (fun hq1 hF => ?_)
    · exact x_return hC dX5_beginBehind_66 hm hF
    · refine x_aload_n hC dX5_beginBehind_41 rfl 0 rfl ?_
      refine x_getD hC dX5_beginBehind_42 rfl flX5_31 rfl (by decide) rfl rfl ?_
      refine x_iload_n hC dX5_beginBehind_45 rfl 1 rfl ?_
      refine x_iload_n hC dX5_beginBehind_46 rfl 1 rfl ?_
      refine x_aload_n hC dX5_beginBehind_47 rfl 0 rfl ?_
      refine x_getI hC dX5_beginBehind_48 rfl flX5_79 rfl (by decide) rfl rfl ?_
      refine x_icmp_ne (tgt := 58) hC dX5_beginBehind_51 rfl rfl hv3 (hm.i 34 12 rfl) hF (fun hq2 hF => ?_) (fun hq2 hF => ?_)
      · refine x_lconst (x := 0) hC dX5_beginBehind_58 rfl rfl ?_
        refine x_grd hF (fun hg4 hF => ?_)
        refine x_last hC dX5_beginBehind_59 rfl (isRw_k hg4).1 (isRw_k hg4).2.1 (isRw_k hg4).2.2 hm hv3 (rgcL 0 rfl) hF (fun m3 hm3 hF => ?_)
        exact WJ_X5_beginBehind_60 hC ih  v3 hv3 m3 hm3 hF
      · refine x_lconst (x := 1) hC dX5_beginBehind_54 rfl rfl ?_
        refine x_goto (tgt := 59) hC dX5_beginBehind_55 rfl ?_
        refine x_grd hF (fun hg6 hF => ?_)
        refine x_last hC dX5_beginBehind_59 rfl (isRw_k hg6).1 (isRw_k hg6).2.1 (isRw_k hg6).2.2 hm hv3 (rgcL 1 rfl) hF (fun m5 hm5 hF => ?_)
        exact WJ_X5_beginBehind_60 hC ih  v3 hv3 m5 hm5 hF
set_option maxRecDepth 20000 in
set_option maxHeartbeats 4000000 in
theorem T_X5_beginBehind (b : Bs) (o : Mm) (m : Mm) (a1 : Int) (ha1 : inR a1) {r : Int} {m' : Mm} (h : F_X5_beginBehind a1 m = some (r, m')) : Cn yX5_beginBehind cX5_beginBehind 4 none (2) 0 0 0 b (true, o) m [.ref (b.1 + 34), iV a1, .ref (b.1 + 14)] (F_X5_beginBehind a1 m) := by
  refine Cn_of rfl (Nat.le_of_ble_eq_true rfl) (fun g hC hm => ?_)
  have hF := okR_some h
  generalize hQ : (fun (r : Int) (m' : Mm) => F_X5_beginBehind a1 m = some (r, m')) = Q at hF ⊢
  clear hQ h
  replace hC : Cok g b RX5 cX5_beginBehind 4 2 none := hC
  refine x_lv (lv' := [(0, .ref (b.1 + 34)), (1, iV a1), (2, .ref (b.1 + 14))]) rfl ?_
  unfold F_X5_beginBehind at hF
  refine x_aload_n hC dX5_beginBehind_0 rfl 0 rfl ?_
  refine x_iload_n hC dX5_beginBehind_1 rfl 1 rfl ?_
  refine x_putI hC dX5_beginBehind_2 rfl fpX5_70 rfl (by decide) (by decide) rfl rfl hm ha1 rfl hF (fun m1 hm1 hF => ?_)
  refine x_aload_n hC dX5_beginBehind_5 rfl 0 rfl ?_
  refine x_aload_n hC dX5_beginBehind_6 rfl 2 rfl ?_
  refine x_aload_n hC dX5_beginBehind_7 rfl 2 rfl ?_
  refine x_getI hC dX5_beginBehind_8 rfl flX5_73 rfl (by decide) rfl rfl ?_
  refine x_iconst hC dX5_beginBehind_11 rfl ?_
  refine x_isub hC dX5_beginBehind_12 rfl ?_
  refine x_callV1 (kc2 := 0) (ks2 := 0) (k := 14) (As := [iV (wr ((m1 14 4) - 1))]) (rest := [.ref (b.1 + 34)]) hC dX5_beginBehind_13 rfl hm1 (fun _ _ h => T_X3_whoOf b _ m1 (wr ((m1 14 4) - 1)) (rg_wr _) h) mlX5_76 vlX3_whoOf rfl (by decide) rfl rfl (Nat.le_of_ble_eq_true rfl) (by decide) (by decide) rfl rfl hF (fun r2 m3 hr2 hm3 hF => ?_)
  refine x_putI hC dX5_beginBehind_16 rfl fpX5_79 rfl (by decide) (by decide) rfl rfl hm3 hr2 rfl hF (fun m4 hm4 hF => ?_)
  refine x_aload_n hC dX5_beginBehind_19 rfl 0 rfl ?_
  refine x_aload_n hC dX5_beginBehind_20 rfl 2 rfl ?_
  refine x_aload_n hC dX5_beginBehind_21 rfl 2 rfl ?_
  refine x_getI hC dX5_beginBehind_22 rfl flX5_73 rfl (by decide) rfl rfl ?_
  refine x_iconst hC dX5_beginBehind_25 rfl ?_
  refine x_isub hC dX5_beginBehind_26 rfl ?_
  refine x_callV1 (kc2 := 0) (ks2 := 0) (k := 14) (As := [iV (wr ((m4 14 4) - 1))]) (rest := [.ref (b.1 + 34)]) hC dX5_beginBehind_27 rfl hm4 (fun _ _ h => T_X3_gapOf b _ m4 (wr ((m4 14 4) - 1)) (rg_wr _) h) mlX5_82 vlX3_gapOf rfl (by decide) rfl rfl (Nat.le_of_ble_eq_true rfl) (by decide) (by decide) rfl rfl hF (fun r5 m6 hr5 hm6 hF => ?_)
  refine x_putI hC dX5_beginBehind_30 rfl fpX5_85 rfl (by decide) (by decide) rfl rfl hm6 hr5 rfl hF (fun m7 hm7 hF => ?_)
  refine x_iconst hC dX5_beginBehind_33 rfl ?_
  refine x_istore_nZ (lv' := [(0, .ref (b.1 + 34)), (1, iV a1), (2, .ref (b.1 + 14))]) hC dX5_beginBehind_34 rfl rfl (by decide) rfl (Or.inl rfl) hF (fun x8 hx8 hF => ?_)
  refine x_sub [1, 0] rfl ?_
  exact WL_X5_beginBehind_35 hC 100000  x8 (rg_01 hx8) m7 hm7 hF
set_option maxRecDepth 20000 in
set_option maxHeartbeats 4000000 in
theorem T_X7_byEar (b : Bs) (o : Mm) (m : Mm) (a1 : Int) (ha1 : inR a1) (a2 : Int) (ha2 : inR a2) (a3 : Int) (ha3 : inR a3) (a4 : Int) (ha4 : inR a4) (a5 : Int) (ha5 : inR a5) {r : Int} {m' : Mm} (h : F_X7_byEar a1 a2 a3 a4 a5 m = some (r, m')) : Cn yX7_byEar cX7_byEar 6 (some .int) (3) 0 0 1 b (true, o) m [.ref (b.1 + 17), iV a1, iV a2, iV a3, iV a4, iV a5] (F_X7_byEar a1 a2 a3 a4 a5 m) := by
  refine Cn_of rfl (Nat.le_of_ble_eq_true rfl) (fun g hC hm => ?_)
  have hF := okR_some h
  generalize hQ : (fun (r : Int) (m' : Mm) => F_X7_byEar a1 a2 a3 a4 a5 m = some (r, m')) = Q at hF ⊢
  clear hQ h
  replace hC : Cok g b RX7 cX7_byEar 6 3 (some .int) := hC
  refine x_lv (lv' := [(0, .ref (b.1 + 17)), (1, iV a1), (2, iV a2), (3, iV a3), (4, iV a4), (5, iV a5)]) rfl ?_
  unfold F_X7_byEar at hF
  refine x_aload_n hC dX7_byEar_0 rfl 0 rfl ?_
  refine x_iload_n hC dX7_byEar_1 rfl 2 rfl ?_
  refine x_iload_n hC dX7_byEar_2 rfl 3 rfl ?_
  refine x_iload hC dX7_byEar_3 rfl 4 rfl ?_
  refine x_iload hC dX7_byEar_5 rfl 5 rfl ?_
  refine x_iload_n hC dX7_byEar_7 rfl 1 rfl ?_
  refine x_aload_n hC dX7_byEar_8 rfl 0 rfl ?_
  refine x_getR (t := 1) hC dX7_byEar_9 rfl flX7_28 rfl (by decide) rfl rfl ?_
  refine x_iload_n hC dX7_byEar_12 rfl 1 rfl ?_
  refine x_iload_n hC dX7_byEar_13 rfl 3 rfl ?_
  refine x_callV1 (kc2 := 0) (ks2 := 0) (k := 1) (As := [iV a1, iV a3]) (rest := [iV a1, iV a5, iV a4, iV a3, iV a2, .ref (b.1 + 17)]) hC dX7_byEar_14 rfl hm (fun _ _ h => T_X4_wayBetween b _ m a1 ha1 a3 ha3 h) mlX7_36 vlX4_wayBetween rfl (by decide) rfl rfl (Nat.le_of_ble_eq_true rfl) (by decide) (by decide) rfl rfl hF (fun r1 m2 hr1 hm2 hF => ?_)
  refine x_callV0 (kc2 := 0) (ks2 := 0) (k := 17) (As := [iV a2, iV a3, iV a4, iV a5, iV a1, iV r1]) (rest := []) hC dX7_byEar_17 rfl hm2 (fun _ _ h => T_X7_set b _ m2 a2 ha2 a3 ha3 a4 ha4 a5 ha5 a1 ha1 r1 hr1 h) mlX7_42 vlX7_set rfl (by decide) rfl rfl (Nat.le_of_ble_eq_true rfl) (by decide) (by decide) rfl rfl hF (fun r3 m4 hr3 hm4 hF => ?_)
  refine x_aload_n hC dX7_byEar_20 rfl 0 rfl ?_
  refine x_bipush hC dX7_byEar_21 rfl rfl ?_
  refine x_bipush hC dX7_byEar_23 rfl rfl ?_
  refine x_callV1 (kc2 := 0) (ks2 := 0) (k := 17) (As := [iV 109, iV 31]) (rest := []) hC dX7_byEar_25 rfl hm4 (fun _ _ h => T_X7_firstHolding b _ m4 109 (rgc 109 rfl) 31 (rgc 31 rfl) h) mlX7_46 vlX7_firstHolding rfl (by decide) rfl rfl (Nat.le_of_ble_eq_true rfl) (by decide) (by decide) rfl rfl hF (fun r5 m6 hr5 hm6 hF => ?_)
  exact x_ireturn hC dX7_byEar_28 hm6 hr5 hF
set_option maxRecDepth 20000 in
set_option maxHeartbeats 4000000 in
theorem T_X5_fits (b : Bs) (o : Mm) (m : Mm) (a1 : Int) (ha1 : inR a1) (a2 : Int) (ha2 : inR a2) (a3 : Int) (ha3 : inR a3) (a4 : Int) (ha4 : inR a4) (a5 : Int) (ha5 : inR a5) {r : Int} {m' : Mm} (h : F_X5_fits a1 a2 a3 a4 a5 m = some (r, m')) : Cn yX5_fits cX5_fits 6 (some .boolean) (4) 0 0 3 b (true, o) m [.ref (b.1 + 34), iV a1, iV a2, iV a3, iV a4, iV a5] (F_X5_fits a1 a2 a3 a4 a5 m) := by
  refine Cn_of rfl (Nat.le_of_ble_eq_true rfl) (fun g hC hm => ?_)
  have hF := okR_some h
  generalize hQ : (fun (r : Int) (m' : Mm) => F_X5_fits a1 a2 a3 a4 a5 m = some (r, m')) = Q at hF ⊢
  clear hQ h
  replace hC : Cok g b RX5 cX5_fits 6 4 (some .boolean) := hC
  refine x_lv (lv' := [(0, .ref (b.1 + 34)), (1, iV a1), (2, iV a2), (3, iV a3), (4, iV a4), (5, iV a5)]) rfl ?_
  unfold F_X5_fits at hF
  refine x_iload_n hC dX5_fits_0 rfl 1 rfl ?_
  refine x_if_lt (tgt := 25) hC dX5_fits_1 rfl rfl ha1 hF (fun hq1 hF => ?_) (fun hq1 hF => ?_)
  · refine x_iconst hC dX5_fits_25 rfl ?_
    exact x_zreturn hC dX5_fits_26 hm (Or.inl rfl) hF
  · refine x_iload_n hC dX5_fits_4 rfl 1 rfl ?_
    refine x_bipush hC dX5_fits_5 rfl rfl ?_
    refine x_icmp_ge (tgt := 25) hC dX5_fits_7 rfl rfl ha1 (rgc 12 rfl) hF (fun hq2 hF => ?_) (fun hq2 hF => ?_)
    · refine x_iconst hC dX5_fits_25 rfl ?_
      exact x_zreturn hC dX5_fits_26 hm (Or.inl rfl) hF
    · refine x_aload_n hC dX5_fits_10 rfl 0 rfl ?_
      refine x_getR (t := 1) hC dX5_fits_11 rfl flX5_38 rfl (by decide) rfl rfl ?_
      refine x_aload_n hC dX5_fits_14 rfl 0 rfl ?_
      refine x_getI hC dX5_fits_15 rfl flX5_70 rfl (by decide) rfl rfl ?_
      refine x_iload_n hC dX5_fits_18 rfl 3 rfl ?_
      refine x_callV3 (kc2 := 0) (ks2 := 0) (k := 1) (As := [iV (m 34 11), iV a3]) (rest := []) hC dX5_fits_19 rfl hm (fun _ _ h => T_X4_reaches b _ m (m 34 11) (hm.i 34 11 rfl) a3 ha3 h) mlX5_88 vlX4_reaches rfl (by decide) rfl rfl (Nat.le_of_ble_eq_true rfl) (by decide) (by decide) rfl rfl hF (fun r3 m4 hr3 hm4 hF => ?_)
      refine x_if_ne (tgt := 27) hC dX5_fits_22 rfl rfl (rg_01 hr3) hF (fun hq5 hF => ?_) (fun hq5 hF => ?_)
      · refine x_aload_n hC dX5_fits_27 rfl 0 rfl ?_
        refine x_getR (t := 36) hC dX5_fits_28 rfl flX5_15 rfl (by decide) rfl rfl ?_
        refine x_iload_n hC dX5_fits_31 rfl 1 rfl ?_
        refine x_iald hC dX5_fits_32 rfl rfl (by decide) rfl hm4 ha1 hF (fun x6 hx6 hF => ?_)
        refine x_bipush hC dX5_fits_33 rfl rfl ?_
        refine x_icmp_eq (tgt := 64) hC dX5_fits_35 rfl rfl hx6 (rgc 32 rfl) hF (fun hq7 hF => ?_) (fun hq7 hF => ?_)
        · refine x_iconst hC dX5_fits_64 rfl ?_
          refine x_goto (tgt := 69) hC dX5_fits_65 rfl ?_
          exact x_zreturn hC dX5_fits_69 hm4 (Or.inr rfl) hF
        · refine x_aload_n hC dX5_fits_38 rfl 0 rfl ?_
          refine x_getR (t := 17) hC dX5_fits_39 rfl flX5_42 rfl (by decide) rfl rfl ?_
          refine x_aload_n hC dX5_fits_42 rfl 0 rfl ?_
          refine x_getI hC dX5_fits_43 rfl flX5_70 rfl (by decide) rfl rfl ?_
          refine x_iload_n hC dX5_fits_46 rfl 2 rfl ?_
          refine x_iload_n hC dX5_fits_47 rfl 3 rfl ?_
          refine x_iload hC dX5_fits_48 rfl 4 rfl ?_
          refine x_iload hC dX5_fits_50 rfl 5 rfl ?_
          refine x_callV1 (kc2 := 0) (ks2 := 0) (k := 17) (As := [iV (m4 34 11), iV a2, iV a3, iV a4, iV a5]) (rest := []) hC dX5_fits_52 rfl hm4 (fun _ _ h => T_X7_byEar b _ m4 (m4 34 11) (hm4.i 34 11 rfl) a2 ha2 a3 ha3 a4 ha4 a5 ha5 h) mlX5_94 vlX7_byEar rfl (by decide) rfl rfl (Nat.le_of_ble_eq_true rfl) (by decide) (by decide) rfl rfl hF (fun r8 m9 hr8 hm9 hF => ?_)
          refine x_aload_n hC dX5_fits_55 rfl 0 rfl ?_
          refine x_getR (t := 36) hC dX5_fits_56 rfl flX5_15 rfl (by decide) rfl rfl ?_
          refine x_iload_n hC dX5_fits_59 rfl 1 rfl ?_
          refine x_iald hC dX5_fits_60 rfl rfl (by decide) rfl hm9 ha1 hF (fun x10 hx10 hF => ?_)
          refine x_icmp_ne (tgt := 68) hC dX5_fits_61 rfl rfl hr8 hx10 hF (fun hq11 hF => ?_) (fun hq11 hF => ?_)
          · refine x_iconst hC dX5_fits_68 rfl ?_
            exact x_zreturn hC dX5_fits_69 hm9 (Or.inl rfl) hF
          · refine x_iconst hC dX5_fits_64 rfl ?_
            refine x_goto (tgt := 69) hC dX5_fits_65 rfl ?_
            exact x_zreturn hC dX5_fits_69 hm9 (Or.inr rfl) hF
      · refine x_iconst hC dX5_fits_25 rfl ?_
        exact x_zreturn hC dX5_fits_26 hm4 (Or.inl rfl) hF
set_option maxRecDepth 20000 in
set_option maxHeartbeats 4000000 in
theorem WJ_X5_followers_65 {g : Gx} {b : Bs} {o : Mm} {Q : Int → Mm → Prop} {k_26 : Int → Int → Int → Int → Int → Mm → Rs} (hC : Cok g b RX5 cX5_followers 6 5 (some .int)) (hk_26 : ∀ v1 : Int, inR v1 → ∀ v2 : Int, inR v2 → ∀ v3 : Int, inR v3 → ∀ v4 : Int, inR v4 → ∀ v5 : Int, inR v5 → ∀ m : Mm, Rg m → okR (k_26 v1 v2 v3 v4 v5 m) Q → X g b (true, o) 6 (ZM g b (true, o) 1 Q) 26 [(0, .ref (b.1 + 34)), (1, iV v1), (2, iV v2), (3, iV v3), (4, iV v4), (5, iV v5)] [] m 0 0) (v1 : Int) (hv1 : inR v1) (v2 : Int) (hv2 : inR v2) (v3 : Int) (hv3 : inR v3) (v4 : Int) (hv4 : inR v4) (v5 : Int) (hv5 : inR v5) (m : Mm) (hm : Rg m) (hF : okR (J_X5_followers_65 k_26 v1 v2 v3 v4 v5 m) Q) : X g b (true, o) 6 (ZM g b (true, o) 1 Q) 65 [(0, .ref (b.1 + 34)), (1, iV v1), (2, iV v2), (3, iV v3), (4, iV v4), (5, iV v5)] [] m 0 0 := by
  unfold J_X5_followers_65 at hF
  refine x_iinc (p := 5) (lv' := [(0, .ref (b.1 + 34)), (1, iV v1), (2, iV v2), (3, iV v3), (4, iV v4)]) hC dX5_followers_65 rfl rfl (by decide) rfl hF (fun x1 hx1 hF => ?_)
  refine x_goto (tgt := 26) hC dX5_followers_68 rfl ?_
  refine x_sub [1, 2, 3, 4, 5, 0] rfl ?_
  exact hk_26 v1 hv1 v2 hv2 v3 hv3 v4 hv4 x1 hx1 m hm hF
set_option maxRecDepth 20000 in
set_option maxHeartbeats 4000000 in
theorem WL_X5_followers_26 {g : Gx} {b : Bs} {o : Mm} {Q : Int → Mm → Prop} (hC : Cok g b RX5 cX5_followers 6 5 (some .int)) : ∀ n : Nat, ∀ v1 : Int, inR v1 → ∀ v2 : Int, inR v2 → ∀ v3 : Int, inR v3 → ∀ v4 : Int, inR v4 → ∀ v5 : Int, inR v5 → ∀ m : Mm, Rg m → okR (L_X5_followers_26 n v1 v2 v3 v4 v5 m) Q → X g b (true, o) 6 (ZM g b (true, o) 1 Q) 26 [(0, .ref (b.1 + 34)), (1, iV v1), (2, iV v2), (3, iV v3), (4, iV v4), (5, iV v5)] [] m 0 0 := by
  intro n
  induction n with
  | zero => intro v1 hv1 v2 hv2 v3 hv3 v4 hv4 v5 hv5 m hm hF; exact absurd hF (fun z => z)
  | succ n ih =>
    intro v1 hv1 v2 hv2 v3 hv3 v4 hv4 v5 hv5 m hm hF
    have hF : okR (LB_X5_followers_26 (L_X5_followers_26 n) v1 v2 v3 v4 v5 m) Q := hF
    unfold LB_X5_followers_26 at hF
    refine x_iload hC dX5_followers_26 rfl 5 rfl ?_
    refine x_aload_n hC dX5_followers_28 rfl 0 rfl ?_
    refine x_getR (t := 1) hC dX5_followers_29 rfl flX5_38 rfl (by decide) rfl rfl ?_
    refine x_getI hC dX5_followers_32 rfl flX5_100 rfl (by decide) rfl rfl ?_
    refine x_icmp_ge (tgt := 71) hC dX5_followers_35 rfl rfl hv5 (hm.i 1 5 rfl) hF (fun hq1 hF => ?_) (fun hq1 hF => ?_)
    · refine x_iload hC dX5_followers_71 rfl 4 rfl ?_
      exact x_ireturn hC dX5_followers_73 hm hv4 hF
    · refine x_aload_n hC dX5_followers_38 rfl 0 rfl ?_
      refine x_iload_n hC dX5_followers_39 rfl 1 rfl ?_
      refine x_aload_n hC dX5_followers_40 rfl 0 rfl ?_
      refine x_getR (t := 35) hC dX5_followers_41 rfl flX5_9 rfl (by decide) rfl rfl ?_
      refine x_iload_n hC dX5_followers_44 rfl 1 rfl ?_
      refine x_iald hC dX5_followers_45 rfl rfl (by decide) rfl hm hv1 hF (fun x2 hx2 hF => ?_)
      refine x_iload hC dX5_followers_46 rfl 5 rfl ?_
      refine x_iload_n hC dX5_followers_48 rfl 2 rfl ?_
      refine x_iload_n hC dX5_followers_49 rfl 3 rfl ?_
      refine x_callV3 (kc2 := 0) (ks2 := 0) (k := 34) (As := [iV v1, iV x2, iV v5, iV v2, iV v3]) (rest := []) hC dX5_followers_50 rfl hm (fun _ _ h => T_X5_fits b _ m v1 hv1 x2 hx2 v5 hv5 v2 hv2 v3 hv3 h) mlX5_101 vlX5_fits rfl (by decide) rfl rfl (Nat.le_of_ble_eq_true rfl) (by decide) (by decide) rfl rfl hF (fun r3 m4 hr3 hm4 hF => ?_)
      refine x_if_eq (tgt := 65) hC dX5_followers_53 rfl rfl (rg_01 hr3) hF (fun hq5 hF => ?_) (fun hq5 hF => ?_)
      · exact WJ_X5_followers_65 hC ih  v1 hv1 v2 hv2 v3 hv3 v4 hv4 v5 hv5 m4 hm4 hF
      · refine x_iload hC dX5_followers_56 rfl 4 rfl ?_
        refine x_iconst hC dX5_followers_58 rfl ?_
        refine x_iload hC dX5_followers_59 rfl 5 rfl ?_
        refine x_ishl hC dX5_followers_61 rfl ?_
        refine x_ior hC dX5_followers_62 rfl ?_
        refine x_istore (lv' := [(0, .ref (b.1 + 34)), (1, iV v1), (2, iV v2), (3, iV v3), (5, iV v5)]) hC dX5_followers_63 rfl (by decide) rfl (rg_tI _) hF (fun x6 hx6 hF => ?_)
        refine x_sub [1, 2, 3, 4, 0, 5] rfl ?_
        exact WJ_X5_followers_65 hC ih  v1 hv1 v2 hv2 v3 hv3 x6 hx6 v5 hv5 m4 hm4 hF
set_option maxRecDepth 20000 in
set_option maxHeartbeats 4000000 in
theorem WJ_X5_followers_20 {g : Gx} {b : Bs} {o : Mm} {Q : Int → Mm → Prop} (hC : Cok g b RX5 cX5_followers 6 5 (some .int)) (v1 : Int) (hv1 : inR v1) (v2 : Int) (hv2 : inR v2) (v3 : Int) (hv3 : inR v3) (m : Mm) (hm : Rg m) (hF : okR (J_X5_followers_20 v1 v2 v3 m) Q) : X g b (true, o) 6 (ZM g b (true, o) 1 Q) 20 [(0, .ref (b.1 + 34)), (1, iV v1), (2, iV v2), (3, iV v3)] [] m 0 0 := by
  unfold J_X5_followers_20 at hF
  refine x_iconst hC dX5_followers_20 rfl ?_
  refine x_istoreZ (lv' := [(0, .ref (b.1 + 34)), (1, iV v1), (2, iV v2), (3, iV v3)]) hC dX5_followers_21 rfl (by decide) rfl (Or.inl rfl) hF (fun x1 hx1 hF => ?_)
  refine x_iconst hC dX5_followers_23 rfl ?_
  refine x_istoreZ (lv' := [(4, iV x1), (0, .ref (b.1 + 34)), (1, iV v1), (2, iV v2), (3, iV v3)]) hC dX5_followers_24 rfl (by decide) rfl (Or.inl rfl) hF (fun x2 hx2 hF => ?_)
  refine x_sub [2, 3, 4, 5, 1, 0] rfl ?_
  exact WL_X5_followers_26 hC 100000  v1 hv1 v2 hv2 v3 hv3 x1 (rg_01 hx1) x2 (rg_01 hx2) m hm hF
set_option maxRecDepth 20000 in
set_option maxHeartbeats 4000000 in
theorem T_X5_followers (b : Bs) (o : Mm) (m : Mm) (a1 : Int) (ha1 : inR a1) (a2 : Int) (ha2 : inR a2) {r : Int} {m' : Mm} (h : F_X5_followers a1 a2 m = some (r, m')) : Cn yX5_followers cX5_followers 6 (some .int) (5) 0 0 1 b (true, o) m [.ref (b.1 + 34), iV a1, iV a2] (F_X5_followers a1 a2 m) := by
  refine Cn_of rfl (Nat.le_of_ble_eq_true rfl) (fun g hC hm => ?_)
  have hF := okR_some h
  generalize hQ : (fun (r : Int) (m' : Mm) => F_X5_followers a1 a2 m = some (r, m')) = Q at hF ⊢
  clear hQ h
  replace hC : Cok g b RX5 cX5_followers 6 5 (some .int) := hC
  refine x_lv (lv' := [(0, .ref (b.1 + 34)), (1, iV a1), (2, iV a2)]) rfl ?_
  unfold F_X5_followers at hF
  refine x_iload_n hC dX5_followers_0 rfl 1 rfl ?_
  refine x_if_ne (tgt := 11) hC dX5_followers_1 rfl rfl ha1 hF (fun hq1 hF => ?_) (fun hq1 hF => ?_)
  · refine x_aload_n hC dX5_followers_11 rfl 0 rfl ?_
    refine x_getR (t := 35) hC dX5_followers_12 rfl flX5_9 rfl (by decide) rfl rfl ?_
    refine x_iload_n hC dX5_followers_15 rfl 1 rfl ?_
    refine x_iconst hC dX5_followers_16 rfl ?_
    refine x_isub hC dX5_followers_17 rfl ?_
    refine x_iald hC dX5_followers_18 rfl rfl (by decide) rfl hm (rg_wr _) hF (fun x2 hx2 hF => ?_)
    refine x_istore_n (lv' := [(0, .ref (b.1 + 34)), (1, iV a1), (2, iV a2)]) hC dX5_followers_19 rfl rfl (by decide) rfl hx2 hF (fun x3 hx3 hF => ?_)
    refine x_sub [1, 2, 3, 0] rfl ?_
    exact WJ_X5_followers_20 hC  a1 ha1 a2 ha2 x3 hx3 m hm hF
  · refine x_aload_n hC dX5_followers_4 rfl 0 rfl ?_
    refine x_getI hC dX5_followers_5 rfl flX5_85 rfl (by decide) rfl rfl ?_
    refine x_goto (tgt := 19) hC dX5_followers_8 rfl ?_
    refine x_istore_n (lv' := [(0, .ref (b.1 + 34)), (1, iV a1), (2, iV a2)]) hC dX5_followers_19 rfl rfl (by decide) rfl (hm.i 34 13 rfl) hF (fun x4 hx4 hF => ?_)
    refine x_sub [1, 2, 3, 0] rfl ?_
    exact WJ_X5_followers_20 hC  a1 ha1 a2 ha2 x4 hx4 m hm hF
set_option maxRecDepth 20000 in
set_option maxHeartbeats 4000000 in
theorem WL_X5_goOn_117 {g : Gx} {b : Bs} {o : Mm} {Q : Int → Mm → Prop} {k_61 : Int → Int → Mm → Rs} (hC : Cok g b RX5 cX5_goOn 6 6 none) (hk_61 : ∀ v1 : Int, inR v1 → ∀ v3 : Int, inR v3 → ∀ m : Mm, Rg m → okR (k_61 v1 v3 m) Q → X g b (true, o) 6 (ZM g b (true, o) 0 Q) 61 [(0, .ref (b.1 + 34)), (1, iV v1), (3, iV v3)] [] m 0 0) : ∀ n : Nat, ∀ v1 : Int, inR v1 → ∀ v3 : Int, inR v3 → ∀ v4 : Int, inR v4 → ∀ v5 : Int, inR v5 → ∀ m : Mm, Rg m → okR (L_X5_goOn_117 k_61 n v1 v3 v4 v5 m) Q → X g b (true, o) 6 (ZM g b (true, o) 0 Q) 117 [(0, .ref (b.1 + 34)), (1, iV v1), (3, iV v3), (4, iV v4), (5, iV v5)] [] m 0 0 := by
  intro n
  induction n with
  | zero => intro v1 hv1 v3 hv3 v4 hv4 v5 hv5 m hm hF; exact absurd hF (fun z => z)
  | succ n ih =>
    intro v1 hv1 v3 hv3 v4 hv4 v5 hv5 m hm hF
    have hF : okR (LB_X5_goOn_117 k_61 (L_X5_goOn_117 k_61 n) v1 v3 v4 v5 m) Q := hF
    unfold LB_X5_goOn_117 at hF
    refine x_iload hC dX5_goOn_117 rfl 4 rfl ?_
    refine x_bipush hC dX5_goOn_119 rfl rfl ?_
    refine x_icmp_ge (tgt := 155) hC dX5_goOn_121 rfl rfl hv5 (rgc 8 rfl) hF (fun hq1 hF => ?_) (fun hq1 hF => ?_)
    · refine x_iinc (p := 2) (lv' := [(0, .ref (b.1 + 34)), (1, iV v1), (4, iV v4), (5, iV v5)]) hC dX5_goOn_155 rfl rfl (by decide) rfl hF (fun x2 hx2 hF => ?_)
      refine x_goto (tgt := 61) hC dX5_goOn_158 rfl ?_
      refine x_sub [1, 2, 0] rfl ?_
      exact hk_61 v1 hv1 x2 hx2 m hm hF
    · refine x_aload_n hC dX5_goOn_124 rfl 0 rfl ?_
      refine x_getD hC dX5_goOn_125 rfl flX5_31 rfl (by decide) rfl rfl ?_
      refine x_iload hC dX5_goOn_128 rfl 4 rfl ?_
      refine x_dup2 hC dX5_goOn_130 rfl rfl rfl ?_
      refine x_grd hF (fun hg4 hF => ?_)
      refine x_lald hC dX5_goOn_131 rfl (isRw_k hg4).1 (isRw_k hg4).2.1 (isRw_k hg4).2.2 hm hv5 hF (fun x3 hx3 hF => ?_)
      refine x_iload hC dX5_goOn_132 rfl 3 rfl ?_
      refine x_iload hC dX5_goOn_134 rfl 4 rfl ?_
      refine x_ishr hC dX5_goOn_136 rfl ?_
      refine x_iconst hC dX5_goOn_137 rfl ?_
      refine x_iand hC dX5_goOn_138 rfl ?_
      refine x_i2l hC dX5_goOn_139 rfl (rg_tI _) ?_
      refine x_aload_n hC dX5_goOn_140 rfl 0 rfl ?_
      refine x_getD hC dX5_goOn_141 rfl flX5_35 rfl (by decide) rfl rfl ?_
      refine x_iload_n hC dX5_goOn_144 rfl 2 rfl ?_
      refine x_grd hF (fun hg6 hF => ?_)
      refine x_lald hC dX5_goOn_145 rfl (isRw_k hg6).1 (isRw_k hg6).2.1 (isRw_k hg6).2.2 hm hv3 hF (fun x5 hx5 hF => ?_)
      refine x_lmul hC dX5_goOn_146 rfl ?_
      refine x_ladd hC dX5_goOn_147 rfl ?_
      refine x_grd hF (fun hg8 hF => ?_)
      refine x_last hC dX5_goOn_148 rfl (isRw_k hg8).1 (isRw_k hg8).2.1 (isRw_k hg8).2.2 hm hv5 (rg_wl _) hF (fun m7 hm7 hF => ?_)
      refine x_iinc (p := 4) (lv' := [(0, .ref (b.1 + 34)), (1, iV v1), (3, iV v3), (4, iV v4)]) hC dX5_goOn_149 rfl rfl (by decide) rfl hF (fun x9 hx9 hF => ?_)
      refine x_goto (tgt := 117) hC dX5_goOn_152 rfl ?_
      refine x_sub [1, 2, 3, 4, 0] rfl ?_
      exact ih v1 hv1 v3 hv3 v4 hv4 x9 hx9 m7 hm7 hF
set_option maxRecDepth 20000 in
set_option maxHeartbeats 4000000 in
theorem WJ_X5_goOn_90 {g : Gx} {b : Bs} {o : Mm} {Q : Int → Mm → Prop} {k_61 : Int → Int → Mm → Rs} (hC : Cok g b RX5 cX5_goOn 6 6 none) (hk_61 : ∀ v1 : Int, inR v1 → ∀ v3 : Int, inR v3 → ∀ m : Mm, Rg m → okR (k_61 v1 v3 m) Q → X g b (true, o) 6 (ZM g b (true, o) 0 Q) 61 [(0, .ref (b.1 + 34)), (1, iV v1), (3, iV v3)] [] m 0 0) (v1 : Int) (hv1 : inR v1) (v3 : Int) (hv3 : inR v3) (v4 : Int) (hv4 : inR v4) (m : Mm) (hm : Rg m) (hF : okR (J_X5_goOn_90 k_61 v1 v3 v4 m) Q) : X g b (true, o) 6 (ZM g b (true, o) 0 Q) 90 [(0, .ref (b.1 + 34)), (1, iV v1), (3, iV v3), (4, iV v4)] [] m 0 0 := by
  unfold J_X5_goOn_90 at hF
  refine x_aload_n hC dX5_goOn_90 rfl 0 rfl ?_
  refine x_getR (t := 37) hC dX5_goOn_91 rfl flX5_18 rfl (by decide) rfl rfl ?_
  refine x_iload_n hC dX5_goOn_94 rfl 1 rfl ?_
  refine x_bipush hC dX5_goOn_95 rfl rfl ?_
  refine x_imul hC dX5_goOn_97 rfl ?_
  refine x_iload_n hC dX5_goOn_98 rfl 2 rfl ?_
  refine x_iadd hC dX5_goOn_99 rfl ?_
  refine x_iload hC dX5_goOn_100 rfl 3 rfl ?_
  refine x_iast hC dX5_goOn_102 rfl rfl (by decide) rfl hm (rg_wr _) hv4 hF (fun m1 hm1 hF => ?_)
  refine x_aload_n hC dX5_goOn_103 rfl 0 rfl ?_
  refine x_getR (t := 38) hC dX5_goOn_104 rfl flX5_21 rfl (by decide) rfl rfl ?_
  refine x_iload_n hC dX5_goOn_107 rfl 1 rfl ?_
  refine x_dup2 hC dX5_goOn_108 rfl rfl rfl ?_
  refine x_iald hC dX5_goOn_109 rfl rfl (by decide) rfl hm1 hv1 hF (fun x2 hx2 hF => ?_)
  refine x_iload hC dX5_goOn_110 rfl 3 rfl ?_
  refine x_ior hC dX5_goOn_112 rfl ?_
  refine x_iast hC dX5_goOn_113 rfl rfl (by decide) rfl hm1 hv1 (rg_tI _) hF (fun m3 hm3 hF => ?_)
  refine x_iconst hC dX5_goOn_114 rfl ?_
  refine x_istoreZ (lv' := [(0, .ref (b.1 + 34)), (1, iV v1), (3, iV v3), (4, iV v4)]) hC dX5_goOn_115 rfl (by decide) rfl (Or.inl rfl) hF (fun x4 hx4 hF => ?_)
  refine x_sub [1, 2, 3, 4, 0] rfl ?_
  exact WL_X5_goOn_117 hC hk_61 100000  v1 hv1 v3 hv3 v4 hv4 x4 (rg_01 hx4) m3 hm3 hF
set_option maxRecDepth 20000 in
set_option maxHeartbeats 4000000 in
theorem WL_X5_goOn_61 {g : Gx} {b : Bs} {o : Mm} {Q : Int → Mm → Prop} (hC : Cok g b RX5 cX5_goOn 6 6 none) : ∀ n : Nat, ∀ v1 : Int, inR v1 → ∀ v3 : Int, inR v3 → ∀ m : Mm, Rg m → okR (L_X5_goOn_61 n v1 v3 m) Q → X g b (true, o) 6 (ZM g b (true, o) 0 Q) 61 [(0, .ref (b.1 + 34)), (1, iV v1), (3, iV v3)] [] m 0 0 := by
  intro n
  induction n with
  | zero => intro v1 hv1 v3 hv3 m hm hF; exact absurd hF (fun z => z)
  | succ n ih =>
    intro v1 hv1 v3 hv3 m hm hF
    have hF : okR (LB_X5_goOn_61 (L_X5_goOn_61 n) v1 v3 m) Q := hF
    unfold LB_X5_goOn_61 at hF
    refine x_iload_n hC dX5_goOn_61 rfl 2 rfl ?_
    refine x_bipush hC dX5_goOn_62 rfl rfl ?_
    refine x_icmp_gt (tgt := 161) hC dX5_goOn_64 rfl rfl hv3 (rgc 8 rfl) hF (fun hq1 hF => ?_) (fun hq1 hF => ?_)
    · exact x_return hC dX5_goOn_161 hm hF
    · refine x_aload_n hC dX5_goOn_67 rfl 0 rfl ?_
      refine x_getD hC dX5_goOn_68 rfl flX5_35 rfl (by decide) rfl rfl ?_
      refine x_iload_n hC dX5_goOn_71 rfl 2 rfl ?_
      refine x_grd hF (fun hg3 hF => ?_)
      refine x_lald hC dX5_goOn_72 rfl (isRw_k hg3).1 (isRw_k hg3).2.1 (isRw_k hg3).2.2 hm hv3 hF (fun x2 hx2 hF => ?_)
      refine x_lconst (x := 0) hC dX5_goOn_73 rfl rfl ?_
      refine x_lcmp hC dX5_goOn_74 rfl hx2 (rgcL 0 rfl) ?_
      refine x_if_ne (tgt := 82) hC dX5_goOn_75 rfl rfl (rg_lcmp _ _) hF (fun hq4 hF => ?_) (fun hq4 hF => ?_)
      · refine x_aload_n hC dX5_goOn_82 rfl 0 rfl ?_
        refine x_iload_n hC dX5_goOn_83 rfl 1 rfl ?_
        refine x_iload_n hC dX5_goOn_84 rfl 2 rfl ?_
        refine x_callV1 (kc2 := 0) (ks2 := 0) (k := 34) (As := [iV v1, iV v3]) (rest := []) hC dX5_goOn_85 rfl hm (fun _ _ h => T_X5_followers b _ m v1 hv1 v3 hv3 h) mlX5_105 vlX5_followers rfl (by decide) rfl rfl (Nat.le_of_ble_eq_true rfl) (by decide) (by decide) rfl rfl hF (fun r5 m6 hr5 hm6 hF => ?_)
        refine x_istore (lv' := [(0, .ref (b.1 + 34)), (1, iV v1), (3, iV v3)]) hC dX5_goOn_88 rfl (by decide) rfl hr5 hF (fun x7 hx7 hF => ?_)
        refine x_sub [1, 2, 3, 0] rfl ?_
        exact WJ_X5_goOn_90 hC ih  v1 hv1 v3 hv3 x7 hx7 m6 hm6 hF
      · refine x_iconst hC dX5_goOn_78 rfl ?_
        refine x_goto (tgt := 88) hC dX5_goOn_79 rfl ?_
        refine x_istoreZ (lv' := [(0, .ref (b.1 + 34)), (1, iV v1), (3, iV v3)]) hC dX5_goOn_88 rfl (by decide) rfl (Or.inl rfl) hF (fun x8 hx8 hF => ?_)
        refine x_sub [1, 2, 3, 0] rfl ?_
        exact WJ_X5_goOn_90 hC ih  v1 hv1 v3 hv3 x8 (rg_01 hx8) m hm hF
set_option maxRecDepth 20000 in
set_option maxHeartbeats 4000000 in
theorem WL_X5_goOn_33 {g : Gx} {b : Bs} {o : Mm} {Q : Int → Mm → Prop} (hC : Cok g b RX5 cX5_goOn 6 6 none) : ∀ n : Nat, ∀ v1 : Int, inR v1 → ∀ v3 : Int, inR v3 → ∀ m : Mm, Rg m → okR (L_X5_goOn_33 n v1 v3 m) Q → X g b (true, o) 6 (ZM g b (true, o) 0 Q) 33 [(0, .ref (b.1 + 34)), (1, iV v1), (3, iV v3)] [] m 0 0 := by
  intro n
  induction n with
  | zero => intro v1 hv1 v3 hv3 m hm hF; exact absurd hF (fun z => z)
  | succ n ih =>
    intro v1 hv1 v3 hv3 m hm hF
    have hF : okR (LB_X5_goOn_33 (L_X5_goOn_33 n) v1 v3 m) Q := hF
    unfold LB_X5_goOn_33 at hF
    refine x_iload_n hC dX5_goOn_33 rfl 2 rfl ?_
    refine x_bipush hC dX5_goOn_34 rfl rfl ?_
    refine x_icmp_gt (tgt := 52) hC dX5_goOn_36 rfl rfl hv3 (rgc 8 rfl) hF (fun hq1 hF => ?_) (fun hq1 hF => ?_)
    · refine x_aload_n hC dX5_goOn_52 rfl 0 rfl ?_
      refine x_getR (t := 38) hC dX5_goOn_53 rfl flX5_21 rfl (by decide) rfl rfl ?_
      refine x_iload_n hC dX5_goOn_56 rfl 1 rfl ?_
      refine x_iconst hC dX5_goOn_57 rfl ?_
      refine x_iast hC dX5_goOn_58 rfl rfl (by decide) rfl hm hv1 (rgc 0 rfl) hF (fun m2 hm2 hF => ?_)
      refine x_iconst hC dX5_goOn_59 rfl ?_
      refine x_istore_nZ (lv' := [(0, .ref (b.1 + 34)), (1, iV v1)]) hC dX5_goOn_60 rfl rfl (by decide) rfl (Or.inl rfl) hF (fun x3 hx3 hF => ?_)
      refine x_sub [1, 2, 0] rfl ?_
      exact WL_X5_goOn_61 hC 100000  v1 hv1 x3 (rg_01 hx3) m2 hm2 hF
    · refine x_aload_n hC dX5_goOn_39 rfl 0 rfl ?_
      refine x_getD hC dX5_goOn_40 rfl flX5_31 rfl (by decide) rfl rfl ?_
      refine x_iload_n hC dX5_goOn_43 rfl 2 rfl ?_
      refine x_lconst (x := 0) hC dX5_goOn_44 rfl rfl ?_
      refine x_grd hF (fun hg5 hF => ?_)
      refine x_last hC dX5_goOn_45 rfl (isRw_k hg5).1 (isRw_k hg5).2.1 (isRw_k hg5).2.2 hm hv3 (rgcL 0 rfl) hF (fun m4 hm4 hF => ?_)
      refine x_iinc (p := 2) (lv' := [(0, .ref (b.1 + 34)), (1, iV v1)]) hC dX5_goOn_46 rfl rfl (by decide) rfl hF (fun x6 hx6 hF => ?_)
      refine x_goto (tgt := 33) hC dX5_goOn_49 rfl ?_
      refine x_sub [1, 2, 0] rfl ?_
      exact ih v1 hv1 x6 hx6 m4 hm4 hF
set_option maxRecDepth 20000 in
set_option maxHeartbeats 4000000 in
theorem T_X5_goOn (b : Bs) (o : Mm) (m : Mm) (a1 : Int) (ha1 : inR a1) {r : Int} {m' : Mm} (h : F_X5_goOn a1 m = some (r, m')) : Cn yX5_goOn cX5_goOn 6 none (6) 0 0 0 b (true, o) m [.ref (b.1 + 34), iV a1] (F_X5_goOn a1 m) := by
  refine Cn_of rfl (Nat.le_of_ble_eq_true rfl) (fun g hC hm => ?_)
  have hF := okR_some h
  generalize hQ : (fun (r : Int) (m' : Mm) => F_X5_goOn a1 m = some (r, m')) = Q at hF ⊢
  clear hQ h
  replace hC : Cok g b RX5 cX5_goOn 6 6 none := hC
  refine x_lv (lv' := [(0, .ref (b.1 + 34)), (1, iV a1)]) rfl ?_
  unfold F_X5_goOn at hF
  refine x_iload_n hC dX5_goOn_0 rfl 1 rfl ?_
  refine x_if_lt (tgt := 12) hC dX5_goOn_1 rfl rfl ha1 hF (fun hq1 hF => ?_) (fun hq1 hF => ?_)
  · exact x_return hC dX5_goOn_12 hm hF
  · refine x_iload_n hC dX5_goOn_4 rfl 1 rfl ?_
    refine x_aload_n hC dX5_goOn_5 rfl 0 rfl ?_
    refine x_getI hC dX5_goOn_6 rfl flX5_52 rfl (by decide) rfl rfl ?_
    refine x_icmp_lt (tgt := 13) hC dX5_goOn_9 rfl rfl ha1 (hm.i 34 10 rfl) hF (fun hq2 hF => ?_) (fun hq2 hF => ?_)
    · refine x_aload_n hC dX5_goOn_13 rfl 0 rfl ?_
      refine x_getD hC dX5_goOn_14 rfl flX5_31 rfl (by decide) rfl rfl ?_
      refine x_astore_n (lv' := [(0, .ref (b.1 + 34)), (1, iV a1)]) hC dX5_goOn_17 rfl rfl (by decide) rfl ?_
      refine x_aload_n hC dX5_goOn_18 rfl 1 rfl ?_
      refine x_aload_n hC dX5_goOn_19 rfl 1 rfl ?_
      refine x_getD hC dX5_goOn_20 rfl flX5_35 rfl (by decide) rfl rfl ?_
      refine x_putD hC dX5_goOn_23 rfl fpX5_31 rfl (by decide) (by decide) rfl (fun _ => rfl) (fun _ => rfl) rfl hm (rg_nat _ (hm.i 34 9 rfl)) rfl hF (fun m3 hm3 hF => ?_)
      refine x_aload_n hC dX5_goOn_26 rfl 1 rfl ?_
      refine x_aload_n hC dX5_goOn_27 rfl 0 rfl ?_
      refine x_putD hC dX5_goOn_28 rfl fpX5_35 rfl (by decide) (by decide) rfl (fun _ => rfl) (fun _ => rfl) rfl hm3 (rg_nat _ (hm.i 34 8 rfl)) rfl hF (fun m4 hm4 hF => ?_)
      refine x_iconst hC dX5_goOn_31 rfl ?_
      refine x_istore_nZ (lv' := [(2, .ref (b.1 + (m 34 8).toNat)), (0, .ref (b.1 + 34)), (1, iV a1)]) hC dX5_goOn_32 rfl rfl (by decide) rfl (Or.inl rfl) hF (fun x5 hx5 hF => ?_)
      refine x_sub [2, 3, 0] rfl ?_
      exact WL_X5_goOn_33 hC 100000  a1 ha1 x5 (rg_01 hx5) m4 hm4 hF
    · exact x_return hC dX5_goOn_12 hm hF
set_option maxRecDepth 20000 in
set_option maxHeartbeats 4000000 in
theorem WL_X5_howManyRows_4 {g : Gx} {b : Bs} {o : Mm} {Q : Int → Mm → Prop} (hC : Cok g b RX5 cX5_howManyRows 4 0 (some .long)) : ∀ n : Nat, ∀ v1 : Int, inL v1 → ∀ v3 : Int, inR v3 → ∀ m : Mm, Rg m → okR (L_X5_howManyRows_4 n v1 v3 m) Q → X g b (true, o) 4 (ZM g b (true, o) 2 Q) 4 [(0, .ref (b.1 + 34)), (1, lV v1), (3, iV v3)] [] m 0 0 := by
  intro n
  induction n with
  | zero => intro v1 hv1 v3 hv3 m hm hF; exact absurd hF (fun z => z)
  | succ n ih =>
    intro v1 hv1 v3 hv3 m hm hF
    have hF : okR (LB_X5_howManyRows_4 (L_X5_howManyRows_4 n) v1 v3 m) Q := hF
    unfold LB_X5_howManyRows_4 at hF
    refine x_iload_n hC dX5_howManyRows_4 rfl 2 rfl ?_
    refine x_bipush hC dX5_howManyRows_5 rfl rfl ?_
    refine x_icmp_ge (tgt := 25) hC dX5_howManyRows_7 rfl rfl hv3 (rgc 8 rfl) hF (fun hq1 hF => ?_) (fun hq1 hF => ?_)
    · refine x_lload_n hC dX5_howManyRows_25 rfl 1 rfl ?_
      exact x_lreturn hC dX5_howManyRows_26 hm hv1 hF
    · refine x_lload_n hC dX5_howManyRows_10 rfl 1 rfl ?_
      refine x_aload_n hC dX5_howManyRows_11 rfl 0 rfl ?_
      refine x_getD hC dX5_howManyRows_12 rfl flX5_31 rfl (by decide) rfl rfl ?_
      refine x_iload_n hC dX5_howManyRows_15 rfl 2 rfl ?_
      refine x_grd hF (fun hg3 hF => ?_)
      refine x_lald hC dX5_howManyRows_16 rfl (isRw_k hg3).1 (isRw_k hg3).2.1 (isRw_k hg3).2.2 hm hv3 hF (fun x2 hx2 hF => ?_)
      refine x_ladd hC dX5_howManyRows_17 rfl ?_
      refine x_lstore_n (lv' := [(0, .ref (b.1 + 34)), (3, iV v3)]) hC dX5_howManyRows_18 rfl rfl (by decide) rfl (rg_wl _) hF (fun x4 hx4 hF => ?_)
      refine x_iinc (p := 2) (lv' := [(1, lV x4), (0, .ref (b.1 + 34))]) hC dX5_howManyRows_19 rfl rfl (by decide) rfl hF (fun x5 hx5 hF => ?_)
      refine x_goto (tgt := 4) hC dX5_howManyRows_22 rfl ?_
      refine x_sub [2, 1, 0] rfl ?_
      exact ih x4 hx4 x5 hx5 m hm hF
set_option maxRecDepth 20000 in
set_option maxHeartbeats 4000000 in
theorem T_X5_howManyRows (b : Bs) (o : Mm) (m : Mm) {r : Int} {m' : Mm} (h : F_X5_howManyRows  m = some (r, m')) : Cn yX5_howManyRows cX5_howManyRows 4 (some .long) (0) 0 0 2 b (true, o) m [.ref (b.1 + 34)] (F_X5_howManyRows  m) := by
  refine Cn_of rfl (Nat.le_of_ble_eq_true rfl) (fun g hC hm => ?_)
  have hF := okR_some h
  generalize hQ : (fun (r : Int) (m' : Mm) => F_X5_howManyRows  m = some (r, m')) = Q at hF ⊢
  clear hQ h
  replace hC : Cok g b RX5 cX5_howManyRows 4 0 (some .long) := hC
  refine x_lv (lv' := [(0, .ref (b.1 + 34))]) rfl ?_
  unfold F_X5_howManyRows at hF
  refine x_lconst (x := 0) hC dX5_howManyRows_0 rfl rfl ?_
  refine x_lstore_n (lv' := [(0, .ref (b.1 + 34))]) hC dX5_howManyRows_1 rfl rfl (by decide) rfl (rgcL 0 rfl) hF (fun x1 hx1 hF => ?_)
  refine x_iconst hC dX5_howManyRows_2 rfl ?_
  refine x_istore_nZ (lv' := [(1, lV x1), (0, .ref (b.1 + 34))]) hC dX5_howManyRows_3 rfl rfl (by decide) rfl (Or.inl rfl) hF (fun x2 hx2 hF => ?_)
  refine x_sub [2, 1, 0] rfl ?_
  exact WL_X5_howManyRows_4 hC 100000  x1 hx1 x2 (rg_01 hx2) m hm hF
set_option maxRecDepth 20000 in
set_option maxHeartbeats 4000000 in
theorem WJ_X5_keepWhatGoesOn_81 {g : Gx} {b : Bs} {o : Mm} {Q : Int → Mm → Prop} {k_7 : Int → Mm → Rs} {k_13 : Int → Int → Mm → Rs} (hC : Cok g b RX5 cX5_keepWhatGoesOn 4 0 none) (hk_7 : ∀ v1 : Int, inR v1 → ∀ m : Mm, Rg m → okR (k_7 v1 m) Q → X g b (true, o) 4 (ZM g b (true, o) 0 Q) 7 [(0, .ref (b.1 + 34)), (1, iV v1)] [] m 0 0) (hk_13 : ∀ v1 : Int, inR v1 → ∀ v2 : Int, inR v2 → ∀ m : Mm, Rg m → okR (k_13 v1 v2 m) Q → X g b (true, o) 4 (ZM g b (true, o) 0 Q) 13 [(0, .ref (b.1 + 34)), (1, iV v1), (2, iV v2)] [] m 0 0) (v1 : Int) (hv1 : inR v1) (v2 : Int) (hv2 : inR v2) (m : Mm) (hm : Rg m) (hF : okR (J_X5_keepWhatGoesOn_81 k_7 k_13 v1 v2 m) Q) : X g b (true, o) 4 (ZM g b (true, o) 0 Q) 81 [(0, .ref (b.1 + 34)), (1, iV v1), (2, iV v2)] [] m 0 0 := by
  unfold J_X5_keepWhatGoesOn_81 at hF
  refine x_iinc (p := 2) (lv' := [(0, .ref (b.1 + 34)), (1, iV v1)]) hC dX5_keepWhatGoesOn_81 rfl rfl (by decide) rfl hF (fun x1 hx1 hF => ?_)
  refine x_goto (tgt := 13) hC dX5_keepWhatGoesOn_84 rfl ?_
  refine x_sub [1, 2, 0] rfl ?_
  exact hk_13 v1 hv1 x1 hx1 m hm hF
set_option maxRecDepth 20000 in
set_option maxHeartbeats 4000000 in
theorem WJ_X5_keepWhatGoesOn_38 {g : Gx} {b : Bs} {o : Mm} {Q : Int → Mm → Prop} {k_7 : Int → Mm → Rs} {k_13 : Int → Int → Mm → Rs} (hC : Cok g b RX5 cX5_keepWhatGoesOn 4 0 none) (hk_7 : ∀ v1 : Int, inR v1 → ∀ m : Mm, Rg m → okR (k_7 v1 m) Q → X g b (true, o) 4 (ZM g b (true, o) 0 Q) 7 [(0, .ref (b.1 + 34)), (1, iV v1)] [] m 0 0) (hk_13 : ∀ v1 : Int, inR v1 → ∀ v2 : Int, inR v2 → ∀ m : Mm, Rg m → okR (k_13 v1 v2 m) Q → X g b (true, o) 4 (ZM g b (true, o) 0 Q) 13 [(0, .ref (b.1 + 34)), (1, iV v1), (2, iV v2)] [] m 0 0) (v1 : Int) (hv1 : inR v1) (v2 : Int) (hv2 : inR v2) (v3 : Int) (hv3 : (v3 = 0 ∨ v3 = 1)) (m : Mm) (hm : Rg m) (hF : okR (J_X5_keepWhatGoesOn_38 k_7 k_13 v1 v2 v3 m) Q) : X g b (true, o) 4 (ZM g b (true, o) 0 Q) 38 [(0, .ref (b.1 + 34)), (1, iV v1), (2, iV v2), (3, iV v3)] [] m 0 0 := by
  unfold J_X5_keepWhatGoesOn_38 at hF
  refine x_iload_n hC dX5_keepWhatGoesOn_38 rfl 3 rfl ?_
  refine x_if_eq (tgt := 81) hC dX5_keepWhatGoesOn_39 rfl rfl (rg_01 hv3) hF (fun hq1 hF => ?_) (fun hq1 hF => ?_)
  · refine x_sub [0, 1, 2] rfl ?_
    exact WJ_X5_keepWhatGoesOn_81 hC hk_7 hk_13  v1 hv1 v2 hv2 m hm hF
  · refine x_aload_n hC dX5_keepWhatGoesOn_42 rfl 0 rfl ?_
    refine x_getR (t := 37) hC dX5_keepWhatGoesOn_43 rfl flX5_18 rfl (by decide) rfl rfl ?_
    refine x_iload_n hC dX5_keepWhatGoesOn_46 rfl 1 rfl ?_
    refine x_iconst hC dX5_keepWhatGoesOn_47 rfl ?_
    refine x_iadd hC dX5_keepWhatGoesOn_48 rfl ?_
    refine x_bipush hC dX5_keepWhatGoesOn_49 rfl rfl ?_
    refine x_imul hC dX5_keepWhatGoesOn_51 rfl ?_
    refine x_iload_n hC dX5_keepWhatGoesOn_52 rfl 2 rfl ?_
    refine x_iadd hC dX5_keepWhatGoesOn_53 rfl ?_
    refine x_iald hC dX5_keepWhatGoesOn_54 rfl rfl (by decide) rfl hm (rg_wr _) hF (fun x2 hx2 hF => ?_)
    refine x_aload_n hC dX5_keepWhatGoesOn_55 rfl 0 rfl ?_
    refine x_getR (t := 38) hC dX5_keepWhatGoesOn_56 rfl flX5_21 rfl (by decide) rfl rfl ?_
    refine x_iload_n hC dX5_keepWhatGoesOn_59 rfl 1 rfl ?_
    refine x_iconst hC dX5_keepWhatGoesOn_60 rfl ?_
    refine x_iadd hC dX5_keepWhatGoesOn_61 rfl ?_
    refine x_iald hC dX5_keepWhatGoesOn_62 rfl rfl (by decide) rfl hm (rg_wr _) hF (fun x3 hx3 hF => ?_)
    refine x_iand hC dX5_keepWhatGoesOn_63 rfl ?_
    refine x_if_ne (tgt := 81) hC dX5_keepWhatGoesOn_64 rfl rfl (rg_tI _) hF (fun hq4 hF => ?_) (fun hq4 hF => ?_)
    · refine x_sub [0, 1, 2] rfl ?_
      exact WJ_X5_keepWhatGoesOn_81 hC hk_7 hk_13  v1 hv1 v2 hv2 m hm hF
    · refine x_aload_n hC dX5_keepWhatGoesOn_67 rfl 0 rfl ?_
      refine x_getR (t := 38) hC dX5_keepWhatGoesOn_68 rfl flX5_21 rfl (by decide) rfl rfl ?_
      refine x_iload_n hC dX5_keepWhatGoesOn_71 rfl 1 rfl ?_
      refine x_dup2 hC dX5_keepWhatGoesOn_72 rfl rfl rfl ?_
      refine x_iald hC dX5_keepWhatGoesOn_73 rfl rfl (by decide) rfl hm hv1 hF (fun x5 hx5 hF => ?_)
      refine x_iconst hC dX5_keepWhatGoesOn_74 rfl ?_
      refine x_iload_n hC dX5_keepWhatGoesOn_75 rfl 2 rfl ?_
      refine x_ishl hC dX5_keepWhatGoesOn_76 rfl ?_
      refine x_iconst hC dX5_keepWhatGoesOn_77 rfl ?_
      refine x_ixor hC dX5_keepWhatGoesOn_78 rfl ?_
      refine x_iand hC dX5_keepWhatGoesOn_79 rfl ?_
      refine x_iast hC dX5_keepWhatGoesOn_80 rfl rfl (by decide) rfl hm hv1 (rg_tI _) hF (fun m6 hm6 hF => ?_)
      refine x_sub [0, 1, 2] rfl ?_
      exact WJ_X5_keepWhatGoesOn_81 hC hk_7 hk_13  v1 hv1 v2 hv2 m6 hm6 hF
set_option maxRecDepth 20000 in
set_option maxHeartbeats 4000000 in
theorem WL_X5_keepWhatGoesOn_13 {g : Gx} {b : Bs} {o : Mm} {Q : Int → Mm → Prop} {k_7 : Int → Mm → Rs} (hC : Cok g b RX5 cX5_keepWhatGoesOn 4 0 none) (hk_7 : ∀ v1 : Int, inR v1 → ∀ m : Mm, Rg m → okR (k_7 v1 m) Q → X g b (true, o) 4 (ZM g b (true, o) 0 Q) 7 [(0, .ref (b.1 + 34)), (1, iV v1)] [] m 0 0) : ∀ n : Nat, ∀ v1 : Int, inR v1 → ∀ v2 : Int, inR v2 → ∀ m : Mm, Rg m → okR (L_X5_keepWhatGoesOn_13 k_7 n v1 v2 m) Q → X g b (true, o) 4 (ZM g b (true, o) 0 Q) 13 [(0, .ref (b.1 + 34)), (1, iV v1), (2, iV v2)] [] m 0 0 := by
  intro n
  induction n with
  | zero => intro v1 hv1 v2 hv2 m hm hF; exact absurd hF (fun z => z)
  | succ n ih =>
    intro v1 hv1 v2 hv2 m hm hF
    have hF : okR (LB_X5_keepWhatGoesOn_13 k_7 (L_X5_keepWhatGoesOn_13 k_7 n) v1 v2 m) Q := hF
    unfold LB_X5_keepWhatGoesOn_13 at hF
    refine x_iload_n hC dX5_keepWhatGoesOn_13 rfl 2 rfl ?_
    refine x_bipush hC dX5_keepWhatGoesOn_14 rfl rfl ?_
    refine x_icmp_ge (tgt := 87) hC dX5_keepWhatGoesOn_16 rfl rfl hv2 (rgc 8 rfl) hF (fun hq1 hF => ?_) (fun hq1 hF => ?_)
    · refine x_iinc (p := 1) (lv' := [(0, .ref (b.1 + 34)), (2, iV v2)]) hC dX5_keepWhatGoesOn_87 rfl rfl (by decide) rfl hF (fun x2 hx2 hF => ?_)
      refine x_goto (tgt := 7) hC dX5_keepWhatGoesOn_90 rfl ?_
      refine x_sub [1, 0] rfl ?_
      exact hk_7 x2 hx2 m hm hF
    · refine x_aload_n hC dX5_keepWhatGoesOn_19 rfl 0 rfl ?_
      refine x_getR (t := 38) hC dX5_keepWhatGoesOn_20 rfl flX5_21 rfl (by decide) rfl rfl ?_
      refine x_iload_n hC dX5_keepWhatGoesOn_23 rfl 1 rfl ?_
      refine x_iald hC dX5_keepWhatGoesOn_24 rfl rfl (by decide) rfl hm hv1 hF (fun x3 hx3 hF => ?_)
      refine x_iload_n hC dX5_keepWhatGoesOn_25 rfl 2 rfl ?_
      refine x_ishr hC dX5_keepWhatGoesOn_26 rfl ?_
      refine x_iconst hC dX5_keepWhatGoesOn_27 rfl ?_
      refine x_iand hC dX5_keepWhatGoesOn_28 rfl ?_
      refine x_if_eq (tgt := 36) hC dX5_keepWhatGoesOn_29 rfl rfl (rg_tI _) hF (fun hq4 hF => ?_) (fun hq4 hF => ?_)
      · refine x_iconst hC dX5_keepWhatGoesOn_36 rfl ?_
        refine x_istore_nZ (lv' := [(0, .ref (b.1 + 34)), (1, iV v1), (2, iV v2)]) hC dX5_keepWhatGoesOn_37 rfl rfl (by decide) rfl (Or.inl rfl) hF (fun x5 hx5 hF => ?_)
        refine x_sub [1, 2, 3, 0] rfl ?_
        exact WJ_X5_keepWhatGoesOn_38 hC hk_7 ih  v1 hv1 v2 hv2 x5 hx5 m hm hF
      · refine x_iconst hC dX5_keepWhatGoesOn_32 rfl ?_
        refine x_goto (tgt := 37) hC dX5_keepWhatGoesOn_33 rfl ?_
        refine x_istore_nZ (lv' := [(0, .ref (b.1 + 34)), (1, iV v1), (2, iV v2)]) hC dX5_keepWhatGoesOn_37 rfl rfl (by decide) rfl (Or.inr rfl) hF (fun x6 hx6 hF => ?_)
        refine x_sub [1, 2, 3, 0] rfl ?_
        exact WJ_X5_keepWhatGoesOn_38 hC hk_7 ih  v1 hv1 v2 hv2 x6 hx6 m hm hF
set_option maxRecDepth 20000 in
set_option maxHeartbeats 4000000 in
theorem WL_X5_keepWhatGoesOn_7 {g : Gx} {b : Bs} {o : Mm} {Q : Int → Mm → Prop} (hC : Cok g b RX5 cX5_keepWhatGoesOn 4 0 none) : ∀ n : Nat, ∀ v1 : Int, inR v1 → ∀ m : Mm, Rg m → okR (L_X5_keepWhatGoesOn_7 n v1 m) Q → X g b (true, o) 4 (ZM g b (true, o) 0 Q) 7 [(0, .ref (b.1 + 34)), (1, iV v1)] [] m 0 0 := by
  intro n
  induction n with
  | zero => intro v1 hv1 m hm hF; exact absurd hF (fun z => z)
  | succ n ih =>
    intro v1 hv1 m hm hF
    have hF : okR (LB_X5_keepWhatGoesOn_7 (L_X5_keepWhatGoesOn_7 n) v1 m) Q := hF
    unfold LB_X5_keepWhatGoesOn_7 at hF
    refine x_iload_n hC dX5_keepWhatGoesOn_7 rfl 1 rfl ?_
    refine x_if_lt (tgt := 93) hC dX5_keepWhatGoesOn_8 rfl rfl hv1 hF (fun hq1 hF => ?_) (fun hq1 hF => ?_)
    · exact x_return hC dX5_keepWhatGoesOn_93 hm hF
    · refine x_iconst hC dX5_keepWhatGoesOn_11 rfl ?_
      refine x_istore_nZ (lv' := [(0, .ref (b.1 + 34)), (1, iV v1)]) hC dX5_keepWhatGoesOn_12 rfl rfl (by decide) rfl (Or.inl rfl) hF (fun x2 hx2 hF => ?_)
      refine x_sub [1, 2, 0] rfl ?_
      exact WL_X5_keepWhatGoesOn_13 hC ih 100000  v1 hv1 x2 (rg_01 hx2) m hm hF
set_option maxRecDepth 20000 in
set_option maxHeartbeats 4000000 in
theorem T_X5_keepWhatGoesOn (b : Bs) (o : Mm) (m : Mm) {r : Int} {m' : Mm} (h : F_X5_keepWhatGoesOn  m = some (r, m')) : Cn yX5_keepWhatGoesOn cX5_keepWhatGoesOn 4 none (0) 0 0 0 b (true, o) m [.ref (b.1 + 34)] (F_X5_keepWhatGoesOn  m) := by
  refine Cn_of rfl (Nat.le_of_ble_eq_true rfl) (fun g hC hm => ?_)
  have hF := okR_some h
  generalize hQ : (fun (r : Int) (m' : Mm) => F_X5_keepWhatGoesOn  m = some (r, m')) = Q at hF ⊢
  clear hQ h
  replace hC : Cok g b RX5 cX5_keepWhatGoesOn 4 0 none := hC
  refine x_lv (lv' := [(0, .ref (b.1 + 34))]) rfl ?_
  unfold F_X5_keepWhatGoesOn at hF
  refine x_aload_n hC dX5_keepWhatGoesOn_0 rfl 0 rfl ?_
  refine x_getI hC dX5_keepWhatGoesOn_1 rfl flX5_52 rfl (by decide) rfl rfl ?_
  refine x_iconst hC dX5_keepWhatGoesOn_4 rfl ?_
  refine x_isub hC dX5_keepWhatGoesOn_5 rfl ?_
  refine x_istore_n (lv' := [(0, .ref (b.1 + 34))]) hC dX5_keepWhatGoesOn_6 rfl rfl (by decide) rfl (rg_wr _) hF (fun x1 hx1 hF => ?_)
  refine x_sub [1, 0] rfl ?_
  exact WL_X5_keepWhatGoesOn_7 hC 100000  x1 hx1 m hm hF
set_option maxRecDepth 20000 in
set_option maxHeartbeats 4000000 in
theorem T_X5_whoMay (b : Bs) (o : Mm) (m : Mm) (a1 : Int) (ha1 : inR a1) {r : Int} {m' : Mm} (h : F_X5_whoMay a1 m = some (r, m')) : Cn yX5_whoMay cX5_whoMay 2 (some .int) (0) 0 0 1 b (true, o) m [.ref (b.1 + 34), iV a1] (F_X5_whoMay a1 m) := by
  refine Cn_of rfl (Nat.le_of_ble_eq_true rfl) (fun g hC hm => ?_)
  have hF := okR_some h
  generalize hQ : (fun (r : Int) (m' : Mm) => F_X5_whoMay a1 m = some (r, m')) = Q at hF ⊢
  clear hQ h
  replace hC : Cok g b RX5 cX5_whoMay 2 0 (some .int) := hC
  refine x_lv (lv' := [(0, .ref (b.1 + 34)), (1, iV a1)]) rfl ?_
  unfold F_X5_whoMay at hF
  refine x_iload_n hC dX5_whoMay_0 rfl 1 rfl ?_
  refine x_if_lt (tgt := 21) hC dX5_whoMay_1 rfl rfl ha1 hF (fun hq1 hF => ?_) (fun hq1 hF => ?_)
  · refine x_iconst hC dX5_whoMay_21 rfl ?_
    exact x_ireturn hC dX5_whoMay_22 hm (rgc 0 rfl) hF
  · refine x_iload_n hC dX5_whoMay_4 rfl 1 rfl ?_
    refine x_aload_n hC dX5_whoMay_5 rfl 0 rfl ?_
    refine x_getI hC dX5_whoMay_6 rfl flX5_52 rfl (by decide) rfl rfl ?_
    refine x_icmp_ge (tgt := 21) hC dX5_whoMay_9 rfl rfl ha1 (hm.i 34 10 rfl) hF (fun hq2 hF => ?_) (fun hq2 hF => ?_)
    · refine x_iconst hC dX5_whoMay_21 rfl ?_
      exact x_ireturn hC dX5_whoMay_22 hm (rgc 0 rfl) hF
    · refine x_aload_n hC dX5_whoMay_12 rfl 0 rfl ?_
      refine x_getR (t := 38) hC dX5_whoMay_13 rfl flX5_21 rfl (by decide) rfl rfl ?_
      refine x_iload_n hC dX5_whoMay_16 rfl 1 rfl ?_
      refine x_iald hC dX5_whoMay_17 rfl rfl (by decide) rfl hm ha1 hF (fun x3 hx3 hF => ?_)
      refine x_goto (tgt := 22) hC dX5_whoMay_18 rfl ?_
      exact x_ireturn hC dX5_whoMay_22 hm hx3 hF
set_option maxRecDepth 20000 in
set_option maxHeartbeats 4000000 in
theorem T_X5_firstMissed (b : Bs) (o : Mm) (m : Mm) (a1 : Int) (ha1 : inR a1) {r : Int} {m' : Mm} (h : F_X5_firstMissed a1 m = some (r, m')) : Cn yX5_firstMissed cX5_firstMissed 2 (some .int) (0) 0 0 1 b (true, o) m [.ref (b.1 + 34), iV a1] (F_X5_firstMissed a1 m) := by
  refine Cn_of rfl (Nat.le_of_ble_eq_true rfl) (fun g hC hm => ?_)
  have hF := okR_some h
  generalize hQ : (fun (r : Int) (m' : Mm) => F_X5_firstMissed a1 m = some (r, m')) = Q at hF ⊢
  clear hQ h
  replace hC : Cok g b RX5 cX5_firstMissed 2 0 (some .int) := hC
  refine x_lv (lv' := [(0, .ref (b.1 + 34)), (1, iV a1)]) rfl ?_
  unfold F_X5_firstMissed at hF
  refine x_iload_n hC dX5_firstMissed_0 rfl 1 rfl ?_
  refine x_if_lt (tgt := 22) hC dX5_firstMissed_1 rfl rfl ha1 hF (fun hq1 hF => ?_) (fun hq1 hF => ?_)
  · refine x_iconst hC dX5_firstMissed_22 rfl ?_
    exact x_ireturn hC dX5_firstMissed_23 hm (rgc (-1) rfl) hF
  · refine x_iload_n hC dX5_firstMissed_4 rfl 1 rfl ?_
    refine x_aload_n hC dX5_firstMissed_5 rfl 0 rfl ?_
    refine x_getR (t := 39) hC dX5_firstMissed_6 rfl flX5_24 rfl (by decide) rfl rfl ?_
    refine x_alenS (x := 3) hC dX5_firstMissed_9 rfl rfl (by decide) rfl ?_
    refine x_icmp_ge (tgt := 22) hC dX5_firstMissed_10 rfl rfl ha1 (rgc 3 rfl) hF (fun hq2 hF => ?_) (fun hq2 hF => ?_)
    · refine x_iconst hC dX5_firstMissed_22 rfl ?_
      exact x_ireturn hC dX5_firstMissed_23 hm (rgc (-1) rfl) hF
    · refine x_aload_n hC dX5_firstMissed_13 rfl 0 rfl ?_
      refine x_getR (t := 39) hC dX5_firstMissed_14 rfl flX5_24 rfl (by decide) rfl rfl ?_
      refine x_iload_n hC dX5_firstMissed_17 rfl 1 rfl ?_
      refine x_iald hC dX5_firstMissed_18 rfl rfl (by decide) rfl hm ha1 hF (fun x3 hx3 hF => ?_)
      refine x_goto (tgt := 23) hC dX5_firstMissed_19 rfl ?_
      exact x_ireturn hC dX5_firstMissed_23 hm hx3 hF
set_option maxRecDepth 20000 in
set_option maxHeartbeats 4000000 in
theorem WJ_X5_judgeRest_82 {g : Gx} {b : Bs} {o : Mm} {Q : Int → Mm → Prop} {k_29 : Int → Int → Mm → Rs} (hC : Cok g b RX5 cX5_judgeRest 3 5 none) (hk_29 : ∀ v1 : Int, inR v1 → ∀ v2 : Int, inR v2 → ∀ m : Mm, Rg m → okR (k_29 v1 v2 m) Q → X g b (true, o) 3 (ZM g b (true, o) 0 Q) 29 [(0, .ref (b.1 + 34)), (1, iV v1), (2, iV v2)] [] m 0 0) (v1 : Int) (hv1 : inR v1) (v2 : Int) (hv2 : inR v2) (m : Mm) (hm : Rg m) (hF : okR (J_X5_judgeRest_82 k_29 v1 v2 m) Q) : X g b (true, o) 3 (ZM g b (true, o) 0 Q) 82 [(0, .ref (b.1 + 34)), (1, iV v1), (2, iV v2)] [] m 0 0 := by
  unfold J_X5_judgeRest_82 at hF
  refine x_iinc (p := 2) (lv' := [(0, .ref (b.1 + 34)), (1, iV v1)]) hC dX5_judgeRest_82 rfl rfl (by decide) rfl hF (fun x1 hx1 hF => ?_)
  refine x_goto (tgt := 29) hC dX5_judgeRest_85 rfl ?_
  refine x_sub [1, 2, 0] rfl ?_
  exact hk_29 v1 hv1 x1 hx1 m hm hF
set_option maxRecDepth 20000 in
set_option maxHeartbeats 4000000 in
theorem WL_X5_judgeRest_29 {g : Gx} {b : Bs} {o : Mm} {Q : Int → Mm → Prop} (hC : Cok g b RX5 cX5_judgeRest 3 5 none) : ∀ n : Nat, ∀ v1 : Int, inR v1 → ∀ v2 : Int, inR v2 → ∀ m : Mm, Rg m → okR (L_X5_judgeRest_29 n v1 v2 m) Q → X g b (true, o) 3 (ZM g b (true, o) 0 Q) 29 [(0, .ref (b.1 + 34)), (1, iV v1), (2, iV v2)] [] m 0 0 := by
  intro n
  induction n with
  | zero => intro v1 hv1 v2 hv2 m hm hF; exact absurd hF (fun z => z)
  | succ n ih =>
    intro v1 hv1 v2 hv2 m hm hF
    have hF : okR (LB_X5_judgeRest_29 (L_X5_judgeRest_29 n) v1 v2 m) Q := hF
    unfold LB_X5_judgeRest_29 at hF
    refine x_iload_n hC dX5_judgeRest_29 rfl 2 rfl ?_
    refine x_iconst hC dX5_judgeRest_30 rfl ?_
    refine x_icmp_lt (tgt := 88) hC dX5_judgeRest_31 rfl rfl hv2 (rgc 2 rfl) hF (fun hq1 hF => ?_) (fun hq1 hF => ?_)
    · exact x_return hC dX5_judgeRest_88 hm hF
    · refine x_aload_n hC dX5_judgeRest_34 rfl 0 rfl ?_
      refine x_getR (t := 40) hC dX5_judgeRest_35 rfl flX5_27 rfl (by decide) rfl rfl ?_
      refine x_iload_n hC dX5_judgeRest_38 rfl 2 rfl ?_
      refine x_aload_n hC dX5_judgeRest_39 rfl 0 rfl ?_
      refine x_getR (t := 40) hC dX5_judgeRest_40 rfl flX5_27 rfl (by decide) rfl rfl ?_
      refine x_iload_n hC dX5_judgeRest_43 rfl 2 rfl ?_
      refine x_iconst hC dX5_judgeRest_44 rfl ?_
      refine x_iadd hC dX5_judgeRest_45 rfl ?_
      refine x_zald hC dX5_judgeRest_46 rfl rfl (by decide) rfl hm (rg_wr _) hF (fun x2 hx2 hF => ?_)
      refine x_if_eq (tgt := 80) hC dX5_judgeRest_47 rfl rfl (rg_01 hx2) hF (fun hq3 hF => ?_) (fun hq3 hF => ?_)
      · refine x_iconst hC dX5_judgeRest_80 rfl ?_
        refine x_zast hC dX5_judgeRest_81 rfl rfl (by decide) rfl hm hv2 (Or.inl rfl) hF (fun m4 hm4 hF => ?_)
        exact WJ_X5_judgeRest_82 hC ih  v1 hv1 v2 hv2 m4 hm4 hF
      · refine x_aload_n hC dX5_judgeRest_50 rfl 0 rfl ?_
        refine x_iload_n hC dX5_judgeRest_51 rfl 2 rfl ?_
        refine x_iconst hC dX5_judgeRest_52 rfl ?_
        refine x_iadd hC dX5_judgeRest_53 rfl ?_
        refine x_aload_n hC dX5_judgeRest_54 rfl 0 rfl ?_
        refine x_getR (t := 35) hC dX5_judgeRest_55 rfl flX5_9 rfl (by decide) rfl rfl ?_
        refine x_iload_n hC dX5_judgeRest_58 rfl 2 rfl ?_
        refine x_iald hC dX5_judgeRest_59 rfl rfl (by decide) rfl hm hv2 hF (fun x5 hx5 hF => ?_)
        refine x_iload_n hC dX5_judgeRest_60 rfl 1 rfl ?_
        refine x_iload_n hC dX5_judgeRest_61 rfl 1 rfl ?_
        refine x_aload_n hC dX5_judgeRest_62 rfl 0 rfl ?_
        refine x_getR (t := 35) hC dX5_judgeRest_63 rfl flX5_9 rfl (by decide) rfl rfl ?_
        refine x_iload_n hC dX5_judgeRest_66 rfl 2 rfl ?_
        refine x_iconst hC dX5_judgeRest_67 rfl ?_
        refine x_isub hC dX5_judgeRest_68 rfl ?_
        refine x_iald hC dX5_judgeRest_69 rfl rfl (by decide) rfl hm (rg_wr _) hF (fun x6 hx6 hF => ?_)
        refine x_callV3 (kc2 := 0) (ks2 := 0) (k := 34) (As := [iV (wr (v2 + 1)), iV x5, iV v1, iV v1, iV x6]) (rest := [iV v2, .ref (b.1 + 40)]) hC dX5_judgeRest_70 rfl hm (fun _ _ h => T_X5_fits b _ m (wr (v2 + 1)) (rg_wr _) x5 hx5 v1 hv1 v1 hv1 x6 hx6 h) mlX5_101 vlX5_fits rfl (by decide) rfl rfl (Nat.le_of_ble_eq_true rfl) (by decide) (by decide) rfl rfl hF (fun r7 m8 hr7 hm8 hF => ?_)
        refine x_if_eq (tgt := 80) hC dX5_judgeRest_73 rfl rfl (rg_01 hr7) hF (fun hq9 hF => ?_) (fun hq9 hF => ?_)
        · refine x_iconst hC dX5_judgeRest_80 rfl ?_
          refine x_zast hC dX5_judgeRest_81 rfl rfl (by decide) rfl hm8 hv2 (Or.inl rfl) hF (fun m10 hm10 hF => ?_)
          exact WJ_X5_judgeRest_82 hC ih  v1 hv1 v2 hv2 m10 hm10 hF
        · refine x_iconst hC dX5_judgeRest_76 rfl ?_
          refine x_goto (tgt := 81) hC dX5_judgeRest_77 rfl ?_
          refine x_zast hC dX5_judgeRest_81 rfl rfl (by decide) rfl hm8 hv2 (Or.inr rfl) hF (fun m11 hm11 hF => ?_)
          exact WJ_X5_judgeRest_82 hC ih  v1 hv1 v2 hv2 m11 hm11 hF
set_option maxRecDepth 20000 in
set_option maxHeartbeats 4000000 in
theorem T_X5_judgeRest (b : Bs) (o : Mm) (m : Mm) (a1 : Int) (ha1 : inR a1) {r : Int} {m' : Mm} (h : F_X5_judgeRest a1 m = some (r, m')) : Cn yX5_judgeRest cX5_judgeRest 3 none (5) 0 0 0 b (true, o) m [.ref (b.1 + 34), iV a1] (F_X5_judgeRest a1 m) := by
  refine Cn_of rfl (Nat.le_of_ble_eq_true rfl) (fun g hC hm => ?_)
  have hF := okR_some h
  generalize hQ : (fun (r : Int) (m' : Mm) => F_X5_judgeRest a1 m = some (r, m')) = Q at hF ⊢
  clear hQ h
  replace hC : Cok g b RX5 cX5_judgeRest 3 5 none := hC
  refine x_lv (lv' := [(0, .ref (b.1 + 34)), (1, iV a1)]) rfl ?_
  unfold F_X5_judgeRest at hF
  refine x_aload_n hC dX5_judgeRest_0 rfl 0 rfl ?_
  refine x_getR (t := 40) hC dX5_judgeRest_1 rfl flX5_27 rfl (by decide) rfl rfl ?_
  refine x_aload_n hC dX5_judgeRest_4 rfl 0 rfl ?_
  refine x_getI hC dX5_judgeRest_5 rfl flX5_52 rfl (by decide) rfl rfl ?_
  refine x_iconst hC dX5_judgeRest_8 rfl ?_
  refine x_iadd hC dX5_judgeRest_9 rfl ?_
  refine x_iconst hC dX5_judgeRest_10 rfl ?_
  refine x_zast hC dX5_judgeRest_11 rfl rfl (by decide) rfl hm (rg_wr _) (Or.inr rfl) hF (fun m1 hm1 hF => ?_)
  refine x_aload_n hC dX5_judgeRest_12 rfl 0 rfl ?_
  refine x_getR (t := 40) hC dX5_judgeRest_13 rfl flX5_27 rfl (by decide) rfl rfl ?_
  refine x_aload_n hC dX5_judgeRest_16 rfl 0 rfl ?_
  refine x_getI hC dX5_judgeRest_17 rfl flX5_52 rfl (by decide) rfl rfl ?_
  refine x_iconst hC dX5_judgeRest_20 rfl ?_
  refine x_zast hC dX5_judgeRest_21 rfl rfl (by decide) rfl hm1 (hm1.i 34 10 rfl) (Or.inr rfl) hF (fun m2 hm2 hF => ?_)
  refine x_aload_n hC dX5_judgeRest_22 rfl 0 rfl ?_
  refine x_getI hC dX5_judgeRest_23 rfl flX5_52 rfl (by decide) rfl rfl ?_
  refine x_iconst hC dX5_judgeRest_26 rfl ?_
  refine x_isub hC dX5_judgeRest_27 rfl ?_
  refine x_istore_n (lv' := [(0, .ref (b.1 + 34)), (1, iV a1)]) hC dX5_judgeRest_28 rfl rfl (by decide) rfl (rg_wr _) hF (fun x3 hx3 hF => ?_)
  refine x_sub [1, 2, 0] rfl ?_
  exact WL_X5_judgeRest_29 hC 100000  a1 ha1 x3 hx3 m2 hm2 hF
set_option maxRecDepth 20000 in
set_option maxHeartbeats 4000000 in
theorem WJ_X5_note_28 {g : Gx} {b : Bs} {o : Mm} {Q : Int → Mm → Prop} (hC : Cok g b RX5 cX5_note 4 0 none) (m : Mm) (hm : Rg m) (hF : okR (J_X5_note_28  m) Q) : X g b (true, o) 4 (ZM g b (true, o) 0 Q) 28 [(0, .ref (b.1 + 34))] [] m 0 0 := by
  unfold J_X5_note_28 at hF
  refine x_aload_n hC dX5_note_28 rfl 0 rfl ?_
  refine x_dup hC dX5_note_29 rfl rfl ?_
  refine x_getI hC dX5_note_30 rfl flX5_108 rfl (by decide) rfl rfl ?_
  refine x_iconst hC dX5_note_33 rfl ?_
  refine x_iadd hC dX5_note_34 rfl ?_
  refine x_putI hC dX5_note_35 rfl fpX5_108 rfl (by decide) (by decide) rfl rfl hm (rg_wr _) rfl hF (fun m1 hm1 hF => ?_)
  exact x_return hC dX5_note_38 hm1 hF
set_option maxRecDepth 20000 in
set_option maxHeartbeats 4000000 in
theorem T_X5_note (b : Bs) (o : Mm) (m : Mm) (a1 : Int) (ha1 : inR a1) (a2 : Int) (ha2 : inR a2) (a3 : Int) (ha3 : inR a3) {r : Int} {m' : Mm} (h : F_X5_note a1 a2 a3 m = some (r, m')) : Cn yX5_note cX5_note 4 none (0) 0 0 0 b (true, o) m [.ref (b.1 + 34), iV a1, iV a2, iV a3] (F_X5_note a1 a2 a3 m) := by
  refine Cn_of rfl (Nat.le_of_ble_eq_true rfl) (fun g hC hm => ?_)
  have hF := okR_some h
  generalize hQ : (fun (r : Int) (m' : Mm) => F_X5_note a1 a2 a3 m = some (r, m')) = Q at hF ⊢
  clear hQ h
  replace hC : Cok g b RX5 cX5_note 4 0 none := hC
  refine x_lv (lv' := [(0, .ref (b.1 + 34)), (1, iV a1), (2, iV a2), (3, iV a3)]) rfl ?_
  unfold F_X5_note at hF
  refine x_aload_n hC dX5_note_0 rfl 0 rfl ?_
  refine x_getI hC dX5_note_1 rfl flX5_108 rfl (by decide) rfl rfl ?_
  refine x_if_ne (tgt := 28) hC dX5_note_4 rfl rfl (hm.i 34 14 rfl) hF (fun hq1 hF => ?_) (fun hq1 hF => ?_)
  · refine x_sub [0] rfl ?_
    exact WJ_X5_note_28 hC   m hm hF
  · refine x_aload_n hC dX5_note_7 rfl 0 rfl ?_
    refine x_getR (t := 39) hC dX5_note_8 rfl flX5_24 rfl (by decide) rfl rfl ?_
    refine x_iconst hC dX5_note_11 rfl ?_
    refine x_iload_n hC dX5_note_12 rfl 1 rfl ?_
    refine x_iast hC dX5_note_13 rfl rfl (by decide) rfl hm (rgc 0 rfl) ha1 hF (fun m2 hm2 hF => ?_)
    refine x_aload_n hC dX5_note_14 rfl 0 rfl ?_
    refine x_getR (t := 39) hC dX5_note_15 rfl flX5_24 rfl (by decide) rfl rfl ?_
    refine x_iconst hC dX5_note_18 rfl ?_
    refine x_iload_n hC dX5_note_19 rfl 2 rfl ?_
    refine x_iast hC dX5_note_20 rfl rfl (by decide) rfl hm2 (rgc 1 rfl) ha2 hF (fun m3 hm3 hF => ?_)
    refine x_aload_n hC dX5_note_21 rfl 0 rfl ?_
    refine x_getR (t := 39) hC dX5_note_22 rfl flX5_24 rfl (by decide) rfl rfl ?_
    refine x_iconst hC dX5_note_25 rfl ?_
    refine x_iload_n hC dX5_note_26 rfl 3 rfl ?_
    refine x_iast hC dX5_note_27 rfl rfl (by decide) rfl hm3 (rgc 2 rfl) ha3 hF (fun m4 hm4 hF => ?_)
    refine x_sub [0] rfl ?_
    exact WJ_X5_note_28 hC   m4 hm4 hF
set_option maxRecDepth 20000 in
set_option maxHeartbeats 4000000 in
theorem WJ_X5_missWithin_125 {g : Gx} {b : Bs} {o : Mm} {Q : Int → Mm → Prop} {k_3 : Int → Int → Int → Int → Int → Mm → Rs} {k_67 : Int → Int → Int → Int → Int → Int → Int → Int → Mm → Rs} (hC : Cok g b RX5 cX5_missWithin 9 5 none) (hk_3 : ∀ v1 : Int, inR v1 → ∀ v2 : Int, inR v2 → ∀ v3 : Int, inR v3 → ∀ v4 : Int, inR v4 → ∀ v5 : Int, inR v5 → ∀ m : Mm, Rg m → okR (k_3 v1 v2 v3 v4 v5 m) Q → X g b (true, o) 9 (ZM g b (true, o) 0 Q) 3 [(0, .ref (b.1 + 34)), (1, iV v1), (2, iV v2), (3, iV v3), (4, iV v4), (5, iV v5)] [] m 0 0) (hk_67 : ∀ v1 : Int, inR v1 → ∀ v2 : Int, inR v2 → ∀ v3 : Int, inR v3 → ∀ v4 : Int, inR v4 → ∀ v5 : Int, inR v5 → ∀ v6 : Int, inR v6 → ∀ v7 : Int, (v7 = 0 ∨ v7 = 1) → ∀ v8 : Int, inR v8 → ∀ m : Mm, Rg m → okR (k_67 v1 v2 v3 v4 v5 v6 v7 v8 m) Q → X g b (true, o) 9 (ZM g b (true, o) 0 Q) 67 [(0, .ref (b.1 + 34)), (1, iV v1), (2, iV v2), (3, iV v3), (4, iV v4), (5, iV v5), (6, iV v6), (7, iV v7), (8, iV v8)] [] m 0 0) (v1 : Int) (hv1 : inR v1) (v2 : Int) (hv2 : inR v2) (v3 : Int) (hv3 : inR v3) (v4 : Int) (hv4 : inR v4) (v5 : Int) (hv5 : inR v5) (v6 : Int) (hv6 : inR v6) (v7 : Int) (hv7 : (v7 = 0 ∨ v7 = 1)) (v8 : Int) (hv8 : inR v8) (m : Mm) (hm : Rg m) (hF : okR (J_X5_missWithin_125 k_3 k_67 v1 v2 v3 v4 v5 v6 v7 v8 m) Q) : X g b (true, o) 9 (ZM g b (true, o) 0 Q) 125 [(0, .ref (b.1 + 34)), (1, iV v1), (2, iV v2), (3, iV v3), (4, iV v4), (5, iV v5), (6, iV v6), (7, iV v7), (8, iV v8)] [] m 0 0 := by
  unfold J_X5_missWithin_125 at hF
  refine x_iinc (p := 8) (lv' := [(0, .ref (b.1 + 34)), (1, iV v1), (2, iV v2), (3, iV v3), (4, iV v4), (5, iV v5), (6, iV v6), (7, iV v7)]) hC dX5_missWithin_125 rfl rfl (by decide) rfl hF (fun x1 hx1 hF => ?_)
  refine x_goto (tgt := 67) hC dX5_missWithin_128 rfl ?_
  refine x_sub [1, 2, 3, 4, 5, 6, 7, 8, 0] rfl ?_
  exact hk_67 v1 hv1 v2 hv2 v3 hv3 v4 hv4 v5 hv5 v6 hv6 v7 hv7 x1 hx1 m hm hF
set_option maxRecDepth 20000 in
set_option maxHeartbeats 4000000 in
theorem WJ_X5_missWithin_131 {g : Gx} {b : Bs} {o : Mm} {Q : Int → Mm → Prop} {k_3 : Int → Int → Int → Int → Int → Mm → Rs} (hC : Cok g b RX5 cX5_missWithin 9 5 none) (hk_3 : ∀ v1 : Int, inR v1 → ∀ v2 : Int, inR v2 → ∀ v3 : Int, inR v3 → ∀ v4 : Int, inR v4 → ∀ v5 : Int, inR v5 → ∀ m : Mm, Rg m → okR (k_3 v1 v2 v3 v4 v5 m) Q → X g b (true, o) 9 (ZM g b (true, o) 0 Q) 3 [(0, .ref (b.1 + 34)), (1, iV v1), (2, iV v2), (3, iV v3), (4, iV v4), (5, iV v5)] [] m 0 0) (v1 : Int) (hv1 : inR v1) (v2 : Int) (hv2 : inR v2) (v3 : Int) (hv3 : inR v3) (v4 : Int) (hv4 : inR v4) (v5 : Int) (hv5 : inR v5) (m : Mm) (hm : Rg m) (hF : okR (J_X5_missWithin_131 k_3 v1 v2 v3 v4 v5 m) Q) : X g b (true, o) 9 (ZM g b (true, o) 0 Q) 131 [(0, .ref (b.1 + 34)), (1, iV v1), (2, iV v2), (3, iV v3), (4, iV v4), (5, iV v5)] [] m 0 0 := by
  unfold J_X5_missWithin_131 at hF
  refine x_iinc (p := 5) (lv' := [(0, .ref (b.1 + 34)), (1, iV v1), (2, iV v2), (3, iV v3), (4, iV v4)]) hC dX5_missWithin_131 rfl rfl (by decide) rfl hF (fun x1 hx1 hF => ?_)
  refine x_goto (tgt := 3) hC dX5_missWithin_134 rfl ?_
  refine x_sub [1, 2, 3, 4, 5, 0] rfl ?_
  exact hk_3 v1 hv1 v2 hv2 v3 hv3 v4 hv4 x1 hx1 m hm hF
set_option maxRecDepth 20000 in
set_option maxHeartbeats 4000000 in
theorem WL_X5_missWithin_67 {g : Gx} {b : Bs} {o : Mm} {Q : Int → Mm → Prop} {k_3 : Int → Int → Int → Int → Int → Mm → Rs} (hC : Cok g b RX5 cX5_missWithin 9 5 none) (hk_3 : ∀ v1 : Int, inR v1 → ∀ v2 : Int, inR v2 → ∀ v3 : Int, inR v3 → ∀ v4 : Int, inR v4 → ∀ v5 : Int, inR v5 → ∀ m : Mm, Rg m → okR (k_3 v1 v2 v3 v4 v5 m) Q → X g b (true, o) 9 (ZM g b (true, o) 0 Q) 3 [(0, .ref (b.1 + 34)), (1, iV v1), (2, iV v2), (3, iV v3), (4, iV v4), (5, iV v5)] [] m 0 0) : ∀ n : Nat, ∀ v1 : Int, inR v1 → ∀ v2 : Int, inR v2 → ∀ v3 : Int, inR v3 → ∀ v4 : Int, inR v4 → ∀ v5 : Int, inR v5 → ∀ v6 : Int, inR v6 → ∀ v7 : Int, (v7 = 0 ∨ v7 = 1) → ∀ v8 : Int, inR v8 → ∀ m : Mm, Rg m → okR (L_X5_missWithin_67 k_3 n v1 v2 v3 v4 v5 v6 v7 v8 m) Q → X g b (true, o) 9 (ZM g b (true, o) 0 Q) 67 [(0, .ref (b.1 + 34)), (1, iV v1), (2, iV v2), (3, iV v3), (4, iV v4), (5, iV v5), (6, iV v6), (7, iV v7), (8, iV v8)] [] m 0 0 := by
  intro n
  induction n with
  | zero => intro v1 hv1 v2 hv2 v3 hv3 v4 hv4 v5 hv5 v6 hv6 v7 hv7 v8 hv8 m hm hF; exact absurd hF (fun z => z)
  | succ n ih =>
    intro v1 hv1 v2 hv2 v3 hv3 v4 hv4 v5 hv5 v6 hv6 v7 hv7 v8 hv8 m hm hF
    have hF : okR (LB_X5_missWithin_67 k_3 (L_X5_missWithin_67 k_3 n) v1 v2 v3 v4 v5 v6 v7 v8 m) Q := hF
    unfold LB_X5_missWithin_67 at hF
    refine x_iload hC dX5_missWithin_67 rfl 7 rfl ?_
    refine x_if_eq (tgt := 131) hC dX5_missWithin_69 rfl rfl (rg_01 hv7) hF (fun hq1 hF => ?_) (fun hq1 hF => ?_)
    · refine x_sub [0, 1, 2, 3, 4, 5] rfl ?_
      exact WJ_X5_missWithin_131 hC hk_3  v1 hv1 v2 hv2 v3 hv3 v4 hv4 v5 hv5 m hm hF
    · refine x_iload hC dX5_missWithin_72 rfl 8 rfl ?_
      refine x_aload_n hC dX5_missWithin_74 rfl 0 rfl ?_
      refine x_getR (t := 1) hC dX5_missWithin_75 rfl flX5_38 rfl (by decide) rfl rfl ?_
      refine x_getI hC dX5_missWithin_78 rfl flX5_100 rfl (by decide) rfl rfl ?_
      refine x_icmp_ge (tgt := 131) hC dX5_missWithin_81 rfl rfl hv8 (hm.i 1 5 rfl) hF (fun hq2 hF => ?_) (fun hq2 hF => ?_)
      · refine x_sub [0, 1, 2, 3, 4, 5] rfl ?_
        exact WJ_X5_missWithin_131 hC hk_3  v1 hv1 v2 hv2 v3 hv3 v4 hv4 v5 hv5 m hm hF
      · refine x_aload_n hC dX5_missWithin_84 rfl 0 rfl ?_
        refine x_iload_n hC dX5_missWithin_85 rfl 1 rfl ?_
        refine x_iload hC dX5_missWithin_86 rfl 5 rfl ?_
        refine x_iload hC dX5_missWithin_88 rfl 8 rfl ?_
        refine x_iload_n hC dX5_missWithin_90 rfl 3 rfl ?_
        refine x_iload hC dX5_missWithin_91 rfl 4 rfl ?_
        refine x_callV3 (kc2 := 0) (ks2 := 0) (k := 34) (As := [iV v1, iV v5, iV v8, iV v3, iV v4]) (rest := []) hC dX5_missWithin_93 rfl hm (fun _ _ h => T_X5_fits b _ m v1 hv1 v5 hv5 v8 hv8 v3 hv3 v4 hv4 h) mlX5_101 vlX5_fits rfl (by decide) rfl rfl (Nat.le_of_ble_eq_true rfl) (by decide) (by decide) rfl rfl hF (fun r3 m4 hr3 hm4 hF => ?_)
        refine x_if_eq (tgt := 125) hC dX5_missWithin_96 rfl rfl (rg_01 hr3) hF (fun hq5 hF => ?_) (fun hq5 hF => ?_)
        · exact WJ_X5_missWithin_125 hC hk_3 ih  v1 hv1 v2 hv2 v3 hv3 v4 hv4 v5 hv5 v6 hv6 v7 hv7 v8 hv8 m4 hm4 hF
        · refine x_aload_n hC dX5_missWithin_99 rfl 0 rfl ?_
          refine x_iload_n hC dX5_missWithin_100 rfl 1 rfl ?_
          refine x_iconst hC dX5_missWithin_101 rfl ?_
          refine x_iadd hC dX5_missWithin_102 rfl ?_
          refine x_iload hC dX5_missWithin_103 rfl 6 rfl ?_
          refine x_iload_n hC dX5_missWithin_105 rfl 2 rfl ?_
          refine x_iload hC dX5_missWithin_106 rfl 8 rfl ?_
          refine x_iload hC dX5_missWithin_108 rfl 5 rfl ?_
          refine x_callV3 (kc2 := 0) (ks2 := 0) (k := 34) (As := [iV (wr (v1 + 1)), iV v6, iV v2, iV v8, iV v5]) (rest := []) hC dX5_missWithin_110 rfl hm4 (fun _ _ h => T_X5_fits b _ m4 (wr (v1 + 1)) (rg_wr _) v6 hv6 v2 hv2 v8 hv8 v5 hv5 h) mlX5_101 vlX5_fits rfl (by decide) rfl rfl (Nat.le_of_ble_eq_true rfl) (by decide) (by decide) rfl rfl hF (fun r6 m7 hr6 hm7 hF => ?_)
          refine x_if_eq (tgt := 125) hC dX5_missWithin_113 rfl rfl (rg_01 hr6) hF (fun hq8 hF => ?_) (fun hq8 hF => ?_)
          · exact WJ_X5_missWithin_125 hC hk_3 ih  v1 hv1 v2 hv2 v3 hv3 v4 hv4 v5 hv5 v6 hv6 v7 hv7 v8 hv8 m7 hm7 hF
          · refine x_aload_n hC dX5_missWithin_116 rfl 0 rfl ?_
            refine x_iload_n hC dX5_missWithin_117 rfl 1 rfl ?_
            refine x_iload hC dX5_missWithin_118 rfl 5 rfl ?_
            refine x_iload hC dX5_missWithin_120 rfl 8 rfl ?_
            refine x_callV0 (kc2 := 0) (ks2 := 0) (k := 34) (As := [iV v1, iV v5, iV v8]) (rest := []) hC dX5_missWithin_122 rfl hm7 (fun _ _ h => T_X5_note b _ m7 v1 hv1 v5 hv5 v8 hv8 h) mlX5_119 vlX5_note rfl (by decide) rfl rfl (Nat.le_of_ble_eq_true rfl) (by decide) (by decide) rfl rfl hF (fun r9 m10 hr9 hm10 hF => ?_)
            exact WJ_X5_missWithin_125 hC hk_3 ih  v1 hv1 v2 hv2 v3 hv3 v4 hv4 v5 hv5 v6 hv6 v7 hv7 v8 hv8 m10 hm10 hF
set_option maxRecDepth 20000 in
set_option maxHeartbeats 4000000 in
theorem WJ_X5_missWithin_64 {g : Gx} {b : Bs} {o : Mm} {Q : Int → Mm → Prop} {k_3 : Int → Int → Int → Int → Int → Mm → Rs} (hC : Cok g b RX5 cX5_missWithin 9 5 none) (hk_3 : ∀ v1 : Int, inR v1 → ∀ v2 : Int, inR v2 → ∀ v3 : Int, inR v3 → ∀ v4 : Int, inR v4 → ∀ v5 : Int, inR v5 → ∀ m : Mm, Rg m → okR (k_3 v1 v2 v3 v4 v5 m) Q → X g b (true, o) 9 (ZM g b (true, o) 0 Q) 3 [(0, .ref (b.1 + 34)), (1, iV v1), (2, iV v2), (3, iV v3), (4, iV v4), (5, iV v5)] [] m 0 0) (v1 : Int) (hv1 : inR v1) (v2 : Int) (hv2 : inR v2) (v3 : Int) (hv3 : inR v3) (v4 : Int) (hv4 : inR v4) (v5 : Int) (hv5 : inR v5) (v6 : Int) (hv6 : inR v6) (v7 : Int) (hv7 : (v7 = 0 ∨ v7 = 1)) (m : Mm) (hm : Rg m) (hF : okR (J_X5_missWithin_64 k_3 v1 v2 v3 v4 v5 v6 v7 m) Q) : X g b (true, o) 9 (ZM g b (true, o) 0 Q) 64 [(0, .ref (b.1 + 34)), (1, iV v1), (2, iV v2), (3, iV v3), (4, iV v4), (5, iV v5), (6, iV v6), (7, iV v7)] [] m 0 0 := by
  unfold J_X5_missWithin_64 at hF
  refine x_iconst hC dX5_missWithin_64 rfl ?_
  refine x_istoreZ (lv' := [(0, .ref (b.1 + 34)), (1, iV v1), (2, iV v2), (3, iV v3), (4, iV v4), (5, iV v5), (6, iV v6), (7, iV v7)]) hC dX5_missWithin_65 rfl (by decide) rfl (Or.inl rfl) hF (fun x1 hx1 hF => ?_)
  refine x_sub [1, 2, 3, 4, 5, 6, 7, 8, 0] rfl ?_
  exact WL_X5_missWithin_67 hC hk_3 100000  v1 hv1 v2 hv2 v3 hv3 v4 hv4 v5 hv5 v6 hv6 v7 hv7 x1 (rg_01 hx1) m hm hF
set_option maxRecDepth 20000 in
set_option maxHeartbeats 4000000 in
theorem WJ_X5_missWithin_57 {g : Gx} {b : Bs} {o : Mm} {Q : Int → Mm → Prop} {k_3 : Int → Int → Int → Int → Int → Mm → Rs} (hC : Cok g b RX5 cX5_missWithin 9 5 none) (hk_3 : ∀ v1 : Int, inR v1 → ∀ v2 : Int, inR v2 → ∀ v3 : Int, inR v3 → ∀ v4 : Int, inR v4 → ∀ v5 : Int, inR v5 → ∀ m : Mm, Rg m → okR (k_3 v1 v2 v3 v4 v5 m) Q → X g b (true, o) 9 (ZM g b (true, o) 0 Q) 3 [(0, .ref (b.1 + 34)), (1, iV v1), (2, iV v2), (3, iV v3), (4, iV v4), (5, iV v5)] [] m 0 0) (v1 : Int) (hv1 : inR v1) (v2 : Int) (hv2 : inR v2) (v3 : Int) (hv3 : inR v3) (v4 : Int) (hv4 : inR v4) (v5 : Int) (hv5 : inR v5) (v6 : Int) (hv6 : inR v6) (m : Mm) (hm : Rg m) (hF : okR (J_X5_missWithin_57 k_3 v1 v2 v3 v4 v5 v6 m) Q) : X g b (true, o) 9 (ZM g b (true, o) 0 Q) 57 [(0, .ref (b.1 + 34)), (1, iV v1), (2, iV v2), (3, iV v3), (4, iV v4), (5, iV v5), (6, iV v6)] [] m 0 0 := by
  unfold J_X5_missWithin_57 at hF
  refine x_iconst hC dX5_missWithin_57 rfl ?_
  refine x_goto (tgt := 62) hC dX5_missWithin_58 rfl ?_
  refine x_istoreZ (lv' := [(0, .ref (b.1 + 34)), (1, iV v1), (2, iV v2), (3, iV v3), (4, iV v4), (5, iV v5), (6, iV v6)]) hC dX5_missWithin_62 rfl (by decide) rfl (Or.inr rfl) hF (fun x1 hx1 hF => ?_)
  refine x_sub [1, 2, 3, 4, 5, 6, 7, 0] rfl ?_
  exact WJ_X5_missWithin_64 hC hk_3  v1 hv1 v2 hv2 v3 hv3 v4 hv4 v5 hv5 v6 hv6 x1 hx1 m hm hF
set_option maxRecDepth 20000 in
set_option maxHeartbeats 4000000 in
theorem WL_X5_missWithin_3 {g : Gx} {b : Bs} {o : Mm} {Q : Int → Mm → Prop} (hC : Cok g b RX5 cX5_missWithin 9 5 none) : ∀ n : Nat, ∀ v1 : Int, inR v1 → ∀ v2 : Int, inR v2 → ∀ v3 : Int, inR v3 → ∀ v4 : Int, inR v4 → ∀ v5 : Int, inR v5 → ∀ m : Mm, Rg m → okR (L_X5_missWithin_3 n v1 v2 v3 v4 v5 m) Q → X g b (true, o) 9 (ZM g b (true, o) 0 Q) 3 [(0, .ref (b.1 + 34)), (1, iV v1), (2, iV v2), (3, iV v3), (4, iV v4), (5, iV v5)] [] m 0 0 := by
  intro n
  induction n with
  | zero => intro v1 hv1 v2 hv2 v3 hv3 v4 hv4 v5 hv5 m hm hF; exact absurd hF (fun z => z)
  | succ n ih =>
    intro v1 hv1 v2 hv2 v3 hv3 v4 hv4 v5 hv5 m hm hF
    have hF : okR (LB_X5_missWithin_3 (L_X5_missWithin_3 n) v1 v2 v3 v4 v5 m) Q := hF
    unfold LB_X5_missWithin_3 at hF
    refine x_iload hC dX5_missWithin_3 rfl 5 rfl ?_
    refine x_aload_n hC dX5_missWithin_5 rfl 0 rfl ?_
    refine x_getR (t := 35) hC dX5_missWithin_6 rfl flX5_9 rfl (by decide) rfl rfl ?_
    refine x_iload_n hC dX5_missWithin_9 rfl 1 rfl ?_
    refine x_iald hC dX5_missWithin_10 rfl rfl (by decide) rfl hm hv1 hF (fun x1 hx1 hF => ?_)
    refine x_icmp_ge (tgt := 137) hC dX5_missWithin_11 rfl rfl hv5 hx1 hF (fun hq2 hF => ?_) (fun hq2 hF => ?_)
    · exact x_return hC dX5_missWithin_137 hm hF
    · refine x_aload_n hC dX5_missWithin_14 rfl 0 rfl ?_
      refine x_getR (t := 35) hC dX5_missWithin_15 rfl flX5_9 rfl (by decide) rfl rfl ?_
      refine x_iload_n hC dX5_missWithin_18 rfl 1 rfl ?_
      refine x_iald hC dX5_missWithin_19 rfl rfl (by decide) rfl hm hv1 hF (fun x3 hx3 hF => ?_)
      refine x_iload hC dX5_missWithin_20 rfl 5 rfl ?_
      refine x_isub hC dX5_missWithin_22 rfl ?_
      refine x_istore (lv' := [(0, .ref (b.1 + 34)), (1, iV v1), (2, iV v2), (3, iV v3), (4, iV v4), (5, iV v5)]) hC dX5_missWithin_23 rfl (by decide) rfl (rg_wr _) hF (fun x4 hx4 hF => ?_)
      refine x_iload_n hC dX5_missWithin_25 rfl 2 rfl ?_
      refine x_iconst hC dX5_missWithin_26 rfl ?_
      refine x_iadd hC dX5_missWithin_27 rfl ?_
      refine x_aload_n hC dX5_missWithin_28 rfl 1 rfl ?_
      refine x_getI hC dX5_missWithin_29 rfl flX5_52 rfl (by decide) rfl rfl ?_
      refine x_icmp_ge (tgt := 57) hC dX5_missWithin_32 rfl rfl (rg_wr _) (hm.i 34 10 rfl) hF (fun hq5 hF => ?_) (fun hq5 hF => ?_)
      · refine x_sub [1, 2, 3, 4, 5, 6, 0] rfl ?_
        exact WJ_X5_missWithin_57 hC ih  v1 hv1 v2 hv2 v3 hv3 v4 hv4 v5 hv5 x4 hx4 m hm hF
      · refine x_aload_n hC dX5_missWithin_35 rfl 1 rfl ?_
        refine x_iload_n hC dX5_missWithin_36 rfl 2 rfl ?_
        refine x_iconst hC dX5_missWithin_37 rfl ?_
        refine x_iadd hC dX5_missWithin_38 rfl ?_
        refine x_aload_n hC dX5_missWithin_39 rfl 1 rfl ?_
        refine x_getR (t := 35) hC dX5_missWithin_40 rfl flX5_9 rfl (by decide) rfl rfl ?_
        refine x_iload_n hC dX5_missWithin_43 rfl 2 rfl ?_
        refine x_iconst hC dX5_missWithin_44 rfl ?_
        refine x_iadd hC dX5_missWithin_45 rfl ?_
        refine x_iald hC dX5_missWithin_46 rfl rfl (by decide) rfl hm (rg_wr _) hF (fun x6 hx6 hF => ?_)
        refine x_iload_n hC dX5_missWithin_47 rfl 3 rfl ?_
        refine x_iload_n hC dX5_missWithin_48 rfl 3 rfl ?_
        refine x_iload hC dX5_missWithin_49 rfl 0 rfl ?_
        refine x_callV3 (kc2 := 0) (ks2 := 0) (k := 34) (As := [iV (wr (v1 + 2)), iV x6, iV v2, iV v2, iV x4]) (rest := []) hC dX5_missWithin_51 rfl hm (fun _ _ h => T_X5_fits b _ m (wr (v1 + 2)) (rg_wr _) x6 hx6 v2 hv2 v2 hv2 x4 hx4 h) mlX5_101 vlX5_fits rfl (by decide) rfl rfl (Nat.le_of_ble_eq_true rfl) (by decide) (by decide) rfl rfl hF (fun r7 m8 hr7 hm8 hF => ?_)
        refine x_if_eq (tgt := 61) hC dX5_missWithin_54 rfl rfl (rg_01 hr7) hF (fun hq9 hF => ?_) (fun hq9 hF => ?_)
        · refine x_iconst hC dX5_missWithin_61 rfl ?_
          refine x_istoreZ (lv' := [(6, iV x4), (0, .ref (b.1 + 34)), (1, iV v1), (2, iV v2), (3, iV v3), (4, iV v4), (5, iV v5)]) hC dX5_missWithin_62 rfl (by decide) rfl (Or.inl rfl) hF (fun x10 hx10 hF => ?_)
          refine x_sub [2, 3, 4, 5, 6, 7, 1, 0] rfl ?_
          exact WJ_X5_missWithin_64 hC ih  v1 hv1 v2 hv2 v3 hv3 v4 hv4 v5 hv5 x4 hx4 x10 hx10 m8 hm8 hF
        · refine x_sub [1, 2, 3, 4, 5, 6, 0] rfl ?_
          exact WJ_X5_missWithin_57 hC ih  v1 hv1 v2 hv2 v3 hv3 v4 hv4 v5 hv5 x4 hx4 m8 hm8 hF
set_option maxRecDepth 20000 in
set_option maxHeartbeats 4000000 in
theorem T_X5_missWithin (b : Bs) (o : Mm) (m : Mm) (a1 : Int) (ha1 : inR a1) (a2 : Int) (ha2 : inR a2) (a3 : Int) (ha3 : inR a3) (a4 : Int) (ha4 : inR a4) {r : Int} {m' : Mm} (h : F_X5_missWithin a1 a2 a3 a4 m = some (r, m')) : Cn yX5_missWithin cX5_missWithin 9 none (5) 0 0 0 b (true, o) m [.ref (b.1 + 34), iV a1, iV a2, iV a3, iV a4] (F_X5_missWithin a1 a2 a3 a4 m) := by
  refine Cn_of rfl (Nat.le_of_ble_eq_true rfl) (fun g hC hm => ?_)
  have hF := okR_some h
  generalize hQ : (fun (r : Int) (m' : Mm) => F_X5_missWithin a1 a2 a3 a4 m = some (r, m')) = Q at hF ⊢
  clear hQ h
  replace hC : Cok g b RX5 cX5_missWithin 9 5 none := hC
  refine x_lv (lv' := [(0, .ref (b.1 + 34)), (1, iV a1), (2, iV a2), (3, iV a3), (4, iV a4)]) rfl ?_
  unfold F_X5_missWithin at hF
  refine x_iconst hC dX5_missWithin_0 rfl ?_
  refine x_istoreZ (lv' := [(0, .ref (b.1 + 34)), (1, iV a1), (2, iV a2), (3, iV a3), (4, iV a4)]) hC dX5_missWithin_1 rfl (by decide) rfl (Or.inr rfl) hF (fun x1 hx1 hF => ?_)
  refine x_sub [1, 2, 3, 4, 5, 0] rfl ?_
  exact WL_X5_missWithin_3 hC 100000  a1 ha1 a2 ha2 a3 ha3 a4 ha4 x1 (rg_01 hx1) m hm hF
set_option maxRecDepth 20000 in
set_option maxHeartbeats 4000000 in
theorem WJ_X5_waysToMiss_53 {g : Gx} {b : Bs} {o : Mm} {Q : Int → Mm → Prop} {k_23 : Int → Int → Int → Int → Mm → Rs} (hC : Cok g b RX5 cX5_waysToMiss 5 6 (some .int)) (hk_23 : ∀ v1 : Int, inR v1 → ∀ v2 : Int, inR v2 → ∀ v3 : Int, inR v3 → ∀ v4 : Int, inR v4 → ∀ m : Mm, Rg m → okR (k_23 v1 v2 v3 v4 m) Q → X g b (true, o) 5 (ZM g b (true, o) 1 Q) 23 [(0, .ref (b.1 + 34)), (1, iV v1), (2, iV v2), (3, iV v3), (4, iV v4)] [] m 0 0) (v1 : Int) (hv1 : inR v1) (v2 : Int) (hv2 : inR v2) (v3 : Int) (hv3 : inR v3) (v4 : Int) (hv4 : inR v4) (m : Mm) (hm : Rg m) (hF : okR (J_X5_waysToMiss_53 k_23 v1 v2 v3 v4 m) Q) : X g b (true, o) 5 (ZM g b (true, o) 1 Q) 53 [(0, .ref (b.1 + 34)), (1, iV v1), (2, iV v2), (3, iV v3), (4, iV v4)] [] m 0 0 := by
  unfold J_X5_waysToMiss_53 at hF
  refine x_aload_n hC dX5_waysToMiss_53 rfl 0 rfl ?_
  refine x_iload hC dX5_waysToMiss_54 rfl 4 rfl ?_
  refine x_aload_n hC dX5_waysToMiss_56 rfl 0 rfl ?_
  refine x_getR (t := 35) hC dX5_waysToMiss_57 rfl flX5_9 rfl (by decide) rfl rfl ?_
  refine x_iload hC dX5_waysToMiss_60 rfl 4 rfl ?_
  refine x_iald hC dX5_waysToMiss_62 rfl rfl (by decide) rfl hm hv4 hF (fun x1 hx1 hF => ?_)
  refine x_iload_n hC dX5_waysToMiss_63 rfl 1 rfl ?_
  refine x_iload_n hC dX5_waysToMiss_64 rfl 2 rfl ?_
  refine x_iload_n hC dX5_waysToMiss_65 rfl 3 rfl ?_
  refine x_callV3 (kc2 := 0) (ks2 := 0) (k := 34) (As := [iV v4, iV x1, iV v1, iV v2, iV v3]) (rest := []) hC dX5_waysToMiss_66 rfl hm (fun _ _ h => T_X5_fits b _ m v4 hv4 x1 hx1 v1 hv1 v2 hv2 v3 hv3 h) mlX5_101 vlX5_fits rfl (by decide) rfl rfl (Nat.le_of_ble_eq_true rfl) (by decide) (by decide) rfl rfl hF (fun r2 m3 hr2 hm3 hF => ?_)
  refine x_if_ne (tgt := 77) hC dX5_waysToMiss_69 rfl rfl (rg_01 hr2) hF (fun hq4 hF => ?_) (fun hq4 hF => ?_)
  · refine x_iload_n hC dX5_waysToMiss_77 rfl 1 rfl ?_
    refine x_istore_n (lv' := [(0, .ref (b.1 + 34)), (1, iV v1), (3, iV v3), (4, iV v4)]) hC dX5_waysToMiss_78 rfl rfl (by decide) rfl hv1 hF (fun x5 hx5 hF => ?_)
    refine x_aload_n hC dX5_waysToMiss_79 rfl 1 rfl ?_
    refine x_getR (t := 35) hC dX5_waysToMiss_80 rfl flX5_9 rfl (by decide) rfl rfl ?_
    refine x_iload hC dX5_waysToMiss_83 rfl 4 rfl ?_
    refine x_iald hC dX5_waysToMiss_85 rfl rfl (by decide) rfl hm3 hv4 hF (fun x6 hx6 hF => ?_)
    refine x_istore_n (lv' := [(2, iV x5), (0, .ref (b.1 + 34)), (1, iV v1), (4, iV v4)]) hC dX5_waysToMiss_86 rfl rfl (by decide) rfl hx6 hF (fun x7 hx7 hF => ?_)
    refine x_iinc (p := 4) (lv' := [(3, iV x7), (2, iV x5), (0, .ref (b.1 + 34)), (1, iV v1)]) hC dX5_waysToMiss_87 rfl rfl (by decide) rfl hF (fun x8 hx8 hF => ?_)
    refine x_goto (tgt := 23) hC dX5_waysToMiss_90 rfl ?_
    refine x_sub [3, 4, 2, 1, 0] rfl ?_
    exact hk_23 v1 hv1 x5 hx5 x7 hx7 x8 hx8 m3 hm3 hF
  · refine x_aload_n hC dX5_waysToMiss_72 rfl 0 rfl ?_
    refine x_getI hC dX5_waysToMiss_73 rfl flX5_108 rfl (by decide) rfl rfl ?_
    exact x_ireturn hC dX5_waysToMiss_76 hm3 (hm3.i 34 14 rfl) hF
set_option maxRecDepth 20000 in
set_option maxHeartbeats 4000000 in
theorem WL_X5_waysToMiss_23 {g : Gx} {b : Bs} {o : Mm} {Q : Int → Mm → Prop} (hC : Cok g b RX5 cX5_waysToMiss 5 6 (some .int)) : ∀ n : Nat, ∀ v1 : Int, inR v1 → ∀ v2 : Int, inR v2 → ∀ v3 : Int, inR v3 → ∀ v4 : Int, inR v4 → ∀ m : Mm, Rg m → okR (L_X5_waysToMiss_23 n v1 v2 v3 v4 m) Q → X g b (true, o) 5 (ZM g b (true, o) 1 Q) 23 [(0, .ref (b.1 + 34)), (1, iV v1), (2, iV v2), (3, iV v3), (4, iV v4)] [] m 0 0 := by
  intro n
  induction n with
  | zero => intro v1 hv1 v2 hv2 v3 hv3 v4 hv4 m hm hF; exact absurd hF (fun z => z)
  | succ n ih =>
    intro v1 hv1 v2 hv2 v3 hv3 v4 hv4 m hm hF
    have hF : okR (LB_X5_waysToMiss_23 (L_X5_waysToMiss_23 n) v1 v2 v3 v4 m) Q := hF
    unfold LB_X5_waysToMiss_23 at hF
    refine x_iload hC dX5_waysToMiss_23 rfl 4 rfl ?_
    refine x_aload_n hC dX5_waysToMiss_25 rfl 0 rfl ?_
    refine x_getI hC dX5_waysToMiss_26 rfl flX5_52 rfl (by decide) rfl rfl ?_
    refine x_icmp_ge (tgt := 93) hC dX5_waysToMiss_29 rfl rfl hv4 (hm.i 34 10 rfl) hF (fun hq1 hF => ?_) (fun hq1 hF => ?_)
    · refine x_aload_n hC dX5_waysToMiss_93 rfl 0 rfl ?_
      refine x_getI hC dX5_waysToMiss_94 rfl flX5_108 rfl (by decide) rfl rfl ?_
      exact x_ireturn hC dX5_waysToMiss_97 hm (hm.i 34 14 rfl) hF
    · refine x_aload_n hC dX5_waysToMiss_32 rfl 0 rfl ?_
      refine x_getR (t := 40) hC dX5_waysToMiss_33 rfl flX5_27 rfl (by decide) rfl rfl ?_
      refine x_iload hC dX5_waysToMiss_36 rfl 4 rfl ?_
      refine x_iconst hC dX5_waysToMiss_38 rfl ?_
      refine x_iadd hC dX5_waysToMiss_39 rfl ?_
      refine x_zald hC dX5_waysToMiss_40 rfl rfl (by decide) rfl hm (rg_wr _) hF (fun x2 hx2 hF => ?_)
      refine x_if_eq (tgt := 53) hC dX5_waysToMiss_41 rfl rfl (rg_01 hx2) hF (fun hq3 hF => ?_) (fun hq3 hF => ?_)
      · exact WJ_X5_waysToMiss_53 hC ih  v1 hv1 v2 hv2 v3 hv3 v4 hv4 m hm hF
      · refine x_aload_n hC dX5_waysToMiss_44 rfl 0 rfl ?_
        refine x_iload hC dX5_waysToMiss_45 rfl 4 rfl ?_
        refine x_iload_n hC dX5_waysToMiss_47 rfl 1 rfl ?_
        refine x_iload_n hC dX5_waysToMiss_48 rfl 2 rfl ?_
        refine x_iload_n hC dX5_waysToMiss_49 rfl 3 rfl ?_
        refine x_callV0 (kc2 := 0) (ks2 := 0) (k := 34) (As := [iV v4, iV v1, iV v2, iV v3]) (rest := []) hC dX5_waysToMiss_50 rfl hm (fun _ _ h => T_X5_missWithin b _ m v4 hv4 v1 hv1 v2 hv2 v3 hv3 h) mlX5_115 vlX5_missWithin rfl (by decide) rfl rfl (Nat.le_of_ble_eq_true rfl) (by decide) (by decide) rfl rfl hF (fun r4 m5 hr4 hm5 hF => ?_)
        exact WJ_X5_waysToMiss_53 hC ih  v1 hv1 v2 hv2 v3 hv3 v4 hv4 m5 hm5 hF
set_option maxRecDepth 20000 in
set_option maxHeartbeats 4000000 in
theorem T_X5_waysToMiss (b : Bs) (o : Mm) (m : Mm) (a1 : Int) (ha1 : inR a1) {r : Int} {m' : Mm} (h : F_X5_waysToMiss a1 m = some (r, m')) : Cn yX5_waysToMiss cX5_waysToMiss 5 (some .int) (6) 0 0 1 b (true, o) m [.ref (b.1 + 34), iV a1] (F_X5_waysToMiss a1 m) := by
  refine Cn_of rfl (Nat.le_of_ble_eq_true rfl) (fun g hC hm => ?_)
  have hF := okR_some h
  generalize hQ : (fun (r : Int) (m' : Mm) => F_X5_waysToMiss a1 m = some (r, m')) = Q at hF ⊢
  clear hQ h
  replace hC : Cok g b RX5 cX5_waysToMiss 5 6 (some .int) := hC
  refine x_lv (lv' := [(0, .ref (b.1 + 34)), (1, iV a1)]) rfl ?_
  unfold F_X5_waysToMiss at hF
  refine x_aload_n hC dX5_waysToMiss_0 rfl 0 rfl ?_
  refine x_iconst hC dX5_waysToMiss_1 rfl ?_
  refine x_putI hC dX5_waysToMiss_2 rfl fpX5_108 rfl (by decide) (by decide) rfl rfl hm (rgc 0 rfl) rfl hF (fun m1 hm1 hF => ?_)
  refine x_aload_n hC dX5_waysToMiss_5 rfl 0 rfl ?_
  refine x_iload_n hC dX5_waysToMiss_6 rfl 1 rfl ?_
  refine x_callV0 (kc2 := 0) (ks2 := 0) (k := 34) (As := [iV a1]) (rest := []) hC dX5_waysToMiss_7 rfl hm1 (fun _ _ h => T_X5_judgeRest b _ m1 a1 ha1 h) mlX5_111 vlX5_judgeRest rfl (by decide) rfl rfl (Nat.le_of_ble_eq_true rfl) (by decide) (by decide) rfl rfl hF (fun r2 m3 hr2 hm3 hF => ?_)
  refine x_aload_n hC dX5_waysToMiss_10 rfl 0 rfl ?_
  refine x_getI hC dX5_waysToMiss_11 rfl flX5_79 rfl (by decide) rfl rfl ?_
  refine x_istore_n (lv' := [(0, .ref (b.1 + 34)), (1, iV a1)]) hC dX5_waysToMiss_14 rfl rfl (by decide) rfl (hm3.i 34 12 rfl) hF (fun x4 hx4 hF => ?_)
  refine x_aload_n hC dX5_waysToMiss_15 rfl 1 rfl ?_
  refine x_getI hC dX5_waysToMiss_16 rfl flX5_85 rfl (by decide) rfl rfl ?_
  refine x_istore_n (lv' := [(2, iV x4), (0, .ref (b.1 + 34)), (1, iV a1)]) hC dX5_waysToMiss_19 rfl rfl (by decide) rfl (hm3.i 34 13 rfl) hF (fun x5 hx5 hF => ?_)
  refine x_iconst hC dX5_waysToMiss_20 rfl ?_
  refine x_istoreZ (lv' := [(3, iV x5), (2, iV x4), (0, .ref (b.1 + 34)), (1, iV a1)]) hC dX5_waysToMiss_21 rfl (by decide) rfl (Or.inl rfl) hF (fun x6 hx6 hF => ?_)
  refine x_sub [3, 4, 2, 1, 0] rfl ?_
  exact WL_X5_waysToMiss_23 hC 100000  a1 ha1 x4 hx4 x5 hx5 x6 (rg_01 hx6) m3 hm3 hF
set_option maxRecDepth 20000 in
set_option maxHeartbeats 4000000 in
theorem WL_X6_begin_2 {g : Gx} {b : Bs} {o : Mm} {Q : Int → Mm → Prop} (hC : Cok g b RX6 cX6_begin 3 1 none) : ∀ n : Nat, ∀ v1 : Int, inR v1 → ∀ v2 : Int, inR v2 → ∀ m : Mm, Rg m → okR (L_X6_begin_2 n v1 v2 m) Q → X g b (true, o) 3 (ZM g b (true, o) 0 Q) 2 [(0, .ref (b.1 + 52)), (1, iV v1), (2, iV v2)] [] m 0 0 := by
  intro n
  induction n with
  | zero => intro v1 hv1 v2 hv2 m hm hF; exact absurd hF (fun z => z)
  | succ n ih =>
    intro v1 hv1 v2 hv2 m hm hF
    have hF : okR (LB_X6_begin_2 (L_X6_begin_2 n) v1 v2 m) Q := hF
    unfold LB_X6_begin_2 at hF
    refine x_iload_n hC dX6_begin_2 rfl 2 rfl ?_
    refine x_bipush hC dX6_begin_3 rfl rfl ?_
    refine x_icmp_ge (tgt := 21) hC dX6_begin_5 rfl rfl hv2 (rgc 8 rfl) hF (fun hq1 hF => ?_) (fun hq1 hF => ?_)
    · refine x_aload_n hC dX6_begin_21 rfl 0 rfl ?_
      refine x_aload_n hC dX6_begin_22 rfl 0 rfl ?_
      refine x_getR (t := 1) hC dX6_begin_23 rfl flX6_15 rfl (by decide) rfl rfl ?_
      refine x_iload_n hC dX6_begin_26 rfl 1 rfl ?_
      refine x_callV1 (kc2 := 0) (ks2 := 0) (k := 1) (As := [iV v1]) (rest := [.ref (b.1 + 52)]) hC dX6_begin_27 rfl hm (fun _ _ h => T_X4_wordsOf b _ m v1 hv1 h) mlX6_47 vlX4_wordsOf rfl (by decide) rfl rfl (Nat.le_of_ble_eq_true rfl) (by decide) (by decide) rfl rfl hF (fun r2 m3 hr2 hm3 hF => ?_)
      refine x_putI hC dX6_begin_30 rfl fpX6_27 rfl (by decide) (by decide) rfl rfl hm3 hr2 rfl hF (fun m4 hm4 hF => ?_)
      refine x_aload_n hC dX6_begin_33 rfl 0 rfl ?_
      refine x_iconst hC dX6_begin_34 rfl ?_
      refine x_putI hC dX6_begin_35 rfl fpX6_53 rfl (by decide) (by decide) rfl rfl hm4 (rgc 0 rfl) rfl hF (fun m5 hm5 hF => ?_)
      refine x_aload_n hC dX6_begin_38 rfl 0 rfl ?_
      refine x_iconst hC dX6_begin_39 rfl ?_
      refine x_putI hC dX6_begin_40 rfl fpX6_31 rfl (by decide) (by decide) rfl rfl hm5 (rgc 0 rfl) rfl hF (fun m6 hm6 hF => ?_)
      refine x_aload_n hC dX6_begin_43 rfl 0 rfl ?_
      refine x_iconst hC dX6_begin_44 rfl ?_
      refine x_putI hC dX6_begin_45 rfl fpX6_56 rfl (by decide) (by decide) rfl rfl hm6 (rgc 0 rfl) rfl hF (fun m7 hm7 hF => ?_)
      refine x_aload_n hC dX6_begin_48 rfl 0 rfl ?_
      refine x_bipush hC dX6_begin_49 rfl rfl ?_
      refine x_putI hC dX6_begin_51 rfl fpX6_59 rfl (by decide) (by decide) rfl rfl hm7 (rgc 8 rfl) rfl hF (fun m8 hm8 hF => ?_)
      refine x_aload_n hC dX6_begin_54 rfl 0 rfl ?_
      refine x_bipush hC dX6_begin_55 rfl rfl ?_
      refine x_putI hC dX6_begin_57 rfl fpX6_62 rfl (by decide) (by decide) rfl rfl hm8 (rgc 63 rfl) rfl hF (fun m9 hm9 hF => ?_)
      exact x_return hC dX6_begin_60 hm9 hF
    · refine x_aload_n hC dX6_begin_8 rfl 0 rfl ?_
      refine x_getR (t := 53) hC dX6_begin_9 rfl flX6_9 rfl (by decide) rfl rfl ?_
      refine x_iload_n hC dX6_begin_12 rfl 2 rfl ?_
      refine x_iconst hC dX6_begin_13 rfl ?_
      refine x_iast hC dX6_begin_14 rfl rfl (by decide) rfl hm hv2 (rgc 0 rfl) hF (fun m10 hm10 hF => ?_)
      refine x_iinc (p := 2) (lv' := [(0, .ref (b.1 + 52)), (1, iV v1)]) hC dX6_begin_15 rfl rfl (by decide) rfl hF (fun x11 hx11 hF => ?_)
      refine x_goto (tgt := 2) hC dX6_begin_18 rfl ?_
      refine x_sub [1, 2, 0] rfl ?_
      exact ih v1 hv1 x11 hx11 m10 hm10 hF
set_option maxRecDepth 20000 in
set_option maxHeartbeats 4000000 in
theorem T_X6_begin (b : Bs) (o : Mm) (m : Mm) (a1 : Int) (ha1 : inR a1) {r : Int} {m' : Mm} (h : F_X6_begin a1 m = some (r, m')) : Cn yX6_begin cX6_begin 3 none (1) 0 0 0 b (true, o) m [.ref (b.1 + 52), iV a1] (F_X6_begin a1 m) := by
  refine Cn_of rfl (Nat.le_of_ble_eq_true rfl) (fun g hC hm => ?_)
  have hF := okR_some h
  generalize hQ : (fun (r : Int) (m' : Mm) => F_X6_begin a1 m = some (r, m')) = Q at hF ⊢
  clear hQ h
  replace hC : Cok g b RX6 cX6_begin 3 1 none := hC
  refine x_lv (lv' := [(0, .ref (b.1 + 52)), (1, iV a1)]) rfl ?_
  unfold F_X6_begin at hF
  refine x_iconst hC dX6_begin_0 rfl ?_
  refine x_istore_nZ (lv' := [(0, .ref (b.1 + 52)), (1, iV a1)]) hC dX6_begin_1 rfl rfl (by decide) rfl (Or.inl rfl) hF (fun x1 hx1 hF => ?_)
  refine x_sub [1, 2, 0] rfl ?_
  exact WL_X6_begin_2 hC 100000  a1 ha1 x1 (rg_01 hx1) m hm hF
set_option maxRecDepth 20000 in
set_option maxHeartbeats 4000000 in
theorem WJ_X7_wish_77 {g : Gx} {b : Bs} {o : Mm} {Q : Int → Mm → Prop} (hC : Cok g b RX7 cX7_wish 8 4 (some .int)) (m : Mm) (hm : Rg m) (hF : okR (J_X7_wish_77  m) Q) : X g b (true, o) 8 (ZM g b (true, o) 1 Q) 77 [(0, .ref (b.1 + 17))] [] m 0 0 := by
  unfold J_X7_wish_77 at hF
  refine x_aload_n hC dX7_wish_77 rfl 0 rfl ?_
  refine x_bipush hC dX7_wish_78 rfl rfl ?_
  refine x_sipush hC dX7_wish_80 rfl rfl ?_
  refine x_callV1 (kc2 := 0) (ks2 := 0) (k := 17) (As := [iV 114, iV 1000]) (rest := []) hC dX7_wish_83 rfl hm (fun _ _ h => T_X7_firstHolding b _ m 114 (rgc 114 rfl) 1000 (rgc 1000 rfl) h) mlX7_46 vlX7_firstHolding rfl (by decide) rfl rfl (Nat.le_of_ble_eq_true rfl) (by decide) (by decide) rfl rfl hF (fun r1 m2 hr1 hm2 hF => ?_)
  exact x_ireturn hC dX7_wish_86 hm2 hr1 hF
set_option maxRecDepth 20000 in
set_option maxHeartbeats 4000000 in
theorem WJ_X7_wish_31 {g : Gx} {b : Bs} {o : Mm} {Q : Int → Mm → Prop} (hC : Cok g b RX7 cX7_wish 8 4 (some .int)) (v1 : Int) (hv1 : inR v1) (v2 : Int) (hv2 : inR v2) (v3 : Int) (hv3 : inR v3) (v4 : Int) (hv4 : inR v4) (v5 : Int) (hv5 : inR v5) (v6 : Int) (hv6 : inR v6) (v7 : Int) (hv7 : (v7 = 0 ∨ v7 = 1)) (m : Mm) (hm : Rg m) (hF : okR (J_X7_wish_31 v1 v2 v3 v4 v5 v6 v7 m) Q) : X g b (true, o) 8 (ZM g b (true, o) 1 Q) 31 [(0, .ref (b.1 + 17)), (1, iV v1), (2, iV v2), (3, iV v3), (4, iV v4), (5, iV v5), (6, iV v6), (7, iV v7)] [] m 0 0 := by
  unfold J_X7_wish_31 at hF
  refine x_aload_n hC dX7_wish_31 rfl 0 rfl ?_
  refine x_iload_n hC dX7_wish_32 rfl 1 rfl ?_
  refine x_iload_n hC dX7_wish_33 rfl 2 rfl ?_
  refine x_iload_n hC dX7_wish_34 rfl 3 rfl ?_
  refine x_iload hC dX7_wish_35 rfl 4 rfl ?_
  refine x_iload_n hC dX7_wish_37 rfl 2 rfl ?_
  refine x_iconst hC dX7_wish_38 rfl ?_
  refine x_callV0 (kc2 := 0) (ks2 := 0) (k := 17) (As := [iV v1, iV v2, iV v3, iV v4, iV v2, iV 0]) (rest := []) hC dX7_wish_39 rfl hm (fun _ _ h => T_X7_set b _ m v1 hv1 v2 hv2 v3 hv3 v4 hv4 v2 hv2 0 (rgc 0 rfl) h) mlX7_42 vlX7_set rfl (by decide) rfl rfl (Nat.le_of_ble_eq_true rfl) (by decide) (by decide) rfl rfl hF (fun r1 m2 hr1 hm2 hF => ?_)
  refine x_aload_n hC dX7_wish_42 rfl 0 rfl ?_
  refine x_getR (t := 18) hC dX7_wish_43 rfl flX7_9 rfl (by decide) rfl rfl ?_
  refine x_bipush hC dX7_wish_46 rfl rfl ?_
  refine x_iload hC dX7_wish_48 rfl 5 rfl ?_
  refine x_iast hC dX7_wish_50 rfl rfl (by decide) rfl hm2 (rgc 7 rfl) hv5 hF (fun m3 hm3 hF => ?_)
  refine x_aload_n hC dX7_wish_51 rfl 0 rfl ?_
  refine x_getR (t := 18) hC dX7_wish_52 rfl flX7_9 rfl (by decide) rfl rfl ?_
  refine x_bipush hC dX7_wish_55 rfl rfl ?_
  refine x_iload hC dX7_wish_57 rfl 6 rfl ?_
  refine x_iast hC dX7_wish_59 rfl rfl (by decide) rfl hm3 (rgc 8 rfl) hv6 hF (fun m4 hm4 hF => ?_)
  refine x_aload_n hC dX7_wish_60 rfl 0 rfl ?_
  refine x_getR (t := 18) hC dX7_wish_61 rfl flX7_9 rfl (by decide) rfl rfl ?_
  refine x_bipush hC dX7_wish_64 rfl rfl ?_
  refine x_iload hC dX7_wish_66 rfl 7 rfl ?_
  refine x_if_eq (tgt := 75) hC dX7_wish_68 rfl rfl (rg_01 hv7) hF (fun hq5 hF => ?_) (fun hq5 hF => ?_)
  · refine x_iconst hC dX7_wish_75 rfl ?_
    refine x_iast hC dX7_wish_76 rfl rfl (by decide) rfl hm4 (rgc 9 rfl) (rgc 0 rfl) hF (fun m6 hm6 hF => ?_)
    refine x_sub [0] rfl ?_
    exact WJ_X7_wish_77 hC   m6 hm6 hF
  · refine x_iconst hC dX7_wish_71 rfl ?_
    refine x_goto (tgt := 76) hC dX7_wish_72 rfl ?_
    refine x_iast hC dX7_wish_76 rfl rfl (by decide) rfl hm4 (rgc 9 rfl) (rgc 1 rfl) hF (fun m7 hm7 hF => ?_)
    refine x_sub [0] rfl ?_
    exact WJ_X7_wish_77 hC   m7 hm7 hF
set_option maxRecDepth 20000 in
set_option maxHeartbeats 4000000 in
theorem WJ_X7_wish_28 {g : Gx} {b : Bs} {o : Mm} {Q : Int → Mm → Prop} (hC : Cok g b RX7 cX7_wish 8 4 (some .int)) (v1 : Int) (hv1 : inR v1) (v2 : Int) (hv2 : inR v2) (v3 : Int) (hv3 : inR v3) (v4 : Int) (hv4 : inR v4) (v5 : Int) (hv5 : inR v5) (v6 : Int) (hv6 : inR v6) (m : Mm) (hm : Rg m) (hF : okR (J_X7_wish_28 v1 v2 v3 v4 v5 v6 m) Q) : X g b (true, o) 8 (ZM g b (true, o) 1 Q) 28 [(0, .ref (b.1 + 17)), (1, iV v1), (2, iV v2), (3, iV v3), (4, iV v4), (5, iV v5), (6, iV v6)] [] m 0 0 := by
  unfold J_X7_wish_28 at hF
  refine x_iconst hC dX7_wish_28 rfl ?_
  refine x_istoreZ (lv' := [(0, .ref (b.1 + 17)), (1, iV v1), (2, iV v2), (3, iV v3), (4, iV v4), (5, iV v5), (6, iV v6)]) hC dX7_wish_29 rfl (by decide) rfl (Or.inl rfl) hF (fun x1 hx1 hF => ?_)
  refine x_sub [1, 2, 3, 4, 5, 6, 7, 0] rfl ?_
  exact WJ_X7_wish_31 hC  v1 hv1 v2 hv2 v3 hv3 v4 hv4 v5 hv5 v6 hv6 x1 hx1 m hm hF
set_option maxRecDepth 20000 in
set_option maxHeartbeats 4000000 in
theorem T_X7_wish (b : Bs) (o : Mm) (m : Mm) (a1 : Int) (ha1 : inR a1) (a2 : Int) (ha2 : inR a2) (a3 : Int) (ha3 : inR a3) (a4 : Int) (ha4 : inR a4) (a5 : Int) (ha5 : inR a5) (a6 : Int) (ha6 : inR a6) {r : Int} {m' : Mm} (h : F_X7_wish a1 a2 a3 a4 a5 a6 m = some (r, m')) : Cn yX7_wish cX7_wish 8 (some .int) (4) 0 0 1 b (true, o) m [.ref (b.1 + 17), iV a1, iV a2, iV a3, iV a4, iV a5, iV a6] (F_X7_wish a1 a2 a3 a4 a5 a6 m) := by
  refine Cn_of rfl (Nat.le_of_ble_eq_true rfl) (fun g hC hm => ?_)
  have hF := okR_some h
  generalize hQ : (fun (r : Int) (m' : Mm) => F_X7_wish a1 a2 a3 a4 a5 a6 m = some (r, m')) = Q at hF ⊢
  clear hQ h
  replace hC : Cok g b RX7 cX7_wish 8 4 (some .int) := hC
  refine x_lv (lv' := [(0, .ref (b.1 + 17)), (1, iV a1), (2, iV a2), (3, iV a3), (4, iV a4), (5, iV a5), (6, iV a6)]) rfl ?_
  unfold F_X7_wish at hF
  refine x_aload_n hC dX7_wish_0 rfl 0 rfl ?_
  refine x_getD hC dX7_wish_1 rfl flX7_21 rfl (by decide) rfl rfl ?_
  refine x_grd hF (fun hg1 hF => ?_)
  refine x_getI hC dX7_wish_4 rfl flX7_49 (isCd_k hg1).1 (isCd_k hg1).2.1 rfl (isCd_k hg1).2.2.1 ?_
  refine x_if_eq (tgt := 28) hC dX7_wish_7 rfl rfl (hm.i (m 17 3).toNat 7 (isCd_k hg1).lg) hF (fun hq2 hF => ?_) (fun hq2 hF => ?_)
  · exact WJ_X7_wish_28 hC  a1 ha1 a2 ha2 a3 ha3 a4 ha4 a5 ha5 a6 ha6 m hm hF
  · refine x_aload_n hC dX7_wish_10 rfl 0 rfl ?_
    refine x_iload_n hC dX7_wish_11 rfl 1 rfl ?_
    refine x_iload_n hC dX7_wish_12 rfl 2 rfl ?_
    refine x_iload_n hC dX7_wish_13 rfl 3 rfl ?_
    refine x_iload hC dX7_wish_14 rfl 4 rfl ?_
    refine x_callV1 (kc2 := 0) (ks2 := 0) (k := 17) (As := [iV a1, iV a2, iV a3, iV a4]) (rest := []) hC dX7_wish_16 rfl hm (fun _ _ h => T_X7_inCrowd b _ m a1 ha1 a2 ha2 a3 ha3 a4 ha4 h) mlX7_53 vlX7_inCrowd rfl (by decide) rfl rfl (Nat.le_of_ble_eq_true rfl) (by decide) (by decide) rfl rfl hF (fun r3 m4 hr3 hm4 hF => ?_)
    refine x_iload hC dX7_wish_19 rfl 6 rfl ?_
    refine x_icmp_ne (tgt := 28) hC dX7_wish_21 rfl rfl hr3 ha6 hF (fun hq5 hF => ?_) (fun hq5 hF => ?_)
    · exact WJ_X7_wish_28 hC  a1 ha1 a2 ha2 a3 ha3 a4 ha4 a5 ha5 a6 ha6 m4 hm4 hF
    · refine x_iconst hC dX7_wish_24 rfl ?_
      refine x_goto (tgt := 29) hC dX7_wish_25 rfl ?_
      refine x_istoreZ (lv' := [(0, .ref (b.1 + 17)), (1, iV a1), (2, iV a2), (3, iV a3), (4, iV a4), (5, iV a5), (6, iV a6)]) hC dX7_wish_29 rfl (by decide) rfl (Or.inr rfl) hF (fun x6 hx6 hF => ?_)
      refine x_sub [1, 2, 3, 4, 5, 6, 7, 0] rfl ?_
      exact WJ_X7_wish_31 hC  a1 ha1 a2 ha2 a3 ha3 a4 ha4 a5 ha5 a6 ha6 x6 hx6 m4 hm4 hF
set_option maxRecDepth 20000 in
set_option maxHeartbeats 4000000 in
theorem WJ_X6_mostEager_105 {g : Gx} {b : Bs} {o : Mm} {Q : Int → Mm → Prop} {k_8 : Int → Int → Int → Int → Int → Mm → Rs} (hC : Cok g b RX6 cX6_mostEager 8 5 (some .int)) (hk_8 : ∀ v1 : Int, inR v1 → ∀ v2 : Int, inR v2 → ∀ v3 : Int, inR v3 → ∀ v4 : Int, inR v4 → ∀ v5 : Int, inR v5 → ∀ m : Mm, Rg m → okR (k_8 v1 v2 v3 v4 v5 m) Q → X g b (true, o) 8 (ZM g b (true, o) 1 Q) 8 [(0, .ref (b.1 + 52)), (1, iV v1), (2, iV v2), (3, iV v3), (4, iV v4), (5, iV v5)] [] m 0 0) (v1 : Int) (hv1 : inR v1) (v2 : Int) (hv2 : inR v2) (v3 : Int) (hv3 : inR v3) (v4 : Int) (hv4 : inR v4) (v5 : Int) (hv5 : inR v5) (m : Mm) (hm : Rg m) (hF : okR (J_X6_mostEager_105 k_8 v1 v2 v3 v4 v5 m) Q) : X g b (true, o) 8 (ZM g b (true, o) 1 Q) 105 [(0, .ref (b.1 + 52)), (1, iV v1), (2, iV v2), (3, iV v3), (4, iV v4), (5, iV v5)] [] m 0 0 := by
  unfold J_X6_mostEager_105 at hF
  refine x_iinc (p := 5) (lv' := [(0, .ref (b.1 + 52)), (1, iV v1), (2, iV v2), (3, iV v3), (4, iV v4)]) hC dX6_mostEager_105 rfl rfl (by decide) rfl hF (fun x1 hx1 hF => ?_)
  refine x_goto (tgt := 8) hC dX6_mostEager_108 rfl ?_
  refine x_sub [1, 2, 3, 4, 5, 0] rfl ?_
  exact hk_8 v1 hv1 v2 hv2 v3 hv3 v4 hv4 x1 hx1 m hm hF
set_option maxRecDepth 20000 in
set_option maxHeartbeats 4000000 in
theorem WL_X6_mostEager_8 {g : Gx} {b : Bs} {o : Mm} {Q : Int → Mm → Prop} (hC : Cok g b RX6 cX6_mostEager 8 5 (some .int)) : ∀ n : Nat, ∀ v1 : Int, inR v1 → ∀ v2 : Int, inR v2 → ∀ v3 : Int, inR v3 → ∀ v4 : Int, inR v4 → ∀ v5 : Int, inR v5 → ∀ m : Mm, Rg m → okR (L_X6_mostEager_8 n v1 v2 v3 v4 v5 m) Q → X g b (true, o) 8 (ZM g b (true, o) 1 Q) 8 [(0, .ref (b.1 + 52)), (1, iV v1), (2, iV v2), (3, iV v3), (4, iV v4), (5, iV v5)] [] m 0 0 := by
  intro n
  induction n with
  | zero => intro v1 hv1 v2 hv2 v3 hv3 v4 hv4 v5 hv5 m hm hF; exact absurd hF (fun z => z)
  | succ n ih =>
    intro v1 hv1 v2 hv2 v3 hv3 v4 hv4 v5 hv5 m hm hF
    have hF : okR (LB_X6_mostEager_8 (L_X6_mostEager_8 n) v1 v2 v3 v4 v5 m) Q := hF
    unfold LB_X6_mostEager_8 at hF
    refine x_iload hC dX6_mostEager_8 rfl 5 rfl ?_
    refine x_aload_n hC dX6_mostEager_10 rfl 0 rfl ?_
    refine x_getR (t := 1) hC dX6_mostEager_11 rfl flX6_15 rfl (by decide) rfl rfl ?_
    refine x_getI hC dX6_mostEager_14 rfl flX6_65 rfl (by decide) rfl rfl ?_
    refine x_icmp_ge (tgt := 111) hC dX6_mostEager_17 rfl rfl hv5 (hm.i 1 5 rfl) hF (fun hq1 hF => ?_) (fun hq1 hF => ?_)
    · refine x_iload_n hC dX6_mostEager_111 rfl 3 rfl ?_
      exact x_ireturn hC dX6_mostEager_112 hm hv3 hF
    · refine x_aload_n hC dX6_mostEager_20 rfl 0 rfl ?_
      refine x_getR (t := 1) hC dX6_mostEager_21 rfl flX6_15 rfl (by decide) rfl rfl ?_
      refine x_iload hC dX6_mostEager_24 rfl 5 rfl ?_
      refine x_callV1 (kc2 := 0) (ks2 := 0) (k := 1) (As := [iV v5]) (rest := []) hC dX6_mostEager_26 rfl hm (fun _ _ h => T_X4_wordsBy b _ m v5 hv5 h) mlX6_68 vlX4_wordsBy rfl (by decide) rfl rfl (Nat.le_of_ble_eq_true rfl) (by decide) (by decide) rfl rfl hF (fun r2 m3 hr2 hm3 hF => ?_)
      refine x_aload_n hC dX6_mostEager_29 rfl 0 rfl ?_
      refine x_getR (t := 53) hC dX6_mostEager_30 rfl flX6_9 rfl (by decide) rfl rfl ?_
      refine x_iload hC dX6_mostEager_33 rfl 5 rfl ?_
      refine x_iald hC dX6_mostEager_35 rfl rfl (by decide) rfl hm3 hv5 hF (fun x4 hx4 hF => ?_)
      refine x_isub hC dX6_mostEager_36 rfl ?_
      refine x_istore (lv' := [(0, .ref (b.1 + 52)), (1, iV v1), (2, iV v2), (3, iV v3), (4, iV v4), (5, iV v5)]) hC dX6_mostEager_37 rfl (by decide) rfl (rg_wr _) hF (fun x5 hx5 hF => ?_)
      refine x_iload_n hC dX6_mostEager_39 rfl 2 rfl ?_
      refine x_iload hC dX6_mostEager_40 rfl 6 rfl ?_
      refine x_ishr hC dX6_mostEager_42 rfl ?_
      refine x_iconst hC dX6_mostEager_43 rfl ?_
      refine x_iand hC dX6_mostEager_44 rfl ?_
      refine x_if_eq (tgt := 105) hC dX6_mostEager_45 rfl rfl (rg_tI _) hF (fun hq6 hF => ?_) (fun hq6 hF => ?_)
      · refine x_sub [1, 2, 3, 4, 5, 6] rfl ?_
        exact WJ_X6_mostEager_105 hC ih  v1 hv1 v2 hv2 v3 hv3 v4 hv4 v5 hv5 m3 hm3 hF
      · refine x_iload hC dX6_mostEager_48 rfl 0 rfl ?_
        refine x_if_le (tgt := 105) hC dX6_mostEager_50 rfl rfl hx5 hF (fun hq7 hF => ?_) (fun hq7 hF => ?_)
        · refine x_sub [1, 2, 3, 4, 5, 6] rfl ?_
          exact WJ_X6_mostEager_105 hC ih  v1 hv1 v2 hv2 v3 hv3 v4 hv4 v5 hv5 m3 hm3 hF
        · refine x_aload_n hC dX6_mostEager_53 rfl 1 rfl ?_
          refine x_getR (t := 17) hC dX6_mostEager_54 rfl flX6_19 rfl (by decide) rfl rfl ?_
          refine x_iload_n hC dX6_mostEager_57 rfl 3 rfl ?_
          refine x_iload hC dX6_mostEager_58 rfl 6 rfl ?_
          refine x_aload_n hC dX6_mostEager_60 rfl 1 rfl ?_
          refine x_getI hC dX6_mostEager_61 rfl flX6_59 rfl (by decide) rfl rfl ?_
          refine x_aload_n hC dX6_mostEager_64 rfl 1 rfl ?_
          refine x_getI hC dX6_mostEager_65 rfl flX6_62 rfl (by decide) rfl rfl ?_
          refine x_iload hC dX6_mostEager_68 rfl 0 rfl ?_
          refine x_aload_n hC dX6_mostEager_70 rfl 1 rfl ?_
          refine x_getR (t := 1) hC dX6_mostEager_71 rfl flX6_15 rfl (by decide) rfl rfl ?_
          refine x_iload hC dX6_mostEager_74 rfl 6 rfl ?_
          refine x_aload_n hC dX6_mostEager_76 rfl 1 rfl ?_
          refine x_getR (t := 53) hC dX6_mostEager_77 rfl flX6_9 rfl (by decide) rfl rfl ?_
          refine x_iload hC dX6_mostEager_80 rfl 6 rfl ?_
          refine x_iald hC dX6_mostEager_82 rfl rfl (by decide) rfl hm3 hv5 hF (fun x8 hx8 hF => ?_)
          refine x_callV1 (kc2 := 0) (ks2 := 0) (k := 1) (As := [iV v5, iV x8]) (rest := [iV x5, iV (m3 52 8), iV (m3 52 7), iV v5, iV v2, .ref (b.1 + 17)]) hC dX6_mostEager_83 rfl hm3 (fun _ _ h => T_X4_wordOf b _ m3 v5 hv5 x8 hx8 h) mlX6_71 vlX4_wordOf rfl (by decide) rfl rfl (Nat.le_of_ble_eq_true rfl) (by decide) (by decide) rfl rfl hF (fun r9 m10 hr9 hm10 hF => ?_)
          refine x_callV1 (kc2 := 0) (ks2 := 0) (k := 17) (As := [iV v2, iV v5, iV (m3 52 7), iV (m3 52 8), iV x5, iV r9]) (rest := []) hC dX6_mostEager_86 rfl hm10 (fun _ _ h => T_X7_wish b _ m10 v2 hv2 v5 hv5 (m3 52 7) (hm3.i 52 7 rfl) (m3 52 8) (hm3.i 52 8 rfl) x5 hx5 r9 hr9 h) mlX6_74 vlX7_wish rfl (by decide) rfl rfl (Nat.le_of_ble_eq_true rfl) (by decide) (by decide) rfl rfl hF (fun r11 m12 hr11 hm12 hF => ?_)
          refine x_istore (lv' := [(6, iV x5), (0, .ref (b.1 + 52)), (1, iV v1), (2, iV v2), (3, iV v3), (4, iV v4), (5, iV v5)]) hC dX6_mostEager_89 rfl (by decide) rfl hr11 hF (fun x13 hx13 hF => ?_)
          refine x_iload hC dX6_mostEager_91 rfl 0 rfl ?_
          refine x_iload hC dX6_mostEager_93 rfl 6 rfl ?_
          refine x_icmp_le (tgt := 105) hC dX6_mostEager_95 rfl rfl hx13 hv4 hF (fun hq14 hF => ?_) (fun hq14 hF => ?_)
          · refine x_sub [2, 3, 4, 5, 6, 7] rfl ?_
            exact WJ_X6_mostEager_105 hC ih  v1 hv1 v2 hv2 v3 hv3 v4 hv4 v5 hv5 m12 hm12 hF
          · refine x_iload hC dX6_mostEager_98 rfl 0 rfl ?_
            refine x_istore (lv' := [(7, iV x13), (6, iV x5), (0, .ref (b.1 + 52)), (1, iV v1), (2, iV v2), (3, iV v3), (5, iV v5)]) hC dX6_mostEager_100 rfl (by decide) rfl hx13 hF (fun x15 hx15 hF => ?_)
            refine x_iload hC dX6_mostEager_102 rfl 7 rfl ?_
            refine x_istore_n (lv' := [(4, iV x15), (7, iV x13), (6, iV x5), (0, .ref (b.1 + 52)), (1, iV v1), (2, iV v2), (5, iV v5)]) hC dX6_mostEager_104 rfl rfl (by decide) rfl hv5 hF (fun x16 hx16 hF => ?_)
            refine x_sub [4, 5, 6, 0, 1, 7] rfl ?_
            exact WJ_X6_mostEager_105 hC ih  v1 hv1 v2 hv2 x16 hx16 x15 hx15 v5 hv5 m12 hm12 hF
set_option maxRecDepth 20000 in
set_option maxHeartbeats 4000000 in
theorem T_X6_mostEager (b : Bs) (o : Mm) (m : Mm) (a1 : Int) (ha1 : inR a1) (a2 : Int) (ha2 : inR a2) {r : Int} {m' : Mm} (h : F_X6_mostEager a1 a2 m = some (r, m')) : Cn yX6_mostEager cX6_mostEager 8 (some .int) (5) 0 0 1 b (true, o) m [.ref (b.1 + 52), iV a1, iV a2] (F_X6_mostEager a1 a2 m) := by
  refine Cn_of rfl (Nat.le_of_ble_eq_true rfl) (fun g hC hm => ?_)
  have hF := okR_some h
  generalize hQ : (fun (r : Int) (m' : Mm) => F_X6_mostEager a1 a2 m = some (r, m')) = Q at hF ⊢
  clear hQ h
  replace hC : Cok g b RX6 cX6_mostEager 8 5 (some .int) := hC
  refine x_lv (lv' := [(0, .ref (b.1 + 52)), (1, iV a1), (2, iV a2)]) rfl ?_
  unfold F_X6_mostEager at hF
  refine x_iconst hC dX6_mostEager_0 rfl ?_
  refine x_istore_n (lv' := [(0, .ref (b.1 + 52)), (1, iV a1), (2, iV a2)]) hC dX6_mostEager_1 rfl rfl (by decide) rfl (rgc (-1) rfl) hF (fun x1 hx1 hF => ?_)
  refine x_iconst hC dX6_mostEager_2 rfl ?_
  refine x_istoreZ (lv' := [(3, iV x1), (0, .ref (b.1 + 52)), (1, iV a1), (2, iV a2)]) hC dX6_mostEager_3 rfl (by decide) rfl (Or.inl rfl) hF (fun x2 hx2 hF => ?_)
  refine x_iconst hC dX6_mostEager_5 rfl ?_
  refine x_istoreZ (lv' := [(4, iV x2), (3, iV x1), (0, .ref (b.1 + 52)), (1, iV a1), (2, iV a2)]) hC dX6_mostEager_6 rfl (by decide) rfl (Or.inl rfl) hF (fun x3 hx3 hF => ?_)
  refine x_sub [3, 4, 5, 2, 1, 0] rfl ?_
  exact WL_X6_mostEager_8 hC 100000  a1 ha1 a2 ha2 x1 hx1 x2 (rg_01 hx2) x3 (rg_01 hx3) m hm hF
set_option maxRecDepth 20000 in
set_option maxHeartbeats 4000000 in
theorem WJ_X6_speak_79 {g : Gx} {b : Bs} {o : Mm} {Q : Int → Mm → Prop} (hC : Cok g b RX6 cX6_speak 4 4 none) (v1 : Int) (hv1 : inR v1) (v2 : Int) (hv2 : inR v2) (m : Mm) (hm : Rg m) (hF : okR (J_X6_speak_79 v1 v2 m) Q) : X g b (true, o) 4 (ZM g b (true, o) 0 Q) 79 [(0, .ref (b.1 + 52)), (1, iV v1), (2, iV v2)] [] m 0 0 := by
  unfold J_X6_speak_79 at hF
  refine x_aload_n hC dX6_speak_79 rfl 0 rfl ?_
  refine x_iload_n hC dX6_speak_80 rfl 1 rfl ?_
  refine x_putI hC dX6_speak_81 rfl fpX6_59 rfl (by decide) (by decide) rfl rfl hm hv1 rfl hF (fun m1 hm1 hF => ?_)
  refine x_aload_n hC dX6_speak_84 rfl 0 rfl ?_
  refine x_iload_n hC dX6_speak_85 rfl 2 rfl ?_
  refine x_putI hC dX6_speak_86 rfl fpX6_62 rfl (by decide) (by decide) rfl rfl hm1 hv2 rfl hF (fun m2 hm2 hF => ?_)
  exact x_return hC dX6_speak_89 hm2 hF
set_option maxRecDepth 20000 in
set_option maxHeartbeats 4000000 in
theorem T_X6_speak (b : Bs) (o : Mm) (m : Mm) (a1 : Int) (ha1 : inR a1) (a2 : Int) (ha2 : inR a2) (a3 : Int) (ha3 : inR a3) {r : Int} {m' : Mm} (h : F_X6_speak a1 a2 a3 m = some (r, m')) : Cn yX6_speak cX6_speak 4 none (4) 0 0 0 b (true, o) m [.ref (b.1 + 52), iV a1, iV a2, iV a3] (F_X6_speak a1 a2 a3 m) := by
  refine Cn_of rfl (Nat.le_of_ble_eq_true rfl) (fun g hC hm => ?_)
  have hF := okR_some h
  generalize hQ : (fun (r : Int) (m' : Mm) => F_X6_speak a1 a2 a3 m = some (r, m')) = Q at hF ⊢
  clear hQ h
  replace hC : Cok g b RX6 cX6_speak 4 4 none := hC
  refine x_lv (lv' := [(0, .ref (b.1 + 52)), (1, iV a1), (2, iV a2), (3, iV a3)]) rfl ?_
  unfold F_X6_speak at hF
  refine x_aload_n hC dX6_speak_0 rfl 0 rfl ?_
  refine x_dup hC dX6_speak_1 rfl rfl ?_
  refine x_getI hC dX6_speak_2 rfl flX6_31 rfl (by decide) rfl rfl ?_
  refine x_iconst hC dX6_speak_5 rfl ?_
  refine x_iadd hC dX6_speak_6 rfl ?_
  refine x_putI hC dX6_speak_7 rfl fpX6_31 rfl (by decide) (by decide) rfl rfl hm (rg_wr _) rfl hF (fun m1 hm1 hF => ?_)
  refine x_aload_n hC dX6_speak_10 rfl 0 rfl ?_
  refine x_getR (t := 17) hC dX6_speak_11 rfl flX6_19 rfl (by decide) rfl rfl ?_
  refine x_iload_n hC dX6_speak_14 rfl 2 rfl ?_
  refine x_iload_n hC dX6_speak_15 rfl 1 rfl ?_
  refine x_aload_n hC dX6_speak_16 rfl 0 rfl ?_
  refine x_getI hC dX6_speak_17 rfl flX6_59 rfl (by decide) rfl rfl ?_
  refine x_aload_n hC dX6_speak_20 rfl 0 rfl ?_
  refine x_getI hC dX6_speak_21 rfl flX6_62 rfl (by decide) rfl rfl ?_
  refine x_callV1 (kc2 := 0) (ks2 := 0) (k := 17) (As := [iV a2, iV a1, iV (m1 52 7), iV (m1 52 8)]) (rest := []) hC dX6_speak_24 rfl hm1 (fun _ _ h => T_X7_inCrowd b _ m1 a2 ha2 a1 ha1 (m1 52 7) (hm1.i 52 7 rfl) (m1 52 8) (hm1.i 52 8 rfl) h) mlX6_80 vlX7_inCrowd rfl (by decide) rfl rfl (Nat.le_of_ble_eq_true rfl) (by decide) (by decide) rfl rfl hF (fun r2 m3 hr2 hm3 hF => ?_)
  refine x_aload_n hC dX6_speak_27 rfl 0 rfl ?_
  refine x_getR (t := 1) hC dX6_speak_28 rfl flX6_15 rfl (by decide) rfl rfl ?_
  refine x_iload_n hC dX6_speak_31 rfl 1 rfl ?_
  refine x_aload_n hC dX6_speak_32 rfl 0 rfl ?_
  refine x_getR (t := 53) hC dX6_speak_33 rfl flX6_9 rfl (by decide) rfl rfl ?_
  refine x_iload_n hC dX6_speak_36 rfl 1 rfl ?_
  refine x_iald hC dX6_speak_37 rfl rfl (by decide) rfl hm3 ha1 hF (fun x4 hx4 hF => ?_)
  refine x_callV1 (kc2 := 0) (ks2 := 0) (k := 1) (As := [iV a1, iV x4]) (rest := [iV r2]) hC dX6_speak_38 rfl hm3 (fun _ _ h => T_X4_wordOf b _ m3 a1 ha1 x4 hx4 h) mlX6_71 vlX4_wordOf rfl (by decide) rfl rfl (Nat.le_of_ble_eq_true rfl) (by decide) (by decide) rfl rfl hF (fun r5 m6 hr5 hm6 hF => ?_)
  refine x_icmp_ne (tgt := 79) hC dX6_speak_41 rfl rfl hr2 hr5 hF (fun hq7 hF => ?_) (fun hq7 hF => ?_)
  · refine x_sub [0, 1, 2] rfl ?_
    exact WJ_X6_speak_79 hC  a1 ha1 a2 ha2 m6 hm6 hF
  · refine x_aload_n hC dX6_speak_44 rfl 0 rfl ?_
    refine x_getR (t := 53) hC dX6_speak_45 rfl flX6_9 rfl (by decide) rfl rfl ?_
    refine x_iload_n hC dX6_speak_48 rfl 1 rfl ?_
    refine x_dup2 hC dX6_speak_49 rfl rfl rfl ?_
    refine x_iald hC dX6_speak_50 rfl rfl (by decide) rfl hm6 ha1 hF (fun x8 hx8 hF => ?_)
    refine x_iconst hC dX6_speak_51 rfl ?_
    refine x_iadd hC dX6_speak_52 rfl ?_
    refine x_iast hC dX6_speak_53 rfl rfl (by decide) rfl hm6 ha1 (rg_wr _) hF (fun m9 hm9 hF => ?_)
    refine x_aload_n hC dX6_speak_54 rfl 0 rfl ?_
    refine x_dup hC dX6_speak_55 rfl rfl ?_
    refine x_getI hC dX6_speak_56 rfl flX6_53 rfl (by decide) rfl rfl ?_
    refine x_iconst hC dX6_speak_59 rfl ?_
    refine x_iadd hC dX6_speak_60 rfl ?_
    refine x_putI hC dX6_speak_61 rfl fpX6_53 rfl (by decide) (by decide) rfl rfl hm9 (rg_wr _) rfl hF (fun m10 hm10 hF => ?_)
    refine x_aload_n hC dX6_speak_64 rfl 0 rfl ?_
    refine x_dup hC dX6_speak_65 rfl rfl ?_
    refine x_getI hC dX6_speak_66 rfl flX6_27 rfl (by decide) rfl rfl ?_
    refine x_iconst hC dX6_speak_69 rfl ?_
    refine x_isub hC dX6_speak_70 rfl ?_
    refine x_putI hC dX6_speak_71 rfl fpX6_27 rfl (by decide) (by decide) rfl rfl hm10 (rg_wr _) rfl hF (fun m11 hm11 hF => ?_)
    refine x_aload_n hC dX6_speak_74 rfl 0 rfl ?_
    refine x_iload_n hC dX6_speak_75 rfl 3 rfl ?_
    refine x_putI hC dX6_speak_76 rfl fpX6_56 rfl (by decide) (by decide) rfl rfl hm11 ha3 rfl hF (fun m12 hm12 hF => ?_)
    refine x_sub [0, 1, 2] rfl ?_
    exact WJ_X6_speak_79 hC  a1 ha1 a2 ha2 m12 hm12 hF
set_option maxRecDepth 20000 in
set_option maxHeartbeats 4000000 in
theorem WJ_X6_play_85 {g : Gx} {b : Bs} {o : Mm} {Q : Int → Mm → Prop} {k_10 : Int → Int → Int → Int → Mm → Rs} (hC : Cok g b RX6 cX6_play 7 6 none) (hk_10 : ∀ v1 : Int, inR v1 → ∀ v2 : Int, inR v2 → ∀ v3 : Int, inR v3 → ∀ v4 : Int, inR v4 → ∀ m : Mm, Rg m → okR (k_10 v1 v2 v3 v4 m) Q → X g b (true, o) 7 (ZM g b (true, o) 0 Q) 10 [(0, .ref (b.1 + 52)), (1, iV v1), (2, iV v2), (3, iV v3), (4, iV v4)] [] m 0 0) (v1 : Int) (hv1 : inR v1) (v2 : Int) (hv2 : inR v2) (v3 : Int) (hv3 : inR v3) (v4 : Int) (hv4 : inR v4) (m : Mm) (hm : Rg m) (hF : okR (J_X6_play_85 k_10 v1 v2 v3 v4 m) Q) : X g b (true, o) 7 (ZM g b (true, o) 0 Q) 85 [(0, .ref (b.1 + 52)), (1, iV v1), (2, iV v2), (3, iV v3), (4, iV v4)] [] m 0 0 := by
  unfold J_X6_play_85 at hF
  refine x_iinc (p := 4) (lv' := [(0, .ref (b.1 + 52)), (1, iV v1), (2, iV v2), (3, iV v3)]) hC dX6_play_85 rfl rfl (by decide) rfl hF (fun x1 hx1 hF => ?_)
  refine x_goto (tgt := 10) hC dX6_play_88 rfl ?_
  refine x_sub [1, 2, 3, 4, 0] rfl ?_
  exact hk_10 v1 hv1 v2 hv2 v3 hv3 x1 hx1 m hm hF
set_option maxRecDepth 20000 in
set_option maxHeartbeats 4000000 in
theorem WJ_X6_play_46 {g : Gx} {b : Bs} {o : Mm} {Q : Int → Mm → Prop} {k_10 : Int → Int → Int → Int → Mm → Rs} (hC : Cok g b RX6 cX6_play 7 6 none) (hk_10 : ∀ v1 : Int, inR v1 → ∀ v2 : Int, inR v2 → ∀ v3 : Int, inR v3 → ∀ v4 : Int, inR v4 → ∀ m : Mm, Rg m → okR (k_10 v1 v2 v3 v4 m) Q → X g b (true, o) 7 (ZM g b (true, o) 0 Q) 10 [(0, .ref (b.1 + 52)), (1, iV v1), (2, iV v2), (3, iV v3), (4, iV v4)] [] m 0 0) (v1 : Int) (hv1 : inR v1) (v2 : Int) (hv2 : inR v2) (v3 : Int) (hv3 : inR v3) (v4 : Int) (hv4 : inR v4) (v5 : Int) (hv5 : inR v5) (m : Mm) (hm : Rg m) (hF : okR (J_X6_play_46 k_10 v1 v2 v3 v4 v5 m) Q) : X g b (true, o) 7 (ZM g b (true, o) 0 Q) 46 [(0, .ref (b.1 + 52)), (1, iV v1), (2, iV v2), (3, iV v3), (4, iV v4), (5, iV v5)] [] m 0 0 := by
  unfold J_X6_play_46 at hF
  refine x_aload_n hC dX6_play_46 rfl 0 rfl ?_
  refine x_iload_n hC dX6_play_47 rfl 1 rfl ?_
  refine x_iload hC dX6_play_48 rfl 5 rfl ?_
  refine x_callV1 (kc2 := 0) (ks2 := 0) (k := 52) (As := [iV v1, iV v5]) (rest := []) hC dX6_play_50 rfl hm (fun _ _ h => T_X6_mostEager b _ m v1 hv1 v5 hv5 h) mlX6_40 vlX6_mostEager rfl (by decide) rfl rfl (Nat.le_of_ble_eq_true rfl) (by decide) (by decide) rfl rfl hF (fun r1 m2 hr1 hm2 hF => ?_)
  refine x_istore (lv' := [(0, .ref (b.1 + 52)), (1, iV v1), (2, iV v2), (3, iV v3), (4, iV v4), (5, iV v5)]) hC dX6_play_53 rfl (by decide) rfl hr1 hF (fun x3 hx3 hF => ?_)
  refine x_iload hC dX6_play_55 rfl 0 rfl ?_
  refine x_iconst hC dX6_play_57 rfl ?_
  refine x_icmp_eq (tgt := 77) hC dX6_play_58 rfl rfl hx3 (rgc (-1) rfl) hF (fun hq4 hF => ?_) (fun hq4 hF => ?_)
  · refine x_iload hC dX6_play_77 rfl 6 rfl ?_
    refine x_bipush hC dX6_play_79 rfl rfl ?_
    refine x_icmp_ne (tgt := 85) hC dX6_play_81 rfl rfl hv5 (rgc 63 rfl) hF (fun hq5 hF => ?_) (fun hq5 hF => ?_)
    · refine x_sub [1, 2, 3, 4, 5] rfl ?_
      exact WJ_X6_play_85 hC hk_10  v1 hv1 v2 hv2 v3 hv3 v4 hv4 m2 hm2 hF
    · exact x_return hC dX6_play_84 hm2 hF
  · refine x_aload_n hC dX6_play_61 rfl 1 rfl ?_
    refine x_iload hC dX6_play_62 rfl 0 rfl ?_
    refine x_iload hC dX6_play_64 rfl 6 rfl ?_
    refine x_iload hC dX6_play_66 rfl 5 rfl ?_
    refine x_callV0 (kc2 := 0) (ks2 := 0) (k := 52) (As := [iV x3, iV v5, iV v4]) (rest := []) hC dX6_play_68 rfl hm2 (fun _ _ h => T_X6_speak b _ m2 x3 hx3 v5 hv5 v4 hv4 h) mlX6_43 vlX6_speak rfl (by decide) rfl rfl (Nat.le_of_ble_eq_true rfl) (by decide) (by decide) rfl rfl hF (fun r6 m7 hr6 hm7 hF => ?_)
    refine x_iload hC dX6_play_71 rfl 5 rfl ?_
    refine x_istore_n (lv' := [(6, iV x3), (0, .ref (b.1 + 52)), (1, iV v1), (2, iV v2), (4, iV v4), (5, iV v5)]) hC dX6_play_73 rfl rfl (by decide) rfl hv4 hF (fun x8 hx8 hF => ?_)
    refine x_goto (tgt := 85) hC dX6_play_74 rfl ?_
    refine x_sub [2, 3, 4, 0, 5] rfl ?_
    exact WJ_X6_play_85 hC hk_10  v1 hv1 v2 hv2 x8 hx8 v4 hv4 m7 hm7 hF
set_option maxRecDepth 20000 in
set_option maxHeartbeats 4000000 in
theorem WL_X6_play_10 {g : Gx} {b : Bs} {o : Mm} {Q : Int → Mm → Prop} (hC : Cok g b RX6 cX6_play 7 6 none) : ∀ n : Nat, ∀ v1 : Int, inR v1 → ∀ v2 : Int, inR v2 → ∀ v3 : Int, inR v3 → ∀ v4 : Int, inR v4 → ∀ m : Mm, Rg m → okR (L_X6_play_10 n v1 v2 v3 v4 m) Q → X g b (true, o) 7 (ZM g b (true, o) 0 Q) 10 [(0, .ref (b.1 + 52)), (1, iV v1), (2, iV v2), (3, iV v3), (4, iV v4)] [] m 0 0 := by
  intro n
  induction n with
  | zero => intro v1 hv1 v2 hv2 v3 hv3 v4 hv4 m hm hF; exact absurd hF (fun z => z)
  | succ n ih =>
    intro v1 hv1 v2 hv2 v3 hv3 v4 hv4 m hm hF
    have hF : okR (LB_X6_play_10 (L_X6_play_10 n) v1 v2 v3 v4 m) Q := hF
    unfold LB_X6_play_10 at hF
    refine x_iload hC dX6_play_10 rfl 4 rfl ?_
    refine x_iload_n hC dX6_play_12 rfl 2 rfl ?_
    refine x_icmp_ge (tgt := 91) hC dX6_play_13 rfl rfl hv4 hv2 hF (fun hq1 hF => ?_) (fun hq1 hF => ?_)
    · exact x_return hC dX6_play_91 hm hF
    · refine x_aload_n hC dX6_play_16 rfl 0 rfl ?_
      refine x_getI hC dX6_play_17 rfl flX6_27 rfl (by decide) rfl rfl ?_
      refine x_if_le (tgt := 91) hC dX6_play_20 rfl rfl (hm.i 52 3 rfl) hF (fun hq2 hF => ?_) (fun hq2 hF => ?_)
      · exact x_return hC dX6_play_91 hm hF
      · refine x_aload_n hC dX6_play_23 rfl 0 rfl ?_
        refine x_getI hC dX6_play_24 rfl flX6_31 rfl (by decide) rfl rfl ?_
        refine x_if_ne (tgt := 35) hC dX6_play_27 rfl rfl (hm.i 52 5 rfl) hF (fun hq3 hF => ?_) (fun hq3 hF => ?_)
        · refine x_bipush hC dX6_play_35 rfl rfl ?_
          refine x_iload hC dX6_play_37 rfl 4 rfl ?_
          refine x_iload_n hC dX6_play_39 rfl 3 rfl ?_
          refine x_isub hC dX6_play_40 rfl ?_
          refine x_callS1 (kc2 := 0) (ks2 := 0) (As := [iV 63, iV (wr (v4 - v3))]) (rest := []) hC dX6_play_41 rfl hm (fun _ _ h => T_J9_min_7cf53 b _ m 63 (rgc 63 rfl) (wr (v4 - v3)) (rg_wr _) h) mlX6_34 vsJ9_min_7cf53 rfl rfl (Nat.le_of_ble_eq_true rfl) (by decide) (by decide) rfl rfl hF (fun r4 m5 hr4 hm5 hF => ?_)
          refine x_istore (lv' := [(0, .ref (b.1 + 52)), (1, iV v1), (2, iV v2), (3, iV v3), (4, iV v4)]) hC dX6_play_44 rfl (by decide) rfl hr4 hF (fun x6 hx6 hF => ?_)
          refine x_sub [1, 2, 3, 4, 5, 0] rfl ?_
          exact WJ_X6_play_46 hC ih  v1 hv1 v2 hv2 v3 hv3 v4 hv4 x6 hx6 m5 hm5 hF
        · refine x_bipush hC dX6_play_30 rfl rfl ?_
          refine x_goto (tgt := 44) hC dX6_play_32 rfl ?_
          refine x_istore (lv' := [(0, .ref (b.1 + 52)), (1, iV v1), (2, iV v2), (3, iV v3), (4, iV v4)]) hC dX6_play_44 rfl (by decide) rfl (rgc 63 rfl) hF (fun x7 hx7 hF => ?_)
          refine x_sub [1, 2, 3, 4, 5, 0] rfl ?_
          exact WJ_X6_play_46 hC ih  v1 hv1 v2 hv2 v3 hv3 v4 hv4 x7 hx7 m hm hF
set_option maxRecDepth 20000 in
set_option maxHeartbeats 4000000 in
theorem T_X6_play (b : Bs) (o : Mm) (m : Mm) (a1 : Int) (ha1 : inR a1) (a2 : Int) (ha2 : inR a2) {r : Int} {m' : Mm} (h : F_X6_play a1 a2 m = some (r, m')) : Cn yX6_play cX6_play 7 none (6) 0 0 0 b (true, o) m [.ref (b.1 + 52), iV a1, iV a2] (F_X6_play a1 a2 m) := by
  refine Cn_of rfl (Nat.le_of_ble_eq_true rfl) (fun g hC hm => ?_)
  have hF := okR_some h
  generalize hQ : (fun (r : Int) (m' : Mm) => F_X6_play a1 a2 m = some (r, m')) = Q at hF ⊢
  clear hQ h
  replace hC : Cok g b RX6 cX6_play 7 6 none := hC
  refine x_lv (lv' := [(0, .ref (b.1 + 52)), (1, iV a1), (2, iV a2)]) rfl ?_
  unfold F_X6_play at hF
  refine x_aload_n hC dX6_play_0 rfl 0 rfl ?_
  refine x_iload_n hC dX6_play_1 rfl 1 rfl ?_
  refine x_callV0 (kc2 := 0) (ks2 := 0) (k := 52) (As := [iV a1]) (rest := []) hC dX6_play_2 rfl hm (fun _ _ h => T_X6_begin b _ m a1 ha1 h) mlX6_23 vlX6_begin rfl (by decide) rfl rfl (Nat.le_of_ble_eq_true rfl) (by decide) (by decide) rfl rfl hF (fun r1 m2 hr1 hm2 hF => ?_)
  refine x_iconst hC dX6_play_5 rfl ?_
  refine x_istore_nZ (lv' := [(0, .ref (b.1 + 52)), (1, iV a1), (2, iV a2)]) hC dX6_play_6 rfl rfl (by decide) rfl (Or.inl rfl) hF (fun x3 hx3 hF => ?_)
  refine x_iconst hC dX6_play_7 rfl ?_
  refine x_istoreZ (lv' := [(3, iV x3), (0, .ref (b.1 + 52)), (1, iV a1), (2, iV a2)]) hC dX6_play_8 rfl (by decide) rfl (Or.inl rfl) hF (fun x4 hx4 hF => ?_)
  refine x_sub [2, 3, 4, 1, 0] rfl ?_
  exact WL_X6_play_10 hC 100000  a1 ha1 a2 ha2 x3 (rg_01 hx3) x4 (rg_01 hx4) m2 hm2 hF
set_option maxRecDepth 20000 in
set_option maxHeartbeats 4000000 in
theorem T_X7_clauses (b : Bs) (o : Mm) (m : Mm) {r : Int} {m' : Mm} (h : F_X7_clauses  m = some (r, m')) : Cn yX7_clauses cX7_clauses 1 (some .int) (0) 0 0 1 b (true, o) m [.ref (b.1 + 17)] (F_X7_clauses  m) := by
  refine Cn_of rfl (Nat.le_of_ble_eq_true rfl) (fun g hC hm => ?_)
  have hF := okR_some h
  generalize hQ : (fun (r : Int) (m' : Mm) => F_X7_clauses  m = some (r, m')) = Q at hF ⊢
  clear hQ h
  replace hC : Cok g b RX7 cX7_clauses 1 0 (some .int) := hC
  refine x_lv (lv' := [(0, .ref (b.1 + 17))]) rfl ?_
  unfold F_X7_clauses at hF
  refine x_aload_n hC dX7_clauses_0 rfl 0 rfl ?_
  refine x_getD hC dX7_clauses_1 rfl flX7_21 rfl (by decide) rfl rfl ?_
  refine x_grd hF (fun hg1 hF => ?_)
  refine x_getI hC dX7_clauses_4 rfl flX7_32 (isCd_k hg1).1 (isCd_k hg1).2.1 rfl (isCd_k hg1).2.2.1 ?_
  exact x_ireturn hC dX7_clauses_7 hm (hm.i (m 17 3).toNat 6 (isCd_k hg1).lg) hF
set_option maxRecDepth 20000 in
set_option maxHeartbeats 4000000 in
theorem T_X7_takeSpare (b : Bs) (o : Mm) (m : Mm) {r : Int} {m' : Mm} (h : F_X7_takeSpare  m = some (r, m')) : Cn yX7_takeSpare cX7_takeSpare 2 none (0) 0 0 0 b (true, o) m [.ref (b.1 + 17)] (F_X7_takeSpare  m) := by
  refine Cn_of rfl (Nat.le_of_ble_eq_true rfl) (fun g hC hm => ?_)
  have hF := okR_some h
  generalize hQ : (fun (r : Int) (m' : Mm) => F_X7_takeSpare  m = some (r, m')) = Q at hF ⊢
  clear hQ h
  replace hC : Cok g b RX7 cX7_takeSpare 2 0 none := hC
  refine x_lv (lv' := [(0, .ref (b.1 + 17))]) rfl ?_
  unfold F_X7_takeSpare at hF
  refine x_aload_n hC dX7_takeSpare_0 rfl 0 rfl ?_
  refine x_getD hC dX7_takeSpare_1 rfl flX7_21 rfl (by decide) rfl rfl ?_
  refine x_astore_n (lv' := [(0, .ref (b.1 + 17))]) hC dX7_takeSpare_4 rfl rfl (by decide) rfl ?_
  refine x_aload_n hC dX7_takeSpare_5 rfl 1 rfl ?_
  refine x_aload_n hC dX7_takeSpare_6 rfl 1 rfl ?_
  refine x_getD hC dX7_takeSpare_7 rfl flX7_25 rfl (by decide) rfl rfl ?_
  refine x_putD hC dX7_takeSpare_10 rfl fpX7_21 rfl (by decide) (by decide) rfl (fun _ => rfl) (fun _ => rfl) rfl hm (rg_nat _ (hm.i 17 4 rfl)) rfl hF (fun m1 hm1 hF => ?_)
  refine x_aload_n hC dX7_takeSpare_13 rfl 1 rfl ?_
  refine x_aload_n hC dX7_takeSpare_14 rfl 0 rfl ?_
  refine x_putD hC dX7_takeSpare_15 rfl fpX7_25 rfl (by decide) (by decide) rfl (fun _ => rfl) (fun _ => rfl) rfl hm1 (rg_nat _ (hm.i 17 3 rfl)) rfl hF (fun m2 hm2 hF => ?_)
  exact x_return hC dX7_takeSpare_18 hm2 hF
set_option maxRecDepth 20000 in
set_option maxHeartbeats 4000000 in
theorem WJ_X8_leastGap_54 {g : Gx} {b : Bs} {o : Mm} {Q : Int → Mm → Prop} {k_15 : Int → Int → Int → Int → Int → Int → Mm → Rs} (hC : Cok g b RX8 cX8_leastGap 8 1 (some .int)) (hk_15 : ∀ v1 : Int, inR v1 → ∀ v2 : Int, inR v2 → ∀ v3 : Int, inR v3 → ∀ v4 : Int, inR v4 → ∀ v5 : Int, inR v5 → ∀ v6 : Int, inR v6 → ∀ m : Mm, Rg m → okR (k_15 v1 v2 v3 v4 v5 v6 m) Q → X g b (true, o) 8 (ZM g b (true, o) 1 Q) 15 [(0, .ref (b.1 + 7)), (1, iV v1), (2, iV v2), (3, iV v3), (4, iV v4), (5, iV v5), (6, iV v6)] [] m 0 0) (v1 : Int) (hv1 : inR v1) (v2 : Int) (hv2 : inR v2) (v3 : Int) (hv3 : inR v3) (v4 : Int) (hv4 : inR v4) (v5 : Int) (hv5 : inR v5) (v6 : Int) (hv6 : inR v6) (m : Mm) (hm : Rg m) (hF : okR (J_X8_leastGap_54 k_15 v1 v2 v3 v4 v5 v6 m) Q) : X g b (true, o) 8 (ZM g b (true, o) 1 Q) 54 [(0, .ref (b.1 + 7)), (1, iV v1), (2, iV v2), (3, iV v3), (4, iV v4), (5, iV v5), (6, iV v6)] [] m 0 0 := by
  unfold J_X8_leastGap_54 at hF
  refine x_iinc (p := 6) (lv' := [(0, .ref (b.1 + 7)), (1, iV v1), (2, iV v2), (3, iV v3), (4, iV v4), (5, iV v5)]) hC dX8_leastGap_54 rfl rfl (by decide) rfl hF (fun x1 hx1 hF => ?_)
  refine x_goto (tgt := 15) hC dX8_leastGap_57 rfl ?_
  refine x_sub [1, 2, 3, 4, 5, 6, 0] rfl ?_
  exact hk_15 v1 hv1 v2 hv2 v3 hv3 v4 hv4 v5 hv5 x1 hx1 m hm hF
set_option maxRecDepth 20000 in
set_option maxHeartbeats 4000000 in
theorem WJ_X8_leastGap_51 {g : Gx} {b : Bs} {o : Mm} {Q : Int → Mm → Prop} {k_15 : Int → Int → Int → Int → Int → Int → Mm → Rs} (hC : Cok g b RX8 cX8_leastGap 8 1 (some .int)) (hk_15 : ∀ v1 : Int, inR v1 → ∀ v2 : Int, inR v2 → ∀ v3 : Int, inR v3 → ∀ v4 : Int, inR v4 → ∀ v5 : Int, inR v5 → ∀ v6 : Int, inR v6 → ∀ m : Mm, Rg m → okR (k_15 v1 v2 v3 v4 v5 v6 m) Q → X g b (true, o) 8 (ZM g b (true, o) 1 Q) 15 [(0, .ref (b.1 + 7)), (1, iV v1), (2, iV v2), (3, iV v3), (4, iV v4), (5, iV v5), (6, iV v6)] [] m 0 0) (v1 : Int) (hv1 : inR v1) (v2 : Int) (hv2 : inR v2) (v3 : Int) (hv3 : inR v3) (v4 : Int) (hv4 : inR v4) (v5 : Int) (hv5 : inR v5) (v6 : Int) (hv6 : inR v6) (m : Mm) (hm : Rg m) (hF : okR (J_X8_leastGap_51 k_15 v1 v2 v3 v4 v5 v6 m) Q) : X g b (true, o) 8 (ZM g b (true, o) 1 Q) 51 [(0, .ref (b.1 + 7)), (1, iV v1), (2, iV v2), (3, iV v3), (4, iV v4), (5, iV v5), (6, iV v6)] [] m 0 0 := by
  unfold J_X8_leastGap_51 at hF
  refine x_iinc (p := 5) (lv' := [(0, .ref (b.1 + 7)), (1, iV v1), (2, iV v2), (3, iV v3), (4, iV v4), (6, iV v6)]) hC dX8_leastGap_51 rfl rfl (by decide) rfl hF (fun x1 hx1 hF => ?_)
  refine x_sub [1, 2, 3, 4, 5, 0, 6] rfl ?_
  exact WJ_X8_leastGap_54 hC hk_15  v1 hv1 v2 hv2 v3 hv3 v4 hv4 x1 hx1 v6 hv6 m hm hF
set_option maxRecDepth 20000 in
set_option maxHeartbeats 4000000 in
theorem WL_X8_leastGap_15 {g : Gx} {b : Bs} {o : Mm} {Q : Int → Mm → Prop} (hC : Cok g b RX8 cX8_leastGap 8 1 (some .int)) : ∀ n : Nat, ∀ v1 : Int, inR v1 → ∀ v2 : Int, inR v2 → ∀ v3 : Int, inR v3 → ∀ v4 : Int, inR v4 → ∀ v5 : Int, inR v5 → ∀ v6 : Int, inR v6 → ∀ m : Mm, Rg m → okR (L_X8_leastGap_15 n v1 v2 v3 v4 v5 v6 m) Q → X g b (true, o) 8 (ZM g b (true, o) 1 Q) 15 [(0, .ref (b.1 + 7)), (1, iV v1), (2, iV v2), (3, iV v3), (4, iV v4), (5, iV v5), (6, iV v6)] [] m 0 0 := by
  intro n
  induction n with
  | zero => intro v1 hv1 v2 hv2 v3 hv3 v4 hv4 v5 hv5 v6 hv6 m hm hF; exact absurd hF (fun z => z)
  | succ n ih =>
    intro v1 hv1 v2 hv2 v3 hv3 v4 hv4 v5 hv5 v6 hv6 m hm hF
    have hF : okR (LB_X8_leastGap_15 (L_X8_leastGap_15 n) v1 v2 v3 v4 v5 v6 m) Q := hF
    unfold LB_X8_leastGap_15 at hF
    refine x_iload hC dX8_leastGap_15 rfl 6 rfl ?_
    refine x_iload_n hC dX8_leastGap_17 rfl 1 rfl ?_
    refine x_icmp_gt (tgt := 60) hC dX8_leastGap_18 rfl rfl hv6 hv1 hF (fun hq1 hF => ?_) (fun hq1 hF => ?_)
    · refine x_iconst hC dX8_leastGap_60 rfl ?_
      refine x_iload_n hC dX8_leastGap_61 rfl 2 rfl ?_
      refine x_iload hC dX8_leastGap_62 rfl 5 rfl ?_
      refine x_imul hC dX8_leastGap_64 rfl ?_
      refine x_iadd hC dX8_leastGap_65 rfl ?_
      exact x_ireturn hC dX8_leastGap_66 hm (rg_wr _) hF
    · refine x_aload_n hC dX8_leastGap_21 rfl 0 rfl ?_
      refine x_iload hC dX8_leastGap_22 rfl 6 rfl ?_
      refine x_iconst hC dX8_leastGap_24 rfl ?_
      refine x_isub hC dX8_leastGap_25 rfl ?_
      refine x_callV1 (kc2 := 0) (ks2 := 0) (k := 7) (As := [iV (wr (v6 - 1))]) (rest := []) hC dX8_leastGap_26 rfl hm (fun _ _ h => T_X10_byteAt b _ m (wr (v6 - 1)) (rg_wr _) h) mlX8_9 vlX10_byteAt rfl (by decide) rfl rfl (Nat.le_of_ble_eq_true rfl) (by decide) (by decide) rfl rfl hF (fun r2 m3 hr2 hm3 hF => ?_)
      refine x_istore (lv' := [(0, .ref (b.1 + 7)), (1, iV v1), (2, iV v2), (3, iV v3), (4, iV v4), (5, iV v5), (6, iV v6)]) hC dX8_leastGap_29 rfl (by decide) rfl hr2 hF (fun x4 hx4 hF => ?_)
      refine x_iload hC dX8_leastGap_31 rfl 0 rfl ?_
      refine x_iload hC dX8_leastGap_33 rfl 5 rfl ?_
      refine x_icmp_gt (tgt := 51) hC dX8_leastGap_35 rfl rfl hx4 hv4 hF (fun hq5 hF => ?_) (fun hq5 hF => ?_)
      · refine x_sub [1, 2, 3, 4, 5, 6, 7] rfl ?_
        exact WJ_X8_leastGap_51 hC ih  v1 hv1 v2 hv2 v3 hv3 v4 hv4 v5 hv5 v6 hv6 m3 hm3 hF
      · refine x_iload hC dX8_leastGap_38 rfl 0 rfl ?_
        refine x_iload hC dX8_leastGap_40 rfl 5 rfl ?_
        refine x_icmp_ne (tgt := 54) hC dX8_leastGap_42 rfl rfl hx4 hv4 hF (fun hq6 hF => ?_) (fun hq6 hF => ?_)
        · refine x_sub [1, 2, 3, 4, 5, 6, 7] rfl ?_
          exact WJ_X8_leastGap_54 hC ih  v1 hv1 v2 hv2 v3 hv3 v4 hv4 v5 hv5 v6 hv6 m3 hm3 hF
        · refine x_iload hC dX8_leastGap_45 rfl 7 rfl ?_
          refine x_iload_n hC dX8_leastGap_47 rfl 4 rfl ?_
          refine x_icmp_ge (tgt := 54) hC dX8_leastGap_48 rfl rfl hv6 hv3 hF (fun hq7 hF => ?_) (fun hq7 hF => ?_)
          · refine x_sub [1, 2, 3, 4, 5, 6, 7] rfl ?_
            exact WJ_X8_leastGap_54 hC ih  v1 hv1 v2 hv2 v3 hv3 v4 hv4 v5 hv5 v6 hv6 m3 hm3 hF
          · refine x_sub [1, 2, 3, 4, 5, 6, 7] rfl ?_
            exact WJ_X8_leastGap_51 hC ih  v1 hv1 v2 hv2 v3 hv3 v4 hv4 v5 hv5 v6 hv6 m3 hm3 hF
set_option maxRecDepth 20000 in
set_option maxHeartbeats 4000000 in
theorem T_X8_leastGap (b : Bs) (o : Mm) (m : Mm) (a1 : Int) (ha1 : inR a1) (a2 : Int) (ha2 : inR a2) (a3 : Int) (ha3 : inR a3) {r : Int} {m' : Mm} (h : F_X8_leastGap a1 a2 a3 m = some (r, m')) : Cn yX8_leastGap cX8_leastGap 8 (some .int) (1) 0 0 1 b (true, o) m [.ref (b.1 + 7), iV a1, iV a2, iV a3] (F_X8_leastGap a1 a2 a3 m) := by
  refine Cn_of rfl (Nat.le_of_ble_eq_true rfl) (fun g hC hm => ?_)
  have hF := okR_some h
  generalize hQ : (fun (r : Int) (m' : Mm) => F_X8_leastGap a1 a2 a3 m = some (r, m')) = Q at hF ⊢
  clear hQ h
  replace hC : Cok g b RX8 cX8_leastGap 8 1 (some .int) := hC
  refine x_lv (lv' := [(0, .ref (b.1 + 7)), (1, iV a1), (2, iV a2), (3, iV a3)]) rfl ?_
  unfold F_X8_leastGap at hF
  refine x_aload_n hC dX8_leastGap_0 rfl 0 rfl ?_
  refine x_iload_n hC dX8_leastGap_1 rfl 3 rfl ?_
  refine x_iconst hC dX8_leastGap_2 rfl ?_
  refine x_isub hC dX8_leastGap_3 rfl ?_
  refine x_callV1 (kc2 := 0) (ks2 := 0) (k := 7) (As := [iV (wr (a3 - 1))]) (rest := []) hC dX8_leastGap_4 rfl hm (fun _ _ h => T_X10_byteAt b _ m (wr (a3 - 1)) (rg_wr _) h) mlX8_9 vlX10_byteAt rfl (by decide) rfl rfl (Nat.le_of_ble_eq_true rfl) (by decide) (by decide) rfl rfl hF (fun r1 m2 hr1 hm2 hF => ?_)
  refine x_istore (lv' := [(0, .ref (b.1 + 7)), (1, iV a1), (2, iV a2), (3, iV a3)]) hC dX8_leastGap_7 rfl (by decide) rfl hr1 hF (fun x3 hx3 hF => ?_)
  refine x_iconst hC dX8_leastGap_9 rfl ?_
  refine x_istoreZ (lv' := [(4, iV x3), (0, .ref (b.1 + 7)), (1, iV a1), (2, iV a2), (3, iV a3)]) hC dX8_leastGap_10 rfl (by decide) rfl (Or.inl rfl) hF (fun x4 hx4 hF => ?_)
  refine x_iconst hC dX8_leastGap_12 rfl ?_
  refine x_istoreZ (lv' := [(5, iV x4), (4, iV x3), (0, .ref (b.1 + 7)), (1, iV a1), (2, iV a2), (3, iV a3)]) hC dX8_leastGap_13 rfl (by decide) rfl (Or.inr rfl) hF (fun x5 hx5 hF => ?_)
  refine x_sub [3, 4, 5, 6, 2, 1, 0] rfl ?_
  exact WL_X8_leastGap_15 hC 100000  a1 ha1 a2 ha2 a3 ha3 x3 hx3 x4 (rg_01 hx4) x5 (rg_01 hx5) m2 hm2 hF
set_option maxRecDepth 20000 in
set_option maxHeartbeats 4000000 in
theorem WL_X8_leastSum_5 {g : Gx} {b : Bs} {o : Mm} {Q : Int → Mm → Prop} (hC : Cok g b RX8 cX8_leastSum 5 2 (some .int)) : ∀ n : Nat, ∀ v1 : Int, inR v1 → ∀ v2 : Int, inR v2 → ∀ v3 : Int, inR v3 → ∀ v4 : Int, inR v4 → ∀ m : Mm, Rg m → okR (L_X8_leastSum_5 n v1 v2 v3 v4 m) Q → X g b (true, o) 5 (ZM g b (true, o) 1 Q) 5 [(0, .ref (b.1 + 7)), (1, iV v1), (2, iV v2), (3, iV v3), (4, iV v4)] [] m 0 0 := by
  intro n
  induction n with
  | zero => intro v1 hv1 v2 hv2 v3 hv3 v4 hv4 m hm hF; exact absurd hF (fun z => z)
  | succ n ih =>
    intro v1 hv1 v2 hv2 v3 hv3 v4 hv4 m hm hF
    have hF : okR (LB_X8_leastSum_5 (L_X8_leastSum_5 n) v1 v2 v3 v4 m) Q := hF
    unfold LB_X8_leastSum_5 at hF
    refine x_iload hC dX8_leastSum_5 rfl 4 rfl ?_
    refine x_iload_n hC dX8_leastSum_7 rfl 1 rfl ?_
    refine x_icmp_gt (tgt := 37) hC dX8_leastSum_8 rfl rfl hv4 hv1 hF (fun hq1 hF => ?_) (fun hq1 hF => ?_)
    · refine x_iload_n hC dX8_leastSum_37 rfl 3 rfl ?_
      exact x_ireturn hC dX8_leastSum_38 hm hv3 hF
    · refine x_iload_n hC dX8_leastSum_11 rfl 3 rfl ?_
      refine x_aload_n hC dX8_leastSum_12 rfl 0 rfl ?_
      refine x_iload hC dX8_leastSum_13 rfl 4 rfl ?_
      refine x_iconst hC dX8_leastSum_15 rfl ?_
      refine x_isub hC dX8_leastSum_16 rfl ?_
      refine x_callV1 (kc2 := 0) (ks2 := 0) (k := 7) (As := [iV (wr (v4 - 1))]) (rest := [iV v3]) hC dX8_leastSum_17 rfl hm (fun _ _ h => T_X10_byteAt b _ m (wr (v4 - 1)) (rg_wr _) h) mlX8_9 vlX10_byteAt rfl (by decide) rfl rfl (Nat.le_of_ble_eq_true rfl) (by decide) (by decide) rfl rfl hF (fun r2 m3 hr2 hm3 hF => ?_)
      refine x_aload_n hC dX8_leastSum_20 rfl 0 rfl ?_
      refine x_iload_n hC dX8_leastSum_21 rfl 1 rfl ?_
      refine x_iload_n hC dX8_leastSum_22 rfl 2 rfl ?_
      refine x_iload hC dX8_leastSum_23 rfl 4 rfl ?_
      refine x_callS1 (kc2 := 0) (ks2 := 0) (As := [.ref (b.1 + 7), iV v1, iV v2, iV v4]) (rest := [iV r2, iV v3]) hC dX8_leastSum_25 rfl hm3 (fun _ _ h => T_X8_leastGap b _ m3 v1 hv1 v2 hv2 v4 hv4 h) mlX8_15 vsX8_leastGap rfl rfl (Nat.le_of_ble_eq_true rfl) (by decide) (by decide) rfl rfl hF (fun r4 m5 hr4 hm5 hF => ?_)
      refine x_imul hC dX8_leastSum_28 rfl ?_
      refine x_iadd hC dX8_leastSum_29 rfl ?_
      refine x_istore_n (lv' := [(0, .ref (b.1 + 7)), (1, iV v1), (2, iV v2), (4, iV v4)]) hC dX8_leastSum_30 rfl rfl (by decide) rfl (rg_wr _) hF (fun x6 hx6 hF => ?_)
      refine x_iinc (p := 4) (lv' := [(3, iV x6), (0, .ref (b.1 + 7)), (1, iV v1), (2, iV v2)]) hC dX8_leastSum_31 rfl rfl (by decide) rfl hF (fun x7 hx7 hF => ?_)
      refine x_goto (tgt := 5) hC dX8_leastSum_34 rfl ?_
      refine x_sub [2, 3, 4, 1, 0] rfl ?_
      exact ih v1 hv1 v2 hv2 x6 hx6 x7 hx7 m5 hm5 hF
set_option maxRecDepth 20000 in
set_option maxHeartbeats 4000000 in
theorem T_X8_leastSum (b : Bs) (o : Mm) (m : Mm) (a1 : Int) (ha1 : inR a1) (a2 : Int) (ha2 : inR a2) {r : Int} {m' : Mm} (h : F_X8_leastSum a1 a2 m = some (r, m')) : Cn yX8_leastSum cX8_leastSum 5 (some .int) (2) 0 0 1 b (true, o) m [.ref (b.1 + 7), iV a1, iV a2] (F_X8_leastSum a1 a2 m) := by
  refine Cn_of rfl (Nat.le_of_ble_eq_true rfl) (fun g hC hm => ?_)
  have hF := okR_some h
  generalize hQ : (fun (r : Int) (m' : Mm) => F_X8_leastSum a1 a2 m = some (r, m')) = Q at hF ⊢
  clear hQ h
  replace hC : Cok g b RX8 cX8_leastSum 5 2 (some .int) := hC
  refine x_lv (lv' := [(0, .ref (b.1 + 7)), (1, iV a1), (2, iV a2)]) rfl ?_
  unfold F_X8_leastSum at hF
  refine x_iconst hC dX8_leastSum_0 rfl ?_
  refine x_istore_nZ (lv' := [(0, .ref (b.1 + 7)), (1, iV a1), (2, iV a2)]) hC dX8_leastSum_1 rfl rfl (by decide) rfl (Or.inl rfl) hF (fun x1 hx1 hF => ?_)
  refine x_iconst hC dX8_leastSum_2 rfl ?_
  refine x_istoreZ (lv' := [(3, iV x1), (0, .ref (b.1 + 7)), (1, iV a1), (2, iV a2)]) hC dX8_leastSum_3 rfl (by decide) rfl (Or.inr rfl) hF (fun x2 hx2 hF => ?_)
  refine x_sub [2, 3, 4, 1, 0] rfl ?_
  exact WL_X8_leastSum_5 hC 100000  a1 ha1 a2 ha2 x1 (rg_01 hx1) x2 (rg_01 hx2) m hm hF
set_option maxRecDepth 20000 in
set_option maxHeartbeats 4000000 in
theorem WL_X8_meaningOf_2 {g : Gx} {b : Bs} {o : Mm} {Q : Int → Mm → Prop} (hC : Cok g b RX8 cX8_meaningOf 4 1 (some .int)) : ∀ n : Nat, ∀ v1 : Int, inR v1 → ∀ v2 : Int, inR v2 → ∀ v3 : Int, inR v3 → ∀ m : Mm, Rg m → okR (L_X8_meaningOf_2 n v1 v2 v3 m) Q → X g b (true, o) 4 (ZM g b (true, o) 1 Q) 2 [(0, .ref (b.1 + 7)), (1, iV v1), (2, iV v2), (3, iV v3)] [] m 0 0 := by
  intro n
  induction n with
  | zero => intro v1 hv1 v2 hv2 v3 hv3 m hm hF; exact absurd hF (fun z => z)
  | succ n ih =>
    intro v1 hv1 v2 hv2 v3 hv3 m hm hF
    have hF : okR (LB_X8_meaningOf_2 (L_X8_meaningOf_2 n) v1 v2 v3 m) Q := hF
    unfold LB_X8_meaningOf_2 at hF
    refine x_iload_n hC dX8_meaningOf_2 rfl 3 rfl ?_
    refine x_iload_n hC dX8_meaningOf_3 rfl 1 rfl ?_
    refine x_icmp_gt (tgt := 26) hC dX8_meaningOf_4 rfl rfl hv3 hv1 hF (fun hq1 hF => ?_) (fun hq1 hF => ?_)
    · refine x_iconst hC dX8_meaningOf_26 rfl ?_
      exact x_ireturn hC dX8_meaningOf_27 hm (rgc 0 rfl) hF
    · refine x_aload_n hC dX8_meaningOf_7 rfl 0 rfl ?_
      refine x_iload_n hC dX8_meaningOf_8 rfl 3 rfl ?_
      refine x_iconst hC dX8_meaningOf_9 rfl ?_
      refine x_isub hC dX8_meaningOf_10 rfl ?_
      refine x_callV1 (kc2 := 0) (ks2 := 0) (k := 7) (As := [iV (wr (v3 - 1))]) (rest := []) hC dX8_meaningOf_11 rfl hm (fun _ _ h => T_X10_byteAt b _ m (wr (v3 - 1)) (rg_wr _) h) mlX8_9 vlX10_byteAt rfl (by decide) rfl rfl (Nat.le_of_ble_eq_true rfl) (by decide) (by decide) rfl rfl hF (fun r2 m3 hr2 hm3 hF => ?_)
      refine x_iload_n hC dX8_meaningOf_14 rfl 2 rfl ?_
      refine x_icmp_ne (tgt := 20) hC dX8_meaningOf_15 rfl rfl hr2 hv2 hF (fun hq4 hF => ?_) (fun hq4 hF => ?_)
      · refine x_iinc (p := 3) (lv' := [(0, .ref (b.1 + 7)), (1, iV v1), (2, iV v2)]) hC dX8_meaningOf_20 rfl rfl (by decide) rfl hF (fun x5 hx5 hF => ?_)
        refine x_goto (tgt := 2) hC dX8_meaningOf_23 rfl ?_
        refine x_sub [1, 2, 3, 0] rfl ?_
        exact ih v1 hv1 v2 hv2 x5 hx5 m3 hm3 hF
      · refine x_iload_n hC dX8_meaningOf_18 rfl 3 rfl ?_
        exact x_ireturn hC dX8_meaningOf_19 hm3 hv3 hF
set_option maxRecDepth 20000 in
set_option maxHeartbeats 4000000 in
theorem T_X8_meaningOf (b : Bs) (o : Mm) (m : Mm) (a1 : Int) (ha1 : inR a1) (a2 : Int) (ha2 : inR a2) {r : Int} {m' : Mm} (h : F_X8_meaningOf a1 a2 m = some (r, m')) : Cn yX8_meaningOf cX8_meaningOf 4 (some .int) (1) 0 0 1 b (true, o) m [.ref (b.1 + 7), iV a1, iV a2] (F_X8_meaningOf a1 a2 m) := by
  refine Cn_of rfl (Nat.le_of_ble_eq_true rfl) (fun g hC hm => ?_)
  have hF := okR_some h
  generalize hQ : (fun (r : Int) (m' : Mm) => F_X8_meaningOf a1 a2 m = some (r, m')) = Q at hF ⊢
  clear hQ h
  replace hC : Cok g b RX8 cX8_meaningOf 4 1 (some .int) := hC
  refine x_lv (lv' := [(0, .ref (b.1 + 7)), (1, iV a1), (2, iV a2)]) rfl ?_
  unfold F_X8_meaningOf at hF
  refine x_iconst hC dX8_meaningOf_0 rfl ?_
  refine x_istore_nZ (lv' := [(0, .ref (b.1 + 7)), (1, iV a1), (2, iV a2)]) hC dX8_meaningOf_1 rfl rfl (by decide) rfl (Or.inr rfl) hF (fun x1 hx1 hF => ?_)
  refine x_sub [1, 2, 3, 0] rfl ?_
  exact WL_X8_meaningOf_2 hC 100000  a1 ha1 a2 ha2 x1 (rg_01 hx1) m hm hF
set_option maxRecDepth 20000 in
set_option maxHeartbeats 4000000 in
theorem WL_X8_areGaps_2 {g : Gx} {b : Bs} {o : Mm} {Q : Int → Mm → Prop} (hC : Cok g b RX8 cX8_areGaps 4 2 (some .boolean)) : ∀ n : Nat, ∀ v1 : Int, inR v1 → ∀ v2 : Int, inR v2 → ∀ m : Mm, Rg m → okR (L_X8_areGaps_2 n v1 v2 m) Q → X g b (true, o) 4 (ZM g b (true, o) 3 Q) 2 [(0, .ref (b.1 + 7)), (1, iV v1), (2, iV v2)] [] m 0 0 := by
  intro n
  induction n with
  | zero => intro v1 hv1 v2 hv2 m hm hF; exact absurd hF (fun z => z)
  | succ n ih =>
    intro v1 hv1 v2 hv2 m hm hF
    have hF : okR (LB_X8_areGaps_2 (L_X8_areGaps_2 n) v1 v2 m) Q := hF
    unfold LB_X8_areGaps_2 at hF
    refine x_iload_n hC dX8_areGaps_2 rfl 2 rfl ?_
    refine x_iload_n hC dX8_areGaps_3 rfl 1 rfl ?_
    refine x_icmp_gt (tgt := 43) hC dX8_areGaps_4 rfl rfl hv2 hv1 hF (fun hq1 hF => ?_) (fun hq1 hF => ?_)
    · refine x_iconst hC dX8_areGaps_43 rfl ?_
      exact x_zreturn hC dX8_areGaps_44 hm (Or.inr rfl) hF
    · refine x_aload_n hC dX8_areGaps_7 rfl 0 rfl ?_
      refine x_iload_n hC dX8_areGaps_8 rfl 2 rfl ?_
      refine x_iconst hC dX8_areGaps_9 rfl ?_
      refine x_isub hC dX8_areGaps_10 rfl ?_
      refine x_callV1 (kc2 := 0) (ks2 := 0) (k := 7) (As := [iV (wr (v2 - 1))]) (rest := []) hC dX8_areGaps_11 rfl hm (fun _ _ h => T_X10_byteAt b _ m (wr (v2 - 1)) (rg_wr _) h) mlX8_9 vlX10_byteAt rfl (by decide) rfl rfl (Nat.le_of_ble_eq_true rfl) (by decide) (by decide) rfl rfl hF (fun r2 m3 hr2 hm3 hF => ?_)
      refine x_istore_n (lv' := [(0, .ref (b.1 + 7)), (1, iV v1), (2, iV v2)]) hC dX8_areGaps_14 rfl rfl (by decide) rfl hr2 hF (fun x4 hx4 hF => ?_)
      refine x_iload_n hC dX8_areGaps_15 rfl 0 rfl ?_
      refine x_iconst hC dX8_areGaps_16 rfl ?_
      refine x_bipush hC dX8_areGaps_17 rfl rfl ?_
      refine x_callSN3 (kc2 := 0) (ks2 := 0) (As := [iV x4, iV 1, iV 63]) (rest := []) hC dX8_areGaps_19 rfl hm3 (fun _ _ h => T_X11_within b _ m3 x4 hx4 1 (rgc 1 rfl) 63 (rgc 63 rfl) h) mlX8_21 vsX11_within rfl rfl (Nat.le_of_ble_eq_true rfl) (by decide) (by decide) rfl rfl hF (fun r5 m6 hr5 hm6 hF => ?_)
      refine x_if_eq (tgt := 35) hC dX8_areGaps_22 rfl rfl (rg_01 hr5) hF (fun hq7 hF => ?_) (fun hq7 hF => ?_)
      · refine x_iconst hC dX8_areGaps_35 rfl ?_
        exact x_zreturn hC dX8_areGaps_36 hm6 (Or.inl rfl) hF
      · refine x_aload_n hC dX8_areGaps_25 rfl 1 rfl ?_
        refine x_iload_n hC dX8_areGaps_26 rfl 2 rfl ?_
        refine x_iload_n hC dX8_areGaps_27 rfl 0 rfl ?_
        refine x_callS1 (kc2 := 0) (ks2 := 0) (As := [.ref (b.1 + 7), iV v1, iV x4]) (rest := []) hC dX8_areGaps_28 rfl hm6 (fun _ _ h => T_X8_meaningOf b _ m6 v1 hv1 x4 hx4 h) mlX8_25 vsX8_meaningOf rfl rfl (Nat.le_of_ble_eq_true rfl) (by decide) (by decide) rfl rfl hF (fun r8 m9 hr8 hm9 hF => ?_)
        refine x_iload_n hC dX8_areGaps_31 rfl 3 rfl ?_
        refine x_icmp_eq (tgt := 37) hC dX8_areGaps_32 rfl rfl hr8 hv2 hF (fun hq10 hF => ?_) (fun hq10 hF => ?_)
        · refine x_iinc (p := 3) (lv' := [(3, iV x4), (0, .ref (b.1 + 7)), (1, iV v1)]) hC dX8_areGaps_37 rfl rfl (by decide) rfl hF (fun x11 hx11 hF => ?_)
          refine x_goto (tgt := 2) hC dX8_areGaps_40 rfl ?_
          refine x_sub [2, 3, 0] rfl ?_
          exact ih v1 hv1 x11 hx11 m9 hm9 hF
        · refine x_iconst hC dX8_areGaps_35 rfl ?_
          exact x_zreturn hC dX8_areGaps_36 hm9 (Or.inl rfl) hF
set_option maxRecDepth 20000 in
set_option maxHeartbeats 4000000 in
theorem T_X8_areGaps (b : Bs) (o : Mm) (m : Mm) (a1 : Int) (ha1 : inR a1) {r : Int} {m' : Mm} (h : F_X8_areGaps a1 m = some (r, m')) : Cn yX8_areGaps cX8_areGaps 4 (some .boolean) (2) 0 0 3 b (true, o) m [.ref (b.1 + 7), iV a1] (F_X8_areGaps a1 m) := by
  refine Cn_of rfl (Nat.le_of_ble_eq_true rfl) (fun g hC hm => ?_)
  have hF := okR_some h
  generalize hQ : (fun (r : Int) (m' : Mm) => F_X8_areGaps a1 m = some (r, m')) = Q at hF ⊢
  clear hQ h
  replace hC : Cok g b RX8 cX8_areGaps 4 2 (some .boolean) := hC
  refine x_lv (lv' := [(0, .ref (b.1 + 7)), (1, iV a1)]) rfl ?_
  unfold F_X8_areGaps at hF
  refine x_iconst hC dX8_areGaps_0 rfl ?_
  refine x_istore_nZ (lv' := [(0, .ref (b.1 + 7)), (1, iV a1)]) hC dX8_areGaps_1 rfl rfl (by decide) rfl (Or.inr rfl) hF (fun x1 hx1 hF => ?_)
  refine x_sub [1, 2, 0] rfl ?_
  exact WL_X8_areGaps_2 hC 100000  a1 ha1 x1 (rg_01 hx1) m hm hF
set_option maxRecDepth 20000 in
set_option maxHeartbeats 4000000 in
theorem T_X8_shifted (b : Bs) (o : Mm) (m : Mm) (a1 : Int) (ha1 : inR a1) (a2 : Int) (ha2 : inR a2) (a3 : Int) (ha3 : inR a3) {r : Int} {m' : Mm} (h : F_X8_shifted a1 a2 a3 m = some (r, m')) : Cn yX8_shifted cX8_shifted 4 (some .int) (2) 0 0 1 b (true, o) m [.ref (b.1 + 7), iV a1, iV a2, iV a3] (F_X8_shifted a1 a2 a3 m) := by
  refine Cn_of rfl (Nat.le_of_ble_eq_true rfl) (fun g hC hm => ?_)
  have hF := okR_some h
  generalize hQ : (fun (r : Int) (m' : Mm) => F_X8_shifted a1 a2 a3 m = some (r, m')) = Q at hF ⊢
  clear hQ h
  replace hC : Cok g b RX8 cX8_shifted 4 2 (some .int) := hC
  refine x_lv (lv' := [(0, .ref (b.1 + 7)), (1, iV a1), (2, iV a2), (3, iV a3)]) rfl ?_
  unfold F_X8_shifted at hF
  refine x_aload_n hC dX8_shifted_0 rfl 0 rfl ?_
  refine x_iload_n hC dX8_shifted_1 rfl 1 rfl ?_
  refine x_aload_n hC dX8_shifted_2 rfl 0 rfl ?_
  refine x_iload_n hC dX8_shifted_3 rfl 2 rfl ?_
  refine x_iconst hC dX8_shifted_4 rfl ?_
  refine x_isub hC dX8_shifted_5 rfl ?_
  refine x_callV1 (kc2 := 0) (ks2 := 0) (k := 7) (As := [iV (wr (a2 - 1))]) (rest := [iV a1, .ref (b.1 + 7)]) hC dX8_shifted_6 rfl hm (fun _ _ h => T_X10_byteAt b _ m (wr (a2 - 1)) (rg_wr _) h) mlX8_9 vlX10_byteAt rfl (by decide) rfl rfl (Nat.le_of_ble_eq_true rfl) (by decide) (by decide) rfl rfl hF (fun r1 m2 hr1 hm2 hF => ?_)
  refine x_iload_n hC dX8_shifted_9 rfl 3 rfl ?_
  refine x_iadd hC dX8_shifted_10 rfl ?_
  refine x_callS1 (kc2 := 0) (ks2 := 0) (As := [.ref (b.1 + 7), iV a1, iV (wr (r1 + a3))]) (rest := []) hC dX8_shifted_11 rfl hm2 (fun _ _ h => T_X8_meaningOf b _ m2 a1 ha1 (wr (r1 + a3)) (rg_wr _) h) mlX8_25 vsX8_meaningOf rfl rfl (Nat.le_of_ble_eq_true rfl) (by decide) (by decide) rfl rfl hF (fun r3 m4 hr3 hm4 hF => ?_)
  exact x_ireturn hC dX8_shifted_14 hm4 hr3 hF
set_option maxRecDepth 20000 in
set_option maxHeartbeats 4000000 in
theorem WL_X8_firstShifted_2 {g : Gx} {b : Bs} {o : Mm} {Q : Int → Mm → Prop} (hC : Cok g b RX8 cX8_firstShifted 4 3 (some .int)) : ∀ n : Nat, ∀ v1 : Int, inR v1 → ∀ v2 : Int, inR v2 → ∀ v3 : Int, inR v3 → ∀ m : Mm, Rg m → okR (L_X8_firstShifted_2 n v1 v2 v3 m) Q → X g b (true, o) 4 (ZM g b (true, o) 1 Q) 2 [(0, .ref (b.1 + 7)), (1, iV v1), (2, iV v2), (3, iV v3)] [] m 0 0 := by
  intro n
  induction n with
  | zero => intro v1 hv1 v2 hv2 v3 hv3 m hm hF; exact absurd hF (fun z => z)
  | succ n ih =>
    intro v1 hv1 v2 hv2 v3 hv3 m hm hF
    have hF : okR (LB_X8_firstShifted_2 (L_X8_firstShifted_2 n) v1 v2 v3 m) Q := hF
    unfold LB_X8_firstShifted_2 at hF
    refine x_iload_n hC dX8_firstShifted_2 rfl 3 rfl ?_
    refine x_iload_n hC dX8_firstShifted_3 rfl 1 rfl ?_
    refine x_icmp_gt (tgt := 25) hC dX8_firstShifted_4 rfl rfl hv3 hv1 hF (fun hq1 hF => ?_) (fun hq1 hF => ?_)
    · refine x_iconst hC dX8_firstShifted_25 rfl ?_
      exact x_ireturn hC dX8_firstShifted_26 hm (rgc 0 rfl) hF
    · refine x_aload_n hC dX8_firstShifted_7 rfl 0 rfl ?_
      refine x_iload_n hC dX8_firstShifted_8 rfl 1 rfl ?_
      refine x_iload_n hC dX8_firstShifted_9 rfl 3 rfl ?_
      refine x_iload_n hC dX8_firstShifted_10 rfl 2 rfl ?_
      refine x_callS1 (kc2 := 0) (ks2 := 0) (As := [.ref (b.1 + 7), iV v1, iV v3, iV v2]) (rest := []) hC dX8_firstShifted_11 rfl hm (fun _ _ h => T_X8_shifted b _ m v1 hv1 v3 hv3 v2 hv2 h) mlX8_29 vsX8_shifted rfl rfl (Nat.le_of_ble_eq_true rfl) (by decide) (by decide) rfl rfl hF (fun r2 m3 hr2 hm3 hF => ?_)
      refine x_if_eq (tgt := 19) hC dX8_firstShifted_14 rfl rfl hr2 hF (fun hq4 hF => ?_) (fun hq4 hF => ?_)
      · refine x_iinc (p := 3) (lv' := [(0, .ref (b.1 + 7)), (1, iV v1), (2, iV v2)]) hC dX8_firstShifted_19 rfl rfl (by decide) rfl hF (fun x5 hx5 hF => ?_)
        refine x_goto (tgt := 2) hC dX8_firstShifted_22 rfl ?_
        refine x_sub [1, 2, 3, 0] rfl ?_
        exact ih v1 hv1 v2 hv2 x5 hx5 m3 hm3 hF
      · refine x_iload_n hC dX8_firstShifted_17 rfl 3 rfl ?_
        exact x_ireturn hC dX8_firstShifted_18 hm3 hv3 hF
set_option maxRecDepth 20000 in
set_option maxHeartbeats 4000000 in
theorem T_X8_firstShifted (b : Bs) (o : Mm) (m : Mm) (a1 : Int) (ha1 : inR a1) (a2 : Int) (ha2 : inR a2) {r : Int} {m' : Mm} (h : F_X8_firstShifted a1 a2 m = some (r, m')) : Cn yX8_firstShifted cX8_firstShifted 4 (some .int) (3) 0 0 1 b (true, o) m [.ref (b.1 + 7), iV a1, iV a2] (F_X8_firstShifted a1 a2 m) := by
  refine Cn_of rfl (Nat.le_of_ble_eq_true rfl) (fun g hC hm => ?_)
  have hF := okR_some h
  generalize hQ : (fun (r : Int) (m' : Mm) => F_X8_firstShifted a1 a2 m = some (r, m')) = Q at hF ⊢
  clear hQ h
  replace hC : Cok g b RX8 cX8_firstShifted 4 3 (some .int) := hC
  refine x_lv (lv' := [(0, .ref (b.1 + 7)), (1, iV a1), (2, iV a2)]) rfl ?_
  unfold F_X8_firstShifted at hF
  refine x_iconst hC dX8_firstShifted_0 rfl ?_
  refine x_istore_nZ (lv' := [(0, .ref (b.1 + 7)), (1, iV a1), (2, iV a2)]) hC dX8_firstShifted_1 rfl rfl (by decide) rfl (Or.inr rfl) hF (fun x1 hx1 hF => ?_)
  refine x_sub [1, 2, 3, 0] rfl ?_
  exact WL_X8_firstShifted_2 hC 100000  a1 ha1 a2 ha2 x1 (rg_01 hx1) m hm hF
set_option maxRecDepth 20000 in
set_option maxHeartbeats 4000000 in
theorem WJ_X8_howManyShifted_30 {g : Gx} {b : Bs} {o : Mm} {Q : Int → Mm → Prop} {k_5 : Int → Int → Int → Int → Mm → Rs} (hC : Cok g b RX8 cX8_howManyShifted 5 3 (some .int)) (hk_5 : ∀ v1 : Int, inR v1 → ∀ v2 : Int, inR v2 → ∀ v3 : Int, inR v3 → ∀ v4 : Int, inR v4 → ∀ m : Mm, Rg m → okR (k_5 v1 v2 v3 v4 m) Q → X g b (true, o) 5 (ZM g b (true, o) 1 Q) 5 [(0, .ref (b.1 + 7)), (1, iV v1), (2, iV v2), (3, iV v3), (4, iV v4)] [] m 0 0) (v1 : Int) (hv1 : inR v1) (v2 : Int) (hv2 : inR v2) (v3 : Int) (hv3 : inR v3) (v4 : Int) (hv4 : inR v4) (m : Mm) (hm : Rg m) (hF : okR (J_X8_howManyShifted_30 k_5 v1 v2 v3 v4 m) Q) : X g b (true, o) 5 (ZM g b (true, o) 1 Q) 30 [(0, .ref (b.1 + 7)), (1, iV v1), (2, iV v2), (3, iV v3), (4, iV v4)] [] m 0 0 := by
  unfold J_X8_howManyShifted_30 at hF
  refine x_iinc (p := 4) (lv' := [(0, .ref (b.1 + 7)), (1, iV v1), (2, iV v2), (3, iV v3)]) hC dX8_howManyShifted_30 rfl rfl (by decide) rfl hF (fun x1 hx1 hF => ?_)
  refine x_goto (tgt := 5) hC dX8_howManyShifted_33 rfl ?_
  refine x_sub [1, 2, 3, 4, 0] rfl ?_
  exact hk_5 v1 hv1 v2 hv2 v3 hv3 x1 hx1 m hm hF
set_option maxRecDepth 20000 in
set_option maxHeartbeats 4000000 in
theorem WL_X8_howManyShifted_5 {g : Gx} {b : Bs} {o : Mm} {Q : Int → Mm → Prop} (hC : Cok g b RX8 cX8_howManyShifted 5 3 (some .int)) : ∀ n : Nat, ∀ v1 : Int, inR v1 → ∀ v2 : Int, inR v2 → ∀ v3 : Int, inR v3 → ∀ v4 : Int, inR v4 → ∀ m : Mm, Rg m → okR (L_X8_howManyShifted_5 n v1 v2 v3 v4 m) Q → X g b (true, o) 5 (ZM g b (true, o) 1 Q) 5 [(0, .ref (b.1 + 7)), (1, iV v1), (2, iV v2), (3, iV v3), (4, iV v4)] [] m 0 0 := by
  intro n
  induction n with
  | zero => intro v1 hv1 v2 hv2 v3 hv3 v4 hv4 m hm hF; exact absurd hF (fun z => z)
  | succ n ih =>
    intro v1 hv1 v2 hv2 v3 hv3 v4 hv4 m hm hF
    have hF : okR (LB_X8_howManyShifted_5 (L_X8_howManyShifted_5 n) v1 v2 v3 v4 m) Q := hF
    unfold LB_X8_howManyShifted_5 at hF
    refine x_iload hC dX8_howManyShifted_5 rfl 4 rfl ?_
    refine x_iload_n hC dX8_howManyShifted_7 rfl 1 rfl ?_
    refine x_icmp_gt (tgt := 36) hC dX8_howManyShifted_8 rfl rfl hv4 hv1 hF (fun hq1 hF => ?_) (fun hq1 hF => ?_)
    · refine x_iload_n hC dX8_howManyShifted_36 rfl 3 rfl ?_
      exact x_ireturn hC dX8_howManyShifted_37 hm hv3 hF
    · refine x_iload_n hC dX8_howManyShifted_11 rfl 3 rfl ?_
      refine x_aload_n hC dX8_howManyShifted_12 rfl 0 rfl ?_
      refine x_iload_n hC dX8_howManyShifted_13 rfl 1 rfl ?_
      refine x_iload hC dX8_howManyShifted_14 rfl 4 rfl ?_
      refine x_iload_n hC dX8_howManyShifted_16 rfl 2 rfl ?_
      refine x_callS1 (kc2 := 0) (ks2 := 0) (As := [.ref (b.1 + 7), iV v1, iV v4, iV v2]) (rest := [iV v3]) hC dX8_howManyShifted_17 rfl hm (fun _ _ h => T_X8_shifted b _ m v1 hv1 v4 hv4 v2 hv2 h) mlX8_29 vsX8_shifted rfl rfl (Nat.le_of_ble_eq_true rfl) (by decide) (by decide) rfl rfl hF (fun r2 m3 hr2 hm3 hF => ?_)
      refine x_if_eq (tgt := 27) hC dX8_howManyShifted_20 rfl rfl hr2 hF (fun hq4 hF => ?_) (fun hq4 hF => ?_)
      · refine x_iconst hC dX8_howManyShifted_27 rfl ?_
        refine x_iadd hC dX8_howManyShifted_28 rfl ?_
        refine x_istore_n (lv' := [(0, .ref (b.1 + 7)), (1, iV v1), (2, iV v2), (4, iV v4)]) hC dX8_howManyShifted_29 rfl rfl (by decide) rfl (rg_wr _) hF (fun x5 hx5 hF => ?_)
        refine x_sub [1, 2, 3, 0, 4] rfl ?_
        exact WJ_X8_howManyShifted_30 hC ih  v1 hv1 v2 hv2 x5 hx5 v4 hv4 m3 hm3 hF
      · refine x_iconst hC dX8_howManyShifted_23 rfl ?_
        refine x_goto (tgt := 28) hC dX8_howManyShifted_24 rfl ?_
        refine x_iadd hC dX8_howManyShifted_28 rfl ?_
        refine x_istore_n (lv' := [(0, .ref (b.1 + 7)), (1, iV v1), (2, iV v2), (4, iV v4)]) hC dX8_howManyShifted_29 rfl rfl (by decide) rfl (rg_wr _) hF (fun x6 hx6 hF => ?_)
        refine x_sub [1, 2, 3, 0, 4] rfl ?_
        exact WJ_X8_howManyShifted_30 hC ih  v1 hv1 v2 hv2 x6 hx6 v4 hv4 m3 hm3 hF
set_option maxRecDepth 20000 in
set_option maxHeartbeats 4000000 in
theorem T_X8_howManyShifted (b : Bs) (o : Mm) (m : Mm) (a1 : Int) (ha1 : inR a1) (a2 : Int) (ha2 : inR a2) {r : Int} {m' : Mm} (h : F_X8_howManyShifted a1 a2 m = some (r, m')) : Cn yX8_howManyShifted cX8_howManyShifted 5 (some .int) (3) 0 0 1 b (true, o) m [.ref (b.1 + 7), iV a1, iV a2] (F_X8_howManyShifted a1 a2 m) := by
  refine Cn_of rfl (Nat.le_of_ble_eq_true rfl) (fun g hC hm => ?_)
  have hF := okR_some h
  generalize hQ : (fun (r : Int) (m' : Mm) => F_X8_howManyShifted a1 a2 m = some (r, m')) = Q at hF ⊢
  clear hQ h
  replace hC : Cok g b RX8 cX8_howManyShifted 5 3 (some .int) := hC
  refine x_lv (lv' := [(0, .ref (b.1 + 7)), (1, iV a1), (2, iV a2)]) rfl ?_
  unfold F_X8_howManyShifted at hF
  refine x_iconst hC dX8_howManyShifted_0 rfl ?_
  refine x_istore_nZ (lv' := [(0, .ref (b.1 + 7)), (1, iV a1), (2, iV a2)]) hC dX8_howManyShifted_1 rfl rfl (by decide) rfl (Or.inl rfl) hF (fun x1 hx1 hF => ?_)
  refine x_iconst hC dX8_howManyShifted_2 rfl ?_
  refine x_istoreZ (lv' := [(3, iV x1), (0, .ref (b.1 + 7)), (1, iV a1), (2, iV a2)]) hC dX8_howManyShifted_3 rfl (by decide) rfl (Or.inr rfl) hF (fun x2 hx2 hF => ?_)
  refine x_sub [2, 3, 4, 1, 0] rfl ?_
  exact WL_X8_howManyShifted_5 hC 100000  a1 ha1 a2 ha2 x1 (rg_01 hx1) x2 (rg_01 hx2) m hm hF
set_option maxRecDepth 20000 in
set_option maxHeartbeats 4000000 in
theorem T_X8_howManyAlike (b : Bs) (o : Mm) (m : Mm) (a1 : Int) (ha1 : inR a1) {r : Int} {m' : Mm} (h : F_X8_howManyAlike a1 m = some (r, m')) : Cn yX8_howManyAlike cX8_howManyAlike 2 (some .int) (4) 0 0 1 b (true, o) m [.ref (b.1 + 7), iV a1] (F_X8_howManyAlike a1 m) := by
  refine Cn_of rfl (Nat.le_of_ble_eq_true rfl) (fun g hC hm => ?_)
  have hF := okR_some h
  generalize hQ : (fun (r : Int) (m' : Mm) => F_X8_howManyAlike a1 m = some (r, m')) = Q at hF ⊢
  clear hQ h
  replace hC : Cok g b RX8 cX8_howManyAlike 2 4 (some .int) := hC
  refine x_lv (lv' := [(0, .ref (b.1 + 7)), (1, iV a1)]) rfl ?_
  unfold F_X8_howManyAlike at hF
  refine x_aload_n hC dX8_howManyAlike_0 rfl 0 rfl ?_
  refine x_iload_n hC dX8_howManyAlike_1 rfl 1 rfl ?_
  refine x_iconst hC dX8_howManyAlike_2 rfl ?_
  refine x_callS1 (kc2 := 0) (ks2 := 0) (As := [.ref (b.1 + 7), iV a1, iV 1]) (rest := []) hC dX8_howManyAlike_3 rfl hm (fun _ _ h => T_X8_howManyShifted b _ m a1 ha1 1 (rgc 1 rfl) h) mlX8_32 vsX8_howManyShifted rfl rfl (Nat.le_of_ble_eq_true rfl) (by decide) (by decide) rfl rfl hF (fun r1 m2 hr1 hm2 hF => ?_)
  refine x_aload_n hC dX8_howManyAlike_6 rfl 0 rfl ?_
  refine x_iload_n hC dX8_howManyAlike_7 rfl 1 rfl ?_
  refine x_iconst hC dX8_howManyAlike_8 rfl ?_
  refine x_callS1 (kc2 := 0) (ks2 := 0) (As := [.ref (b.1 + 7), iV a1, iV (-1)]) (rest := [iV r1]) hC dX8_howManyAlike_9 rfl hm2 (fun _ _ h => T_X8_howManyShifted b _ m2 a1 ha1 (-1) (rgc (-1) rfl) h) mlX8_32 vsX8_howManyShifted rfl rfl (Nat.le_of_ble_eq_true rfl) (by decide) (by decide) rfl rfl hF (fun r3 m4 hr3 hm4 hF => ?_)
  refine x_imul hC dX8_howManyAlike_12 rfl ?_
  exact x_ireturn hC dX8_howManyAlike_13 hm4 (rg_wr _) hF
set_option maxRecDepth 20000 in
set_option maxHeartbeats 4000000 in
theorem T_X8_firstAlike (b : Bs) (o : Mm) (m : Mm) (a1 : Int) (ha1 : inR a1) (a2 : Int) (ha2 : inR a2) {r : Int} {m' : Mm} (h : F_X8_firstAlike a1 a2 m = some (r, m')) : Cn yX8_firstAlike cX8_firstAlike 5 (some .int) (4) 0 0 1 b (true, o) m [.ref (b.1 + 7), iV a1, iV a2] (F_X8_firstAlike a1 a2 m) := by
  refine Cn_of rfl (Nat.le_of_ble_eq_true rfl) (fun g hC hm => ?_)
  have hF := okR_some h
  generalize hQ : (fun (r : Int) (m' : Mm) => F_X8_firstAlike a1 a2 m = some (r, m')) = Q at hF ⊢
  clear hQ h
  replace hC : Cok g b RX8 cX8_firstAlike 5 4 (some .int) := hC
  refine x_lv (lv' := [(0, .ref (b.1 + 7)), (1, iV a1), (2, iV a2)]) rfl ?_
  unfold F_X8_firstAlike at hF
  refine x_aload_n hC dX8_firstAlike_0 rfl 0 rfl ?_
  refine x_iload_n hC dX8_firstAlike_1 rfl 1 rfl ?_
  refine x_iconst hC dX8_firstAlike_2 rfl ?_
  refine x_callS1 (kc2 := 0) (ks2 := 0) (As := [.ref (b.1 + 7), iV a1, iV 1]) (rest := []) hC dX8_firstAlike_3 rfl hm (fun _ _ h => T_X8_firstShifted b _ m a1 ha1 1 (rgc 1 rfl) h) mlX8_35 vsX8_firstShifted rfl rfl (Nat.le_of_ble_eq_true rfl) (by decide) (by decide) rfl rfl hF (fun r1 m2 hr1 hm2 hF => ?_)
  refine x_istore_n (lv' := [(0, .ref (b.1 + 7)), (1, iV a1), (2, iV a2)]) hC dX8_firstAlike_6 rfl rfl (by decide) rfl hr1 hF (fun x3 hx3 hF => ?_)
  refine x_aload_n hC dX8_firstAlike_7 rfl 1 rfl ?_
  refine x_iload_n hC dX8_firstAlike_8 rfl 2 rfl ?_
  refine x_iconst hC dX8_firstAlike_9 rfl ?_
  refine x_callS1 (kc2 := 0) (ks2 := 0) (As := [.ref (b.1 + 7), iV a1, iV (-1)]) (rest := []) hC dX8_firstAlike_10 rfl hm2 (fun _ _ h => T_X8_firstShifted b _ m2 a1 ha1 (-1) (rgc (-1) rfl) h) mlX8_35 vsX8_firstShifted rfl rfl (Nat.le_of_ble_eq_true rfl) (by decide) (by decide) rfl rfl hF (fun r4 m5 hr4 hm5 hF => ?_)
  refine x_istore (lv' := [(3, iV x3), (0, .ref (b.1 + 7)), (1, iV a1), (2, iV a2)]) hC dX8_firstAlike_13 rfl (by decide) rfl hr4 hF (fun x6 hx6 hF => ?_)
  refine x_iload_n hC dX8_firstAlike_15 rfl 1 rfl ?_
  refine x_if_eq (tgt := 24) hC dX8_firstAlike_16 rfl rfl hx3 hF (fun hq7 hF => ?_) (fun hq7 hF => ?_)
  · refine x_bipush hC dX8_firstAlike_24 rfl rfl ?_
    exact x_ireturn hC dX8_firstAlike_26 hm5 (rgc (-3) rfl) hF
  · refine x_iload hC dX8_firstAlike_19 rfl 0 rfl ?_
    refine x_if_ne (tgt := 27) hC dX8_firstAlike_21 rfl rfl hx6 hF (fun hq8 hF => ?_) (fun hq8 hF => ?_)
    · refine x_iload_n hC dX8_firstAlike_27 rfl 4 rfl ?_
      refine x_tab1 (v := 0) (off := 28) (tgt := 56) hC dX8_firstAlike_28 (by decide) rfl ha2 hF (fun hq9 hF => ?_) (fun hq9 hF => ?_)
      · refine x_iload_n hC dX8_firstAlike_56 rfl 1 rfl ?_
        exact x_ireturn hC dX8_firstAlike_57 hm5 hx3 hF
      refine x_tab1 (v := 1) (off := 30) (tgt := 58) hC dX8_firstAlike_28 (by decide) rfl ha2 hF (fun hq10 hF => ?_) (fun hq10 hF => ?_)
      · refine x_iload hC dX8_firstAlike_58 rfl 0 rfl ?_
        exact x_ireturn hC dX8_firstAlike_60 hm5 hx6 hF
      refine x_tab1 (v := 2) (off := 33) (tgt := 61) hC dX8_firstAlike_28 (by decide) rfl ha2 hF (fun hq11 hF => ?_) (fun hq11 hF => ?_)
      · refine x_aload_n hC dX8_firstAlike_61 rfl 2 rfl ?_
        refine x_iload_n hC dX8_firstAlike_62 rfl 3 rfl ?_
        refine x_iload_n hC dX8_firstAlike_63 rfl 1 rfl ?_
        refine x_iconst hC dX8_firstAlike_64 rfl ?_
        refine x_callS1 (kc2 := 0) (ks2 := 0) (As := [.ref (b.1 + 7), iV a1, iV x3, iV 1]) (rest := []) hC dX8_firstAlike_65 rfl hm5 (fun _ _ h => T_X8_shifted b _ m5 a1 ha1 x3 hx3 1 (rgc 1 rfl) h) mlX8_29 vsX8_shifted rfl rfl (Nat.le_of_ble_eq_true rfl) (by decide) (by decide) rfl rfl hF (fun r12 m13 hr12 hm13 hF => ?_)
        exact x_ireturn hC dX8_firstAlike_68 hm13 hr12 hF
      refine x_tabD (tgt := 69) [0, 1, 2] hC dX8_firstAlike_28 rfl ha2 rfl (List.forall_mem_cons.mpr ⟨hq9, (List.forall_mem_cons.mpr ⟨hq10, (List.forall_mem_cons.mpr ⟨hq11, (fun _ h => absurd h List.not_mem_nil)⟩)⟩)⟩) ?_
      refine x_aload_n hC dX8_firstAlike_69 rfl 2 rfl ?_
      refine x_iload_n hC dX8_firstAlike_70 rfl 3 rfl ?_
      refine x_iload hC dX8_firstAlike_71 rfl 0 rfl ?_
      refine x_iconst hC dX8_firstAlike_73 rfl ?_
      refine x_callS1 (kc2 := 0) (ks2 := 0) (As := [.ref (b.1 + 7), iV a1, iV x6, iV (-1)]) (rest := []) hC dX8_firstAlike_74 rfl hm5 (fun _ _ h => T_X8_shifted b _ m5 a1 ha1 x6 hx6 (-1) (rgc (-1) rfl) h) mlX8_29 vsX8_shifted rfl rfl (Nat.le_of_ble_eq_true rfl) (by decide) (by decide) rfl rfl hF (fun r14 m15 hr14 hm15 hF => ?_)
      exact x_ireturn hC dX8_firstAlike_77 hm15 hr14 hF
    · refine x_bipush hC dX8_firstAlike_24 rfl rfl ?_
      exact x_ireturn hC dX8_firstAlike_26 hm5 (rgc (-3) rfl) hF

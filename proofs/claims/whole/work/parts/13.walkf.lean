set_option maxRecDepth 20000 in
set_option maxHeartbeats 4000000 in
theorem WL_X12_comes_110 {g : Gx} {b : Bs} {o : Mm} {Q : Int → Mm → Prop} (hC : Cok g b RX12 cX12_comes 7 3 none) : ∀ n : Nat, ∀ v3 : Int, inR v3 → ∀ v4 : Int, inR v4 → ∀ v5 : Int, inR v5 → ∀ v6 : Int, inR v6 → ∀ m : Mm, Rg m → okR (L_X12_comes_110 n v3 v4 v5 v6 m) Q → X g b (false, o) 7 (ZM g b (false, o) 0 Q) 110 [(0, .ref (b.1 + 54)), (3, iV v3), (4, iV v4), (5, iV v5), (6, iV v6)] [] m 0 0 := by
  intro n
  induction n with
  | zero => intro v3 hv3 v4 hv4 v5 hv5 v6 hv6 m hm hF; exact absurd hF (fun z => z)
  | succ n ih =>
    intro v3 hv3 v4 hv4 v5 hv5 v6 hv6 m hm hF
    have hF : okR (LB_X12_comes_110 (L_X12_comes_110 n) v3 v4 v5 v6 m) Q := hF
    unfold LB_X12_comes_110 at hF
    refine x_iload hC dX12_comes_110 rfl 4 rfl ?_
    refine x_iload hC dX12_comes_112 rfl 3 rfl ?_
    refine x_icmp_le (tgt := 155) hC dX12_comes_114 rfl rfl hv6 hv5 hF (fun hq1 hF => ?_) (fun hq1 hF => ?_)
    · refine x_aload_n hC dX12_comes_155 rfl 0 rfl ?_
      refine x_getR (t := 78) hC dX12_comes_156 rfl flX12_91 rfl (by decide) rfl rfl ?_
      refine x_iload hC dX12_comes_159 rfl 3 rfl ?_
      refine x_iload hC dX12_comes_161 rfl 2 rfl ?_
      refine x_iast hC dX12_comes_163 rfl rfl (by decide) rfl hm hv5 hv4 hF (fun m2 hm2 hF => ?_)
      refine x_aload_n hC dX12_comes_164 rfl 0 rfl ?_
      refine x_getR (t := 79) hC dX12_comes_165 rfl flX12_94 rfl (by decide) rfl rfl ?_
      refine x_iload hC dX12_comes_168 rfl 3 rfl ?_
      refine x_iload_n hC dX12_comes_170 rfl 1 rfl ?_
      refine x_iast hC dX12_comes_171 rfl rfl (by decide) rfl hm2 hv5 hv3 hF (fun m3 hm3 hF => ?_)
      refine x_aload_n hC dX12_comes_172 rfl 0 rfl ?_
      refine x_dup hC dX12_comes_173 rfl rfl ?_
      refine x_getI hC dX12_comes_174 rfl flX12_343 rfl (by decide) rfl rfl ?_
      refine x_iconst hC dX12_comes_177 rfl ?_
      refine x_iadd hC dX12_comes_178 rfl ?_
      refine x_putI hC dX12_comes_179 rfl fpX12_343 rfl (by decide) (by decide) rfl rfl hm3 (rg_wr _) rfl hF (fun m4 hm4 hF => ?_)
      exact x_return hC dX12_comes_182 hm4 hF
    · refine x_aload_n hC dX12_comes_117 rfl 0 rfl ?_
      refine x_getR (t := 78) hC dX12_comes_118 rfl flX12_91 rfl (by decide) rfl rfl ?_
      refine x_iload hC dX12_comes_121 rfl 4 rfl ?_
      refine x_aload_n hC dX12_comes_123 rfl 0 rfl ?_
      refine x_getR (t := 78) hC dX12_comes_124 rfl flX12_91 rfl (by decide) rfl rfl ?_
      refine x_iload hC dX12_comes_127 rfl 4 rfl ?_
      refine x_iconst hC dX12_comes_129 rfl ?_
      refine x_isub hC dX12_comes_130 rfl ?_
      refine x_iald hC dX12_comes_131 rfl rfl (by decide) rfl hm (rg_wr _) hF (fun x5 hx5 hF => ?_)
      refine x_iast hC dX12_comes_132 rfl rfl (by decide) rfl hm hv6 hx5 hF (fun m6 hm6 hF => ?_)
      refine x_aload_n hC dX12_comes_133 rfl 0 rfl ?_
      refine x_getR (t := 79) hC dX12_comes_134 rfl flX12_94 rfl (by decide) rfl rfl ?_
      refine x_iload hC dX12_comes_137 rfl 4 rfl ?_
      refine x_aload_n hC dX12_comes_139 rfl 0 rfl ?_
      refine x_getR (t := 79) hC dX12_comes_140 rfl flX12_94 rfl (by decide) rfl rfl ?_
      refine x_iload hC dX12_comes_143 rfl 4 rfl ?_
      refine x_iconst hC dX12_comes_145 rfl ?_
      refine x_isub hC dX12_comes_146 rfl ?_
      refine x_iald hC dX12_comes_147 rfl rfl (by decide) rfl hm6 (rg_wr _) hF (fun x7 hx7 hF => ?_)
      refine x_iast hC dX12_comes_148 rfl rfl (by decide) rfl hm6 hv6 hx7 hF (fun m8 hm8 hF => ?_)
      refine x_iinc (p := 4) (lv' := [(0, .ref (b.1 + 54)), (3, iV v3), (4, iV v4), (5, iV v5)]) hC dX12_comes_149 rfl rfl (by decide) rfl hF (fun x9 hx9 hF => ?_)
      refine x_goto (tgt := 110) hC dX12_comes_152 rfl ?_
      refine x_sub [1, 2, 3, 4, 0] rfl ?_
      exact ih v3 hv3 v4 hv4 v5 hv5 x9 hx9 m8 hm8 hF
set_option maxRecDepth 20000 in
set_option maxHeartbeats 4000000 in
theorem WJ_X12_comes_104 {g : Gx} {b : Bs} {o : Mm} {Q : Int → Mm → Prop} (hC : Cok g b RX12 cX12_comes 7 3 none) (v3 : Int) (hv3 : inR v3) (v4 : Int) (hv4 : inR v4) (v5 : Int) (hv5 : inR v5) (m : Mm) (hm : Rg m) (hF : okR (J_X12_comes_104 v3 v4 v5 m) Q) : X g b (false, o) 7 (ZM g b (false, o) 0 Q) 104 [(0, .ref (b.1 + 54)), (3, iV v3), (4, iV v4), (5, iV v5)] [] m 0 0 := by
  unfold J_X12_comes_104 at hF
  refine x_aload_n hC dX12_comes_104 rfl 0 rfl ?_
  refine x_getI hC dX12_comes_105 rfl flX12_343 rfl (by decide) rfl rfl ?_
  refine x_istore (lv' := [(0, .ref (b.1 + 54)), (3, iV v3), (4, iV v4), (5, iV v5)]) hC dX12_comes_108 rfl (by decide) rfl (hm.i 54 48 rfl) hF (fun x1 hx1 hF => ?_)
  refine x_sub [1, 2, 3, 4, 0] rfl ?_
  exact WL_X12_comes_110 hC 100000  v3 hv3 v4 hv4 v5 hv5 x1 hx1 m hm hF
set_option maxRecDepth 20000 in
set_option maxHeartbeats 4000000 in
theorem WJ_X12_comes_57 {g : Gx} {b : Bs} {o : Mm} {Q : Int → Mm → Prop} (hC : Cok g b RX12 cX12_comes 7 3 none) (v1 : Int) (hv1 : inR v1) (v3 : Int) (hv3 : inR v3) (v4 : Int) (hv4 : inR v4) (v5 : Int) (hv5 : inR v5) (m : Mm) (hm : Rg m) (hF : okR (J_X12_comes_57 v1 v3 v4 v5 m) Q) : X g b (false, o) 7 (ZM g b (false, o) 0 Q) 57 [(0, .ref (b.1 + 54)), (1, iV v1), (3, iV v3), (4, iV v4), (5, iV v5)] [] m 0 0 := by
  unfold J_X12_comes_57 at hF
  refine x_iload hC dX12_comes_57 rfl 4 rfl ?_
  refine x_aload_n hC dX12_comes_59 rfl 0 rfl ?_
  refine x_getI hC dX12_comes_60 rfl flX12_343 rfl (by decide) rfl rfl ?_
  refine x_icmp_ge (tgt := 104) hC dX12_comes_63 rfl rfl hv5 (hm.i 54 48 rfl) hF (fun hq1 hF => ?_) (fun hq1 hF => ?_)
  · refine x_sub [0, 2, 3, 4] rfl ?_
    exact WJ_X12_comes_104 hC  v3 hv3 v4 hv4 v5 hv5 m hm hF
  · refine x_aload_n hC dX12_comes_66 rfl 0 rfl ?_
    refine x_getR (t := 78) hC dX12_comes_67 rfl flX12_91 rfl (by decide) rfl rfl ?_
    refine x_iload hC dX12_comes_70 rfl 4 rfl ?_
    refine x_iald hC dX12_comes_72 rfl rfl (by decide) rfl hm hv5 hF (fun x2 hx2 hF => ?_)
    refine x_iload hC dX12_comes_73 rfl 3 rfl ?_
    refine x_icmp_ne (tgt := 104) hC dX12_comes_75 rfl rfl hx2 hv4 hF (fun hq3 hF => ?_) (fun hq3 hF => ?_)
    · refine x_sub [0, 2, 3, 4] rfl ?_
      exact WJ_X12_comes_104 hC  v3 hv3 v4 hv4 v5 hv5 m hm hF
    · refine x_aload_n hC dX12_comes_78 rfl 0 rfl ?_
      refine x_iload_n hC dX12_comes_79 rfl 1 rfl ?_
      refine x_iload_n hC dX12_comes_80 rfl 2 rfl ?_
      refine x_aload_n hC dX12_comes_81 rfl 0 rfl ?_
      refine x_getR (t := 79) hC dX12_comes_82 rfl flX12_94 rfl (by decide) rfl rfl ?_
      refine x_iload hC dX12_comes_85 rfl 4 rfl ?_
      refine x_iald hC dX12_comes_87 rfl rfl (by decide) rfl hm hv5 hF (fun x4 hx4 hF => ?_)
      refine x_callV3 (kc2 := 0) (ks2 := 0) (k := 54) (As := [iV v1, iV v3, iV x4]) (rest := []) hC dX12_comes_88 rfl hm (fun _ _ h => T_X12_isBefore b _ m v1 hv1 v3 hv3 x4 hx4 h) mlX12_346 vlX12_isBefore rfl (by decide) rfl rfl (Nat.le_of_ble_eq_true rfl) (by decide) (by decide) rfl rfl hF (fun r5 m6 hr5 hm6 hF => ?_)
      refine x_if_ne (tgt := 95) hC dX12_comes_91 rfl rfl (rg_01 hr5) hF (fun hq7 hF => ?_) (fun hq7 hF => ?_)
      · refine x_aload_n hC dX12_comes_95 rfl 0 rfl ?_
        refine x_getR (t := 79) hC dX12_comes_96 rfl flX12_94 rfl (by decide) rfl rfl ?_
        refine x_iload hC dX12_comes_99 rfl 4 rfl ?_
        refine x_iload_n hC dX12_comes_101 rfl 2 rfl ?_
        refine x_iast hC dX12_comes_102 rfl rfl (by decide) rfl hm6 hv5 hv3 hF (fun m8 hm8 hF => ?_)
        exact x_return hC dX12_comes_103 hm8 hF
      · exact x_return hC dX12_comes_94 hm6 hF
set_option maxRecDepth 20000 in
set_option maxHeartbeats 4000000 in
theorem WL_X12_comes_30 {g : Gx} {b : Bs} {o : Mm} {Q : Int → Mm → Prop} (hC : Cok g b RX12 cX12_comes 7 3 none) : ∀ n : Nat, ∀ v1 : Int, inR v1 → ∀ v3 : Int, inR v3 → ∀ v4 : Int, inR v4 → ∀ v5 : Int, inR v5 → ∀ m : Mm, Rg m → okR (L_X12_comes_30 n v1 v3 v4 v5 m) Q → X g b (false, o) 7 (ZM g b (false, o) 0 Q) 30 [(0, .ref (b.1 + 54)), (1, iV v1), (3, iV v3), (4, iV v4), (5, iV v5)] [] m 0 0 := by
  intro n
  induction n with
  | zero => intro v1 hv1 v3 hv3 v4 hv4 v5 hv5 m hm hF; exact absurd hF (fun z => z)
  | succ n ih =>
    intro v1 hv1 v3 hv3 v4 hv4 v5 hv5 m hm hF
    have hF : okR (LB_X12_comes_30 (L_X12_comes_30 n) v1 v3 v4 v5 m) Q := hF
    unfold LB_X12_comes_30 at hF
    refine x_iload hC dX12_comes_30 rfl 4 rfl ?_
    refine x_aload_n hC dX12_comes_32 rfl 0 rfl ?_
    refine x_getI hC dX12_comes_33 rfl flX12_343 rfl (by decide) rfl rfl ?_
    refine x_icmp_ge (tgt := 57) hC dX12_comes_36 rfl rfl hv5 (hm.i 54 48 rfl) hF (fun hq1 hF => ?_) (fun hq1 hF => ?_)
    · exact WJ_X12_comes_57 hC  v1 hv1 v3 hv3 v4 hv4 v5 hv5 m hm hF
    · refine x_aload_n hC dX12_comes_39 rfl 0 rfl ?_
      refine x_getR (t := 78) hC dX12_comes_40 rfl flX12_91 rfl (by decide) rfl rfl ?_
      refine x_iload hC dX12_comes_43 rfl 4 rfl ?_
      refine x_iald hC dX12_comes_45 rfl rfl (by decide) rfl hm hv5 hF (fun x2 hx2 hF => ?_)
      refine x_iload hC dX12_comes_46 rfl 3 rfl ?_
      refine x_icmp_ge (tgt := 57) hC dX12_comes_48 rfl rfl hx2 hv4 hF (fun hq3 hF => ?_) (fun hq3 hF => ?_)
      · exact WJ_X12_comes_57 hC  v1 hv1 v3 hv3 v4 hv4 v5 hv5 m hm hF
      · refine x_iinc (p := 4) (lv' := [(0, .ref (b.1 + 54)), (1, iV v1), (3, iV v3), (4, iV v4)]) hC dX12_comes_51 rfl rfl (by decide) rfl hF (fun x4 hx4 hF => ?_)
        refine x_goto (tgt := 30) hC dX12_comes_54 rfl ?_
        refine x_sub [1, 2, 3, 4, 0] rfl ?_
        exact ih v1 hv1 v3 hv3 v4 hv4 x4 hx4 m hm hF
set_option maxRecDepth 20000 in
set_option maxHeartbeats 4000000 in
theorem T_X12_comes (b : Bs) (o : Mm) (m : Mm) (a1 : Int) (ha1 : inR a1) (a2 : Int) (ha2 : inR a2) {r : Int} {m' : Mm} (h : F_X12_comes a1 a2 m = some (r, m')) : Cn yX12_comes cX12_comes 7 none (3) 0 0 0 b (false, o) m [.ref (b.1 + 54), iV a1, iV a2] (F_X12_comes a1 a2 m) := by
  refine Cn_of rfl (Nat.le_of_ble_eq_true rfl) (fun g hC hm => ?_)
  have hF := okR_some h
  generalize hQ : (fun (r : Int) (m' : Mm) => F_X12_comes a1 a2 m = some (r, m')) = Q at hF ⊢
  clear hQ h
  replace hC : Cok g b RX12 cX12_comes 7 3 none := hC
  refine x_lv (lv' := [(0, .ref (b.1 + 54)), (1, iV a1), (2, iV a2)]) rfl ?_
  unfold F_X12_comes at hF
  refine x_aload_n hC dX12_comes_0 rfl 0 rfl ?_
  refine x_getR (t := 61) hC dX12_comes_1 rfl flX12_39 rfl (by decide) rfl rfl ?_
  refine x_iload_n hC dX12_comes_4 rfl 2 rfl ?_
  refine x_iald hC dX12_comes_5 rfl rfl (by decide) rfl hm ha2 hF (fun x1 hx1 hF => ?_)
  refine x_istore_n (lv' := [(0, .ref (b.1 + 54)), (1, iV a1), (2, iV a2)]) hC dX12_comes_6 rfl rfl (by decide) rfl hx1 hF (fun x2 hx2 hF => ?_)
  refine x_aload_n hC dX12_comes_7 rfl 1 rfl ?_
  refine x_getR (t := 62) hC dX12_comes_8 rfl flX12_42 rfl (by decide) rfl rfl ?_
  refine x_iload_n hC dX12_comes_11 rfl 3 rfl ?_
  refine x_iald hC dX12_comes_12 rfl rfl (by decide) rfl hm ha2 hF (fun x3 hx3 hF => ?_)
  refine x_aload_n hC dX12_comes_13 rfl 1 rfl ?_
  refine x_iload_n hC dX12_comes_14 rfl 2 rfl ?_
  refine x_iload_n hC dX12_comes_15 rfl 0 rfl ?_
  refine x_callV1 (kc2 := 0) (ks2 := 0) (k := 54) (As := [iV a1, iV x2]) (rest := [iV x3]) hC dX12_comes_16 rfl hm (fun _ _ h => T_X12_wayOf b _ m a1 ha1 x2 hx2 h) mlX12_340 vlX12_wayOf rfl (by decide) rfl rfl (Nat.le_of_ble_eq_true rfl) (by decide) (by decide) rfl rfl hF (fun r4 m5 hr4 hm5 hF => ?_)
  refine x_aload_n hC dX12_comes_19 rfl 1 rfl ?_
  refine x_getI hC dX12_comes_20 rfl flX12_17 rfl (by decide) rfl rfl ?_
  refine x_idiv hC dX12_comes_23 rfl hr4 (hm5.i 54 4 rfl) hF (fun hz6 hF => ?_)
  refine x_iadd hC dX12_comes_24 rfl ?_
  refine x_istore (lv' := [(3, iV x2), (0, .ref (b.1 + 54)), (1, iV a1), (2, iV a2)]) hC dX12_comes_25 rfl (by decide) rfl (rg_wr _) hF (fun x7 hx7 hF => ?_)
  refine x_iconst hC dX12_comes_27 rfl ?_
  refine x_istoreZ (lv' := [(4, iV x7), (3, iV x2), (0, .ref (b.1 + 54)), (1, iV a1), (2, iV a2)]) hC dX12_comes_28 rfl (by decide) rfl (Or.inl rfl) hF (fun x8 hx8 hF => ?_)
  refine x_sub [3, 4, 2, 1, 0] rfl ?_
  exact WL_X12_comes_30 hC 100000  a1 ha1 x2 hx2 x7 hx7 x8 (rg_01 hx8) m5 hm5 hF
set_option maxRecDepth 20000 in
set_option maxHeartbeats 4000000 in
theorem WJ_X12_laysHearings_35 {g : Gx} {b : Bs} {o : Mm} {Q : Int → Mm → Prop} {k_7 : Int → Int → Mm → Rs} (hC : Cok g b RX12 cX12_laysHearings 3 4 none) (hk_7 : ∀ v1 : Int, inR v1 → ∀ v2 : Int, inR v2 → ∀ m : Mm, Rg m → okR (k_7 v1 v2 m) Q → X g b (false, o) 3 (ZM g b (false, o) 0 Q) 7 [(0, .ref (b.1 + 54)), (1, iV v1), (2, iV v2)] [] m 0 0) (v1 : Int) (hv1 : inR v1) (v2 : Int) (hv2 : inR v2) (m : Mm) (hm : Rg m) (hF : okR (J_X12_laysHearings_35 k_7 v1 v2 m) Q) : X g b (false, o) 3 (ZM g b (false, o) 0 Q) 35 [(0, .ref (b.1 + 54)), (1, iV v1), (2, iV v2)] [] m 0 0 := by
  unfold J_X12_laysHearings_35 at hF
  refine x_iinc (p := 2) (lv' := [(0, .ref (b.1 + 54)), (1, iV v1)]) hC dX12_laysHearings_35 rfl rfl (by decide) rfl hF (fun x1 hx1 hF => ?_)
  refine x_goto (tgt := 7) hC dX12_laysHearings_38 rfl ?_
  refine x_sub [1, 2, 0] rfl ?_
  exact hk_7 v1 hv1 x1 hx1 m hm hF
set_option maxRecDepth 20000 in
set_option maxHeartbeats 4000000 in
theorem WL_X12_laysHearings_7 {g : Gx} {b : Bs} {o : Mm} {Q : Int → Mm → Prop} (hC : Cok g b RX12 cX12_laysHearings 3 4 none) : ∀ n : Nat, ∀ v1 : Int, inR v1 → ∀ v2 : Int, inR v2 → ∀ m : Mm, Rg m → okR (L_X12_laysHearings_7 n v1 v2 m) Q → X g b (false, o) 3 (ZM g b (false, o) 0 Q) 7 [(0, .ref (b.1 + 54)), (1, iV v1), (2, iV v2)] [] m 0 0 := by
  intro n
  induction n with
  | zero => intro v1 hv1 v2 hv2 m hm hF; exact absurd hF (fun z => z)
  | succ n ih =>
    intro v1 hv1 v2 hv2 m hm hF
    have hF : okR (LB_X12_laysHearings_7 (L_X12_laysHearings_7 n) v1 v2 m) Q := hF
    unfold LB_X12_laysHearings_7 at hF
    refine x_iload_n hC dX12_laysHearings_7 rfl 2 rfl ?_
    refine x_aload_n hC dX12_laysHearings_8 rfl 0 rfl ?_
    refine x_getI hC dX12_laysHearings_9 rfl flX12_332 rfl (by decide) rfl rfl ?_
    refine x_icmp_ge (tgt := 41) hC dX12_laysHearings_12 rfl rfl hv2 (hm.i 54 5 rfl) hF (fun hq1 hF => ?_) (fun hq1 hF => ?_)
    · exact x_return hC dX12_laysHearings_41 hm hF
    · refine x_aload_n hC dX12_laysHearings_15 rfl 0 rfl ?_
      refine x_iload_n hC dX12_laysHearings_16 rfl 1 rfl ?_
      refine x_aload_n hC dX12_laysHearings_17 rfl 0 rfl ?_
      refine x_getR (t := 61) hC dX12_laysHearings_18 rfl flX12_39 rfl (by decide) rfl rfl ?_
      refine x_iload_n hC dX12_laysHearings_21 rfl 2 rfl ?_
      refine x_iald hC dX12_laysHearings_22 rfl rfl (by decide) rfl hm hv2 hF (fun x2 hx2 hF => ?_)
      refine x_callV3 (kc2 := 0) (ks2 := 0) (k := 54) (As := [iV v1, iV x2]) (rest := []) hC dX12_laysHearings_23 rfl hm (fun _ _ h => T_X12_isNear b _ m v1 hv1 x2 hx2 h) mlX12_350 vlX12_isNear rfl (by decide) rfl rfl (Nat.le_of_ble_eq_true rfl) (by decide) (by decide) rfl rfl hF (fun r3 m4 hr3 hm4 hF => ?_)
      refine x_if_eq (tgt := 35) hC dX12_laysHearings_26 rfl rfl (rg_01 hr3) hF (fun hq5 hF => ?_) (fun hq5 hF => ?_)
      · exact WJ_X12_laysHearings_35 hC ih  v1 hv1 v2 hv2 m4 hm4 hF
      · refine x_aload_n hC dX12_laysHearings_29 rfl 0 rfl ?_
        refine x_iload_n hC dX12_laysHearings_30 rfl 1 rfl ?_
        refine x_iload_n hC dX12_laysHearings_31 rfl 2 rfl ?_
        refine x_callV0 (kc2 := 0) (ks2 := 0) (k := 54) (As := [iV v1, iV v2]) (rest := []) hC dX12_laysHearings_32 rfl hm4 (fun _ _ h => T_X12_comes b _ m4 v1 hv1 v2 hv2 h) mlX12_354 vlX12_comes rfl (by decide) rfl rfl (Nat.le_of_ble_eq_true rfl) (by decide) (by decide) rfl rfl hF (fun r6 m7 hr6 hm7 hF => ?_)
        exact WJ_X12_laysHearings_35 hC ih  v1 hv1 v2 hv2 m7 hm7 hF
set_option maxRecDepth 20000 in
set_option maxHeartbeats 4000000 in
theorem T_X12_laysHearings (b : Bs) (o : Mm) (m : Mm) (a1 : Int) (ha1 : inR a1) {r : Int} {m' : Mm} (h : F_X12_laysHearings a1 m = some (r, m')) : Cn yX12_laysHearings cX12_laysHearings 3 none (4) 0 0 0 b (false, o) m [.ref (b.1 + 54), iV a1] (F_X12_laysHearings a1 m) := by
  refine Cn_of rfl (Nat.le_of_ble_eq_true rfl) (fun g hC hm => ?_)
  have hF := okR_some h
  generalize hQ : (fun (r : Int) (m' : Mm) => F_X12_laysHearings a1 m = some (r, m')) = Q at hF ⊢
  clear hQ h
  replace hC : Cok g b RX12 cX12_laysHearings 3 4 none := hC
  refine x_lv (lv' := [(0, .ref (b.1 + 54)), (1, iV a1)]) rfl ?_
  unfold F_X12_laysHearings at hF
  refine x_aload_n hC dX12_laysHearings_0 rfl 0 rfl ?_
  refine x_iconst hC dX12_laysHearings_1 rfl ?_
  refine x_putI hC dX12_laysHearings_2 rfl fpX12_343 rfl (by decide) (by decide) rfl rfl hm (rgc 0 rfl) rfl hF (fun m1 hm1 hF => ?_)
  refine x_iconst hC dX12_laysHearings_5 rfl ?_
  refine x_istore_nZ (lv' := [(0, .ref (b.1 + 54)), (1, iV a1)]) hC dX12_laysHearings_6 rfl rfl (by decide) rfl (Or.inl rfl) hF (fun x2 hx2 hF => ?_)
  refine x_sub [1, 2, 0] rfl ?_
  exact WL_X12_laysHearings_7 hC 100000  a1 ha1 x2 (rg_01 hx2) m1 hm1 hF
set_option maxRecDepth 20000 in
set_option maxHeartbeats 4000000 in
theorem T_X12_gapAt (b : Bs) (o : Mm) (m : Mm) (a1 : Int) (ha1 : inR a1) {r : Int} {m' : Mm} (h : F_X12_gapAt a1 m = some (r, m')) : Cn yX12_gapAt cX12_gapAt 3 (some .int) (0) 0 0 1 b (false, o) m [.ref (b.1 + 54), iV a1] (F_X12_gapAt a1 m) := by
  refine Cn_of rfl (Nat.le_of_ble_eq_true rfl) (fun g hC hm => ?_)
  have hF := okR_some h
  generalize hQ : (fun (r : Int) (m' : Mm) => F_X12_gapAt a1 m = some (r, m')) = Q at hF ⊢
  clear hQ h
  replace hC : Cok g b RX12 cX12_gapAt 3 0 (some .int) := hC
  refine x_lv (lv' := [(0, .ref (b.1 + 54)), (1, iV a1)]) rfl ?_
  unfold F_X12_gapAt at hF
  refine x_iload_n hC dX12_gapAt_0 rfl 1 rfl ?_
  refine x_if_ne (tgt := 7) hC dX12_gapAt_1 rfl rfl ha1 hF (fun hq1 hF => ?_) (fun hq1 hF => ?_)
  · refine x_aload_n hC dX12_gapAt_7 rfl 0 rfl ?_
    refine x_getR (t := 78) hC dX12_gapAt_8 rfl flX12_91 rfl (by decide) rfl rfl ?_
    refine x_iload_n hC dX12_gapAt_11 rfl 1 rfl ?_
    refine x_iald hC dX12_gapAt_12 rfl rfl (by decide) rfl hm ha1 hF (fun x2 hx2 hF => ?_)
    refine x_aload_n hC dX12_gapAt_13 rfl 0 rfl ?_
    refine x_getR (t := 78) hC dX12_gapAt_14 rfl flX12_91 rfl (by decide) rfl rfl ?_
    refine x_iload_n hC dX12_gapAt_17 rfl 1 rfl ?_
    refine x_iconst hC dX12_gapAt_18 rfl ?_
    refine x_isub hC dX12_gapAt_19 rfl ?_
    refine x_iald hC dX12_gapAt_20 rfl rfl (by decide) rfl hm (rg_wr _) hF (fun x3 hx3 hF => ?_)
    refine x_isub hC dX12_gapAt_21 rfl ?_
    refine x_istore_n (lv' := [(0, .ref (b.1 + 54)), (1, iV a1)]) hC dX12_gapAt_22 rfl rfl (by decide) rfl (rg_wr _) hF (fun x4 hx4 hF => ?_)
    refine x_iload_n hC dX12_gapAt_23 rfl 0 rfl ?_
    refine x_bipush hC dX12_gapAt_24 rfl rfl ?_
    refine x_icmp_le (tgt := 34) hC dX12_gapAt_26 rfl rfl hx4 (rgc 63 rfl) hF (fun hq5 hF => ?_) (fun hq5 hF => ?_)
    · refine x_iload_n hC dX12_gapAt_34 rfl 0 rfl ?_
      exact x_ireturn hC dX12_gapAt_35 hm hx4 hF
    · refine x_bipush hC dX12_gapAt_29 rfl rfl ?_
      refine x_goto (tgt := 35) hC dX12_gapAt_31 rfl ?_
      exact x_ireturn hC dX12_gapAt_35 hm (rgc 63 rfl) hF
  · refine x_bipush hC dX12_gapAt_4 rfl rfl ?_
    exact x_ireturn hC dX12_gapAt_6 hm (rgc 63 rfl) hF
set_option maxRecDepth 20000 in
set_option maxHeartbeats 4000000 in
theorem T_X12_meaningAt (b : Bs) (o : Mm) (m : Mm) (a1 : Int) (ha1 : inR a1) (a2 : Int) (ha2 : inR a2) {r : Int} {m' : Mm} (h : F_X12_meaningAt a1 a2 m = some (r, m')) : Cn yX12_meaningAt cX12_meaningAt 3 (some .int) (5) 0 0 1 b (false, o) m [.ref (b.1 + 54), iV a1, iV a2] (F_X12_meaningAt a1 a2 m) := by
  refine Cn_of rfl (Nat.le_of_ble_eq_true rfl) (fun g hC hm => ?_)
  have hF := okR_some h
  generalize hQ : (fun (r : Int) (m' : Mm) => F_X12_meaningAt a1 a2 m = some (r, m')) = Q at hF ⊢
  clear hQ h
  replace hC : Cok g b RX12 cX12_meaningAt 3 5 (some .int) := hC
  refine x_lv (lv' := [(0, .ref (b.1 + 54)), (1, iV a1), (2, iV a2)]) rfl ?_
  unfold F_X12_meaningAt at hF
  refine x_aload_n hC dX12_meaningAt_0 rfl 0 rfl ?_
  refine x_iload_n hC dX12_meaningAt_1 rfl 1 rfl ?_
  refine x_aload_n hC dX12_meaningAt_2 rfl 0 rfl ?_
  refine x_iload_n hC dX12_meaningAt_3 rfl 2 rfl ?_
  refine x_callV1 (kc2 := 0) (ks2 := 0) (k := 54) (As := [iV a2]) (rest := [iV a1, .ref (b.1 + 54)]) hC dX12_meaningAt_4 rfl hm (fun _ _ h => T_X12_gapAt b _ m a2 ha2 h) mlX12_357 vlX12_gapAt rfl (by decide) rfl rfl (Nat.le_of_ble_eq_true rfl) (by decide) (by decide) rfl rfl hF (fun r1 m2 hr1 hm2 hF => ?_)
  refine x_aload_n hC dX12_meaningAt_7 rfl 0 rfl ?_
  refine x_getR (t := 79) hC dX12_meaningAt_8 rfl flX12_94 rfl (by decide) rfl rfl ?_
  refine x_iload_n hC dX12_meaningAt_11 rfl 2 rfl ?_
  refine x_iald hC dX12_meaningAt_12 rfl rfl (by decide) rfl hm2 ha2 hF (fun x3 hx3 hF => ?_)
  refine x_iload_n hC dX12_meaningAt_13 rfl 2 rfl ?_
  refine x_if_ne (tgt := 22) hC dX12_meaningAt_14 rfl rfl ha2 hF (fun hq4 hF => ?_) (fun hq4 hF => ?_)
  · refine x_aload_n hC dX12_meaningAt_22 rfl 0 rfl ?_
    refine x_getR (t := 79) hC dX12_meaningAt_23 rfl flX12_94 rfl (by decide) rfl rfl ?_
    refine x_iload_n hC dX12_meaningAt_26 rfl 2 rfl ?_
    refine x_iconst hC dX12_meaningAt_27 rfl ?_
    refine x_isub hC dX12_meaningAt_28 rfl ?_
    refine x_iald hC dX12_meaningAt_29 rfl rfl (by decide) rfl hm2 (rg_wr _) hF (fun x5 hx5 hF => ?_)
    refine x_iload_n hC dX12_meaningAt_30 rfl 2 rfl ?_
    refine x_if_ne (tgt := 39) hC dX12_meaningAt_31 rfl rfl ha2 hF (fun hq6 hF => ?_) (fun hq6 hF => ?_)
    · refine x_aload_n hC dX12_meaningAt_39 rfl 0 rfl ?_
      refine x_iload_n hC dX12_meaningAt_40 rfl 2 rfl ?_
      refine x_iconst hC dX12_meaningAt_41 rfl ?_
      refine x_isub hC dX12_meaningAt_42 rfl ?_
      refine x_callV1 (kc2 := 0) (ks2 := 0) (k := 54) (As := [iV (wr (a2 - 1))]) (rest := [iV x5, iV x3, iV r1, iV a1, .ref (b.1 + 54)]) hC dX12_meaningAt_43 rfl hm2 (fun _ _ h => T_X12_gapAt b _ m2 (wr (a2 - 1)) (rg_wr _) h) mlX12_357 vlX12_gapAt rfl (by decide) rfl rfl (Nat.le_of_ble_eq_true rfl) (by decide) (by decide) rfl rfl hF (fun r7 m8 hr7 hm8 hF => ?_)
      refine x_aload_n hC dX12_meaningAt_46 rfl 0 rfl ?_
      refine x_iload_n hC dX12_meaningAt_47 rfl 1 rfl ?_
      refine x_aload_n hC dX12_meaningAt_48 rfl 0 rfl ?_
      refine x_getR (t := 79) hC dX12_meaningAt_49 rfl flX12_94 rfl (by decide) rfl rfl ?_
      refine x_iload_n hC dX12_meaningAt_52 rfl 2 rfl ?_
      refine x_iald hC dX12_meaningAt_53 rfl rfl (by decide) rfl hm8 ha2 hF (fun x9 hx9 hF => ?_)
      refine x_callV1 (kc2 := 0) (ks2 := 0) (k := 54) (As := [iV a1, iV x9]) (rest := [iV r7, iV x5, iV x3, iV r1, iV a1, .ref (b.1 + 54)]) hC dX12_meaningAt_54 rfl hm8 (fun _ _ h => T_X12_wayOf b _ m8 a1 ha1 x9 hx9 h) mlX12_340 vlX12_wayOf rfl (by decide) rfl rfl (Nat.le_of_ble_eq_true rfl) (by decide) (by decide) rfl rfl hF (fun r10 m11 hr10 hm11 hF => ?_)
      refine x_callV1 (kc2 := 0) (ks2 := 0) (k := 54) (As := [iV a1, iV r1, iV x3, iV x5, iV r7, iV r10]) (rest := []) hC dX12_meaningAt_57 rfl hm11 (fun _ _ h => T_X12_means b _ m11 a1 ha1 r1 hr1 x3 hx3 x5 hx5 r7 hr7 r10 hr10 h) mlX12_360 vlX12_means rfl (by decide) rfl rfl (Nat.le_of_ble_eq_true rfl) (by decide) (by decide) rfl rfl hF (fun r12 m13 hr12 hm13 hF => ?_)
      exact x_ireturn hC dX12_meaningAt_60 hm13 hr12 hF
    · refine x_bipush hC dX12_meaningAt_34 rfl rfl ?_
      refine x_goto (tgt := 46) hC dX12_meaningAt_36 rfl ?_
      refine x_aload_n hC dX12_meaningAt_46 rfl 0 rfl ?_
      refine x_iload_n hC dX12_meaningAt_47 rfl 1 rfl ?_
      refine x_aload_n hC dX12_meaningAt_48 rfl 0 rfl ?_
      refine x_getR (t := 79) hC dX12_meaningAt_49 rfl flX12_94 rfl (by decide) rfl rfl ?_
      refine x_iload_n hC dX12_meaningAt_52 rfl 2 rfl ?_
      refine x_iald hC dX12_meaningAt_53 rfl rfl (by decide) rfl hm2 ha2 hF (fun x14 hx14 hF => ?_)
      refine x_callV1 (kc2 := 0) (ks2 := 0) (k := 54) (As := [iV a1, iV x14]) (rest := [iV 63, iV x5, iV x3, iV r1, iV a1, .ref (b.1 + 54)]) hC dX12_meaningAt_54 rfl hm2 (fun _ _ h => T_X12_wayOf b _ m2 a1 ha1 x14 hx14 h) mlX12_340 vlX12_wayOf rfl (by decide) rfl rfl (Nat.le_of_ble_eq_true rfl) (by decide) (by decide) rfl rfl hF (fun r15 m16 hr15 hm16 hF => ?_)
      refine x_callV1 (kc2 := 0) (ks2 := 0) (k := 54) (As := [iV a1, iV r1, iV x3, iV x5, iV 63, iV r15]) (rest := []) hC dX12_meaningAt_57 rfl hm16 (fun _ _ h => T_X12_means b _ m16 a1 ha1 r1 hr1 x3 hx3 x5 hx5 63 (rgc 63 rfl) r15 hr15 h) mlX12_360 vlX12_means rfl (by decide) rfl rfl (Nat.le_of_ble_eq_true rfl) (by decide) (by decide) rfl rfl hF (fun r17 m18 hr17 hm18 hF => ?_)
      exact x_ireturn hC dX12_meaningAt_60 hm18 hr17 hF
  · refine x_bipush hC dX12_meaningAt_17 rfl rfl ?_
    refine x_goto (tgt := 30) hC dX12_meaningAt_19 rfl ?_
    refine x_iload_n hC dX12_meaningAt_30 rfl 2 rfl ?_
    refine x_if_ne (tgt := 39) hC dX12_meaningAt_31 rfl rfl ha2 hF (fun hq19 hF => ?_) (fun hq19 hF => ?_)
    · refine x_aload_n hC dX12_meaningAt_39 rfl 0 rfl ?_
      refine x_iload_n hC dX12_meaningAt_40 rfl 2 rfl ?_
      refine x_iconst hC dX12_meaningAt_41 rfl ?_
      refine x_isub hC dX12_meaningAt_42 rfl ?_
      refine x_callV1 (kc2 := 0) (ks2 := 0) (k := 54) (As := [iV (wr (a2 - 1))]) (rest := [iV 8, iV x3, iV r1, iV a1, .ref (b.1 + 54)]) hC dX12_meaningAt_43 rfl hm2 (fun _ _ h => T_X12_gapAt b _ m2 (wr (a2 - 1)) (rg_wr _) h) mlX12_357 vlX12_gapAt rfl (by decide) rfl rfl (Nat.le_of_ble_eq_true rfl) (by decide) (by decide) rfl rfl hF (fun r20 m21 hr20 hm21 hF => ?_)
      refine x_aload_n hC dX12_meaningAt_46 rfl 0 rfl ?_
      refine x_iload_n hC dX12_meaningAt_47 rfl 1 rfl ?_
      refine x_aload_n hC dX12_meaningAt_48 rfl 0 rfl ?_
      refine x_getR (t := 79) hC dX12_meaningAt_49 rfl flX12_94 rfl (by decide) rfl rfl ?_
      refine x_iload_n hC dX12_meaningAt_52 rfl 2 rfl ?_
      refine x_iald hC dX12_meaningAt_53 rfl rfl (by decide) rfl hm21 ha2 hF (fun x22 hx22 hF => ?_)
      refine x_callV1 (kc2 := 0) (ks2 := 0) (k := 54) (As := [iV a1, iV x22]) (rest := [iV r20, iV 8, iV x3, iV r1, iV a1, .ref (b.1 + 54)]) hC dX12_meaningAt_54 rfl hm21 (fun _ _ h => T_X12_wayOf b _ m21 a1 ha1 x22 hx22 h) mlX12_340 vlX12_wayOf rfl (by decide) rfl rfl (Nat.le_of_ble_eq_true rfl) (by decide) (by decide) rfl rfl hF (fun r23 m24 hr23 hm24 hF => ?_)
      refine x_callV1 (kc2 := 0) (ks2 := 0) (k := 54) (As := [iV a1, iV r1, iV x3, iV 8, iV r20, iV r23]) (rest := []) hC dX12_meaningAt_57 rfl hm24 (fun _ _ h => T_X12_means b _ m24 a1 ha1 r1 hr1 x3 hx3 8 (rgc 8 rfl) r20 hr20 r23 hr23 h) mlX12_360 vlX12_means rfl (by decide) rfl rfl (Nat.le_of_ble_eq_true rfl) (by decide) (by decide) rfl rfl hF (fun r25 m26 hr25 hm26 hF => ?_)
      exact x_ireturn hC dX12_meaningAt_60 hm26 hr25 hF
    · refine x_bipush hC dX12_meaningAt_34 rfl rfl ?_
      refine x_goto (tgt := 46) hC dX12_meaningAt_36 rfl ?_
      refine x_aload_n hC dX12_meaningAt_46 rfl 0 rfl ?_
      refine x_iload_n hC dX12_meaningAt_47 rfl 1 rfl ?_
      refine x_aload_n hC dX12_meaningAt_48 rfl 0 rfl ?_
      refine x_getR (t := 79) hC dX12_meaningAt_49 rfl flX12_94 rfl (by decide) rfl rfl ?_
      refine x_iload_n hC dX12_meaningAt_52 rfl 2 rfl ?_
      refine x_iald hC dX12_meaningAt_53 rfl rfl (by decide) rfl hm2 ha2 hF (fun x27 hx27 hF => ?_)
      refine x_callV1 (kc2 := 0) (ks2 := 0) (k := 54) (As := [iV a1, iV x27]) (rest := [iV 63, iV 8, iV x3, iV r1, iV a1, .ref (b.1 + 54)]) hC dX12_meaningAt_54 rfl hm2 (fun _ _ h => T_X12_wayOf b _ m2 a1 ha1 x27 hx27 h) mlX12_340 vlX12_wayOf rfl (by decide) rfl rfl (Nat.le_of_ble_eq_true rfl) (by decide) (by decide) rfl rfl hF (fun r28 m29 hr28 hm29 hF => ?_)
      refine x_callV1 (kc2 := 0) (ks2 := 0) (k := 54) (As := [iV a1, iV r1, iV x3, iV 8, iV 63, iV r28]) (rest := []) hC dX12_meaningAt_57 rfl hm29 (fun _ _ h => T_X12_means b _ m29 a1 ha1 r1 hr1 x3 hx3 8 (rgc 8 rfl) 63 (rgc 63 rfl) r28 hr28 h) mlX12_360 vlX12_means rfl (by decide) rfl rfl (Nat.le_of_ble_eq_true rfl) (by decide) (by decide) rfl rfl hF (fun r30 m31 hr30 hm31 hF => ?_)
      exact x_ireturn hC dX12_meaningAt_60 hm31 hr30 hF
set_option maxRecDepth 20000 in
set_option maxHeartbeats 4000000 in
theorem T_X12_heard (b : Bs) (o : Mm) (m : Mm) (a1 : Int) (ha1 : inR a1) {r : Int} {m' : Mm} (h : F_X12_heard a1 m = some (r, m')) : Cn yX12_heard cX12_heard 2 (some .int) (5) 0 0 1 b (false, o) m [.ref (b.1 + 54), iV a1] (F_X12_heard a1 m) := by
  refine Cn_of rfl (Nat.le_of_ble_eq_true rfl) (fun g hC hm => ?_)
  have hF := okR_some h
  generalize hQ : (fun (r : Int) (m' : Mm) => F_X12_heard a1 m = some (r, m')) = Q at hF ⊢
  clear hQ h
  replace hC : Cok g b RX12 cX12_heard 2 5 (some .int) := hC
  refine x_lv (lv' := [(0, .ref (b.1 + 54)), (1, iV a1)]) rfl ?_
  unfold F_X12_heard at hF
  refine x_aload_n hC dX12_heard_0 rfl 0 rfl ?_
  refine x_iload_n hC dX12_heard_1 rfl 1 rfl ?_
  refine x_callV3 (kc2 := 0) (ks2 := 0) (k := 54) (As := [iV a1]) (rest := []) hC dX12_heard_2 rfl hm (fun _ _ h => T_X12_isMouth b _ m a1 ha1 h) mlX12_322 vlX12_isMouth rfl (by decide) rfl rfl (Nat.le_of_ble_eq_true rfl) (by decide) (by decide) rfl rfl hF (fun r1 m2 hr1 hm2 hF => ?_)
  refine x_if_ne (tgt := 10) hC dX12_heard_5 rfl rfl (rg_01 hr1) hF (fun hq3 hF => ?_) (fun hq3 hF => ?_)
  · refine x_aload_n hC dX12_heard_10 rfl 0 rfl ?_
    refine x_iload_n hC dX12_heard_11 rfl 1 rfl ?_
    refine x_callV0 (kc2 := 0) (ks2 := 0) (k := 54) (As := [iV a1]) (rest := []) hC dX12_heard_12 rfl hm2 (fun _ _ h => T_X12_laysHearings b _ m2 a1 ha1 h) mlX12_364 vlX12_laysHearings rfl (by decide) rfl rfl (Nat.le_of_ble_eq_true rfl) (by decide) (by decide) rfl rfl hF (fun r4 m5 hr4 hm5 hF => ?_)
    refine x_aload_n hC dX12_heard_15 rfl 0 rfl ?_
    refine x_getI hC dX12_heard_16 rfl flX12_343 rfl (by decide) rfl rfl ?_
    exact x_ireturn hC dX12_heard_19 hm5 (hm5.i 54 48 rfl) hF
  · refine x_iconst hC dX12_heard_8 rfl ?_
    exact x_ireturn hC dX12_heard_9 hm2 (rgc (-1) rfl) hF
set_option maxRecDepth 20000 in
set_option maxHeartbeats 4000000 in
theorem T_X12_hearing (b : Bs) (o : Mm) (m : Mm) (a1 : Int) (ha1 : inR a1) (a2 : Int) (ha2 : inR a2) (a3 : Int) (ha3 : inR a3) {r : Int} {m' : Mm} (h : F_X12_hearing a1 a2 a3 m = some (r, m')) : Cn yX12_hearing cX12_hearing 4 (some .int) (6) 0 0 1 b (false, o) m [.ref (b.1 + 54), iV a1, iV a2, iV a3] (F_X12_hearing a1 a2 a3 m) := by
  refine Cn_of rfl (Nat.le_of_ble_eq_true rfl) (fun g hC hm => ?_)
  have hF := okR_some h
  generalize hQ : (fun (r : Int) (m' : Mm) => F_X12_hearing a1 a2 a3 m = some (r, m')) = Q at hF ⊢
  clear hQ h
  replace hC : Cok g b RX12 cX12_hearing 4 6 (some .int) := hC
  refine x_lv (lv' := [(0, .ref (b.1 + 54)), (1, iV a1), (2, iV a2), (3, iV a3)]) rfl ?_
  unfold F_X12_hearing at hF
  refine x_aload_n hC dX12_hearing_0 rfl 0 rfl ?_
  refine x_iload_n hC dX12_hearing_1 rfl 1 rfl ?_
  refine x_callV3 (kc2 := 0) (ks2 := 0) (k := 54) (As := [iV a1]) (rest := []) hC dX12_hearing_2 rfl hm (fun _ _ h => T_X12_isMouth b _ m a1 ha1 h) mlX12_322 vlX12_isMouth rfl (by decide) rfl rfl (Nat.le_of_ble_eq_true rfl) (by decide) (by decide) rfl rfl hF (fun r1 m2 hr1 hm2 hF => ?_)
  refine x_if_eq (tgt := 20) hC dX12_hearing_5 rfl rfl (rg_01 hr1) hF (fun hq3 hF => ?_) (fun hq3 hF => ?_)
  · refine x_iconst hC dX12_hearing_20 rfl ?_
    exact x_ireturn hC dX12_hearing_21 hm2 (rgc (-1) rfl) hF
  · refine x_iload_n hC dX12_hearing_8 rfl 3 rfl ?_
    refine x_i2l hC dX12_hearing_9 rfl ha3 ?_
    refine x_lconst (x := 0) hC dX12_hearing_10 rfl rfl ?_
    refine x_ldc2 (x := 3) hC dX12_hearing_11 rfl kwX12_367 ?_
    refine x_callS3 (kc2 := 0) (ks2 := 0) (As := [lV a3, lV 0, lV 3]) (rest := []) hC dX12_hearing_14 rfl hm2 (fun _ _ h => T_X12_lies b _ m2 a3 (rg_RL ha3) 0 (rgcL 0 rfl) 3 (rgcL 3 rfl) h) mlX12_147 vsX12_lies rfl rfl (Nat.le_of_ble_eq_true rfl) (by decide) (by decide) rfl rfl hF (fun r4 m5 hr4 hm5 hF => ?_)
    refine x_if_ne (tgt := 22) hC dX12_hearing_17 rfl rfl (rg_01 hr4) hF (fun hq6 hF => ?_) (fun hq6 hF => ?_)
    · refine x_aload_n hC dX12_hearing_22 rfl 0 rfl ?_
      refine x_iload_n hC dX12_hearing_23 rfl 1 rfl ?_
      refine x_callV0 (kc2 := 0) (ks2 := 0) (k := 54) (As := [iV a1]) (rest := []) hC dX12_hearing_24 rfl hm5 (fun _ _ h => T_X12_laysHearings b _ m5 a1 ha1 h) mlX12_364 vlX12_laysHearings rfl (by decide) rfl rfl (Nat.le_of_ble_eq_true rfl) (by decide) (by decide) rfl rfl hF (fun r7 m8 hr7 hm8 hF => ?_)
      refine x_iload_n hC dX12_hearing_27 rfl 2 rfl ?_
      refine x_i2l hC dX12_hearing_28 rfl ha2 ?_
      refine x_lconst (x := 0) hC dX12_hearing_29 rfl rfl ?_
      refine x_aload_n hC dX12_hearing_30 rfl 0 rfl ?_
      refine x_getI hC dX12_hearing_31 rfl flX12_343 rfl (by decide) rfl rfl ?_
      refine x_iconst hC dX12_hearing_34 rfl ?_
      refine x_isub hC dX12_hearing_35 rfl ?_
      refine x_i2l hC dX12_hearing_36 rfl (rg_wr _) ?_
      refine x_callS3 (kc2 := 0) (ks2 := 0) (As := [lV a2, lV 0, lV (wr ((m8 54 48) - 1))]) (rest := []) hC dX12_hearing_37 rfl hm8 (fun _ _ h => T_X12_lies b _ m8 a2 (rg_RL ha2) 0 (rgcL 0 rfl) (wr ((m8 54 48) - 1)) (rg_RL (rg_wr _)) h) mlX12_147 vsX12_lies rfl rfl (Nat.le_of_ble_eq_true rfl) (by decide) (by decide) rfl rfl hF (fun r9 m10 hr9 hm10 hF => ?_)
      refine x_if_ne (tgt := 45) hC dX12_hearing_40 rfl rfl (rg_01 hr9) hF (fun hq11 hF => ?_) (fun hq11 hF => ?_)
      · refine x_iload_n hC dX12_hearing_45 rfl 3 rfl ?_
        refine x_if_ne (tgt := 58) hC dX12_hearing_46 rfl rfl ha3 hF (fun hq12 hF => ?_) (fun hq12 hF => ?_)
        · refine x_iload_n hC dX12_hearing_58 rfl 3 rfl ?_
          refine x_iconst hC dX12_hearing_59 rfl ?_
          refine x_icmp_ne (tgt := 72) hC dX12_hearing_60 rfl rfl ha3 (rgc 1 rfl) hF (fun hq13 hF => ?_) (fun hq13 hF => ?_)
          · refine x_iload_n hC dX12_hearing_72 rfl 3 rfl ?_
            refine x_iconst hC dX12_hearing_73 rfl ?_
            refine x_icmp_ne (tgt := 85) hC dX12_hearing_74 rfl rfl ha3 (rgc 2 rfl) hF (fun hq14 hF => ?_) (fun hq14 hF => ?_)
            · refine x_aload_n hC dX12_hearing_85 rfl 0 rfl ?_
              refine x_iload_n hC dX12_hearing_86 rfl 1 rfl ?_
              refine x_iload_n hC dX12_hearing_87 rfl 2 rfl ?_
              refine x_callV1 (kc2 := 0) (ks2 := 0) (k := 54) (As := [iV a1, iV a2]) (rest := []) hC dX12_hearing_88 rfl hm10 (fun _ _ h => T_X12_meaningAt b _ m10 a1 ha1 a2 ha2 h) mlX12_369 vlX12_meaningAt rfl (by decide) rfl rfl (Nat.le_of_ble_eq_true rfl) (by decide) (by decide) rfl rfl hF (fun r15 m16 hr15 hm16 hF => ?_)
              exact x_ireturn hC dX12_hearing_91 hm16 hr15 hF
            · refine x_aload_n hC dX12_hearing_77 rfl 0 rfl ?_
              refine x_iload_n hC dX12_hearing_78 rfl 2 rfl ?_
              refine x_callV1 (kc2 := 0) (ks2 := 0) (k := 54) (As := [iV a2]) (rest := []) hC dX12_hearing_79 rfl hm10 (fun _ _ h => T_X12_gapAt b _ m10 a2 ha2 h) mlX12_357 vlX12_gapAt rfl (by decide) rfl rfl (Nat.le_of_ble_eq_true rfl) (by decide) (by decide) rfl rfl hF (fun r17 m18 hr17 hm18 hF => ?_)
              refine x_goto (tgt := 91) hC dX12_hearing_82 rfl ?_
              exact x_ireturn hC dX12_hearing_91 hm18 hr17 hF
          · refine x_aload_n hC dX12_hearing_63 rfl 0 rfl ?_
            refine x_getR (t := 79) hC dX12_hearing_64 rfl flX12_94 rfl (by decide) rfl rfl ?_
            refine x_iload_n hC dX12_hearing_67 rfl 2 rfl ?_
            refine x_iald hC dX12_hearing_68 rfl rfl (by decide) rfl hm10 ha2 hF (fun x19 hx19 hF => ?_)
            refine x_goto (tgt := 91) hC dX12_hearing_69 rfl ?_
            exact x_ireturn hC dX12_hearing_91 hm10 hx19 hF
        · refine x_aload_n hC dX12_hearing_49 rfl 0 rfl ?_
          refine x_getR (t := 78) hC dX12_hearing_50 rfl flX12_91 rfl (by decide) rfl rfl ?_
          refine x_iload_n hC dX12_hearing_53 rfl 2 rfl ?_
          refine x_iald hC dX12_hearing_54 rfl rfl (by decide) rfl hm10 ha2 hF (fun x20 hx20 hF => ?_)
          refine x_goto (tgt := 91) hC dX12_hearing_55 rfl ?_
          exact x_ireturn hC dX12_hearing_91 hm10 hx20 hF
      · refine x_iconst hC dX12_hearing_43 rfl ?_
        exact x_ireturn hC dX12_hearing_44 hm10 (rgc (-1) rfl) hF
    · refine x_iconst hC dX12_hearing_20 rfl ?_
      exact x_ireturn hC dX12_hearing_21 hm5 (rgc (-1) rfl) hF
set_option maxRecDepth 20000 in
set_option maxHeartbeats 4000000 in
theorem T_X12_meaning (b : Bs) (o : Mm) (m : Mm) (a1 : Int) (ha1 : inR a1) (a2 : Int) (ha2 : inR a2) (a3 : Int) (ha3 : inR a3) (a4 : Int) (ha4 : inR a4) (a5 : Int) (ha5 : inR a5) {r : Int} {m' : Mm} (h : F_X12_meaning a1 a2 a3 a4 a5 m = some (r, m')) : Cn yX12_meaning cX12_meaning 6 (some .int) (5) 0 0 1 b (false, o) m [.ref (b.1 + 54), iV a1, iV a2, iV a3, iV a4, iV a5] (F_X12_meaning a1 a2 a3 a4 a5 m) := by
  refine Cn_of rfl (Nat.le_of_ble_eq_true rfl) (fun g hC hm => ?_)
  have hF := okR_some h
  generalize hQ : (fun (r : Int) (m' : Mm) => F_X12_meaning a1 a2 a3 a4 a5 m = some (r, m')) = Q at hF ⊢
  clear hQ h
  replace hC : Cok g b RX12 cX12_meaning 6 5 (some .int) := hC
  refine x_lv (lv' := [(0, .ref (b.1 + 54)), (1, iV a1), (2, iV a2), (3, iV a3), (4, iV a4), (5, iV a5)]) rfl ?_
  unfold F_X12_meaning at hF
  refine x_aload_n hC dX12_meaning_0 rfl 0 rfl ?_
  refine x_iload_n hC dX12_meaning_1 rfl 1 rfl ?_
  refine x_callV3 (kc2 := 0) (ks2 := 0) (k := 54) (As := [iV a1]) (rest := []) hC dX12_meaning_2 rfl hm (fun _ _ h => T_X12_isMouth b _ m a1 ha1 h) mlX12_322 vlX12_isMouth rfl (by decide) rfl rfl (Nat.le_of_ble_eq_true rfl) (by decide) (by decide) rfl rfl hF (fun r1 m2 hr1 hm2 hF => ?_)
  refine x_if_eq (tgt := 54) hC dX12_meaning_5 rfl rfl (rg_01 hr1) hF (fun hq3 hF => ?_) (fun hq3 hF => ?_)
  · refine x_iconst hC dX12_meaning_54 rfl ?_
    exact x_ireturn hC dX12_meaning_55 hm2 (rgc (-1) rfl) hF
  · refine x_iload_n hC dX12_meaning_8 rfl 2 rfl ?_
    refine x_i2l hC dX12_meaning_9 rfl ha2 ?_
    refine x_lconst (x := 1) hC dX12_meaning_10 rfl rfl ?_
    refine x_ldc2 (x := 63) hC dX12_meaning_11 rfl kwX12_372 ?_
    refine x_callS3 (kc2 := 0) (ks2 := 0) (As := [lV a2, lV 1, lV 63]) (rest := []) hC dX12_meaning_14 rfl hm2 (fun _ _ h => T_X12_lies b _ m2 a2 (rg_RL ha2) 1 (rgcL 1 rfl) 63 (rgcL 63 rfl) h) mlX12_147 vsX12_lies rfl rfl (Nat.le_of_ble_eq_true rfl) (by decide) (by decide) rfl rfl hF (fun r4 m5 hr4 hm5 hF => ?_)
    refine x_if_eq (tgt := 54) hC dX12_meaning_17 rfl rfl (rg_01 hr4) hF (fun hq6 hF => ?_) (fun hq6 hF => ?_)
    · refine x_iconst hC dX12_meaning_54 rfl ?_
      exact x_ireturn hC dX12_meaning_55 hm5 (rgc (-1) rfl) hF
    · refine x_aload_n hC dX12_meaning_20 rfl 0 rfl ?_
      refine x_iload_n hC dX12_meaning_21 rfl 3 rfl ?_
      refine x_callV3 (kc2 := 0) (ks2 := 0) (k := 54) (As := [iV a3]) (rest := []) hC dX12_meaning_22 rfl hm5 (fun _ _ h => T_X12_isMouth b _ m5 a3 ha3 h) mlX12_322 vlX12_isMouth rfl (by decide) rfl rfl (Nat.le_of_ble_eq_true rfl) (by decide) (by decide) rfl rfl hF (fun r7 m8 hr7 hm8 hF => ?_)
      refine x_if_eq (tgt := 54) hC dX12_meaning_25 rfl rfl (rg_01 hr7) hF (fun hq9 hF => ?_) (fun hq9 hF => ?_)
      · refine x_iconst hC dX12_meaning_54 rfl ?_
        exact x_ireturn hC dX12_meaning_55 hm8 (rgc (-1) rfl) hF
      · refine x_iload hC dX12_meaning_28 rfl 4 rfl ?_
        refine x_i2l hC dX12_meaning_30 rfl ha4 ?_
        refine x_lconst (x := 0) hC dX12_meaning_31 rfl rfl ?_
        refine x_ldc2 (x := 8) hC dX12_meaning_32 rfl kwX12_374 ?_
        refine x_callS3 (kc2 := 0) (ks2 := 0) (As := [lV a4, lV 0, lV 8]) (rest := []) hC dX12_meaning_35 rfl hm8 (fun _ _ h => T_X12_lies b _ m8 a4 (rg_RL ha4) 0 (rgcL 0 rfl) 8 (rgcL 8 rfl) h) mlX12_147 vsX12_lies rfl rfl (Nat.le_of_ble_eq_true rfl) (by decide) (by decide) rfl rfl hF (fun r10 m11 hr10 hm11 hF => ?_)
        refine x_if_eq (tgt := 54) hC dX12_meaning_38 rfl rfl (rg_01 hr10) hF (fun hq12 hF => ?_) (fun hq12 hF => ?_)
        · refine x_iconst hC dX12_meaning_54 rfl ?_
          exact x_ireturn hC dX12_meaning_55 hm11 (rgc (-1) rfl) hF
        · refine x_iload hC dX12_meaning_41 rfl 5 rfl ?_
          refine x_i2l hC dX12_meaning_43 rfl ha5 ?_
          refine x_lconst (x := 0) hC dX12_meaning_44 rfl rfl ?_
          refine x_ldc2 (x := 63) hC dX12_meaning_45 rfl kwX12_372 ?_
          refine x_callS3 (kc2 := 0) (ks2 := 0) (As := [lV a5, lV 0, lV 63]) (rest := []) hC dX12_meaning_48 rfl hm11 (fun _ _ h => T_X12_lies b _ m11 a5 (rg_RL ha5) 0 (rgcL 0 rfl) 63 (rgcL 63 rfl) h) mlX12_147 vsX12_lies rfl rfl (Nat.le_of_ble_eq_true rfl) (by decide) (by decide) rfl rfl hF (fun r13 m14 hr13 hm14 hF => ?_)
          refine x_if_ne (tgt := 56) hC dX12_meaning_51 rfl rfl (rg_01 hr13) hF (fun hq15 hF => ?_) (fun hq15 hF => ?_)
          · refine x_aload_n hC dX12_meaning_56 rfl 0 rfl ?_
            refine x_iload_n hC dX12_meaning_57 rfl 1 rfl ?_
            refine x_iload_n hC dX12_meaning_58 rfl 2 rfl ?_
            refine x_iload_n hC dX12_meaning_59 rfl 3 rfl ?_
            refine x_iload hC dX12_meaning_60 rfl 4 rfl ?_
            refine x_iload hC dX12_meaning_62 rfl 5 rfl ?_
            refine x_aload_n hC dX12_meaning_64 rfl 0 rfl ?_
            refine x_iload_n hC dX12_meaning_65 rfl 1 rfl ?_
            refine x_iload_n hC dX12_meaning_66 rfl 3 rfl ?_
            refine x_callV1 (kc2 := 0) (ks2 := 0) (k := 54) (As := [iV a1, iV a3]) (rest := [iV a5, iV a4, iV a3, iV a2, iV a1, .ref (b.1 + 54)]) hC dX12_meaning_67 rfl hm14 (fun _ _ h => T_X12_wayOf b _ m14 a1 ha1 a3 ha3 h) mlX12_340 vlX12_wayOf rfl (by decide) rfl rfl (Nat.le_of_ble_eq_true rfl) (by decide) (by decide) rfl rfl hF (fun r16 m17 hr16 hm17 hF => ?_)
            refine x_callV1 (kc2 := 0) (ks2 := 0) (k := 54) (As := [iV a1, iV a2, iV a3, iV a4, iV a5, iV r16]) (rest := []) hC dX12_meaning_70 rfl hm17 (fun _ _ h => T_X12_means b _ m17 a1 ha1 a2 ha2 a3 ha3 a4 ha4 a5 ha5 r16 hr16 h) mlX12_360 vlX12_means rfl (by decide) rfl rfl (Nat.le_of_ble_eq_true rfl) (by decide) (by decide) rfl rfl hF (fun r18 m19 hr18 hm19 hF => ?_)
            exact x_ireturn hC dX12_meaning_73 hm19 hr18 hF
          · refine x_iconst hC dX12_meaning_54 rfl ?_
            exact x_ireturn hC dX12_meaning_55 hm14 (rgc (-1) rfl) hF
set_option maxRecDepth 20000 in
set_option maxHeartbeats 4000000 in
theorem WJ_X12_said_149 {g : Gx} {b : Bs} {o : Mm} {Q : Int → Mm → Prop} {k_60 : Int → Int → Int → Mm → Rs} {k_104 : Int → Int → Int → Int → Int → Mm → Rs} (hC : Cok g b RX12 cX12_said 7 5 (some .int)) (hk_60 : ∀ v1 : Int, inR v1 → ∀ v3 : Int, inR v3 → ∀ v4 : Int, inR v4 → ∀ m : Mm, Rg m → okR (k_60 v1 v3 v4 m) Q → X g b (false, o) 7 (ZM g b (false, o) 1 Q) 60 [(0, .ref (b.1 + 54)), (1, iV v1), (3, iV v3), (4, iV v4)] [] m 0 0) (hk_104 : ∀ v1 : Int, inR v1 → ∀ v3 : Int, inR v3 → ∀ v4 : Int, inR v4 → ∀ v5 : Int, inR v5 → ∀ v6 : Int, inR v6 → ∀ m : Mm, Rg m → okR (k_104 v1 v3 v4 v5 v6 m) Q → X g b (false, o) 7 (ZM g b (false, o) 1 Q) 104 [(0, .ref (b.1 + 54)), (1, iV v1), (3, iV v3), (4, iV v4), (5, iV v5), (6, iV v6)] [] m 0 0) (v1 : Int) (hv1 : inR v1) (v3 : Int) (hv3 : inR v3) (v4 : Int) (hv4 : inR v4) (v5 : Int) (hv5 : inR v5) (v6 : Int) (hv6 : inR v6) (m : Mm) (hm : Rg m) (hF : okR (J_X12_said_149 k_60 k_104 v1 v3 v4 v5 v6 m) Q) : X g b (false, o) 7 (ZM g b (false, o) 1 Q) 149 [(0, .ref (b.1 + 54)), (1, iV v1), (3, iV v3), (4, iV v4), (5, iV v5), (6, iV v6)] [] m 0 0 := by
  unfold J_X12_said_149 at hF
  refine x_iinc (p := 5) (lv' := [(0, .ref (b.1 + 54)), (1, iV v1), (3, iV v3), (4, iV v4), (5, iV v5)]) hC dX12_said_149 rfl rfl (by decide) rfl hF (fun x1 hx1 hF => ?_)
  refine x_goto (tgt := 104) hC dX12_said_152 rfl ?_
  refine x_sub [1, 2, 3, 4, 5, 0] rfl ?_
  exact hk_104 v1 hv1 v3 hv3 v4 hv4 v5 hv5 x1 hx1 m hm hF
set_option maxRecDepth 20000 in
set_option maxHeartbeats 4000000 in
theorem WL_X12_said_104 {g : Gx} {b : Bs} {o : Mm} {Q : Int → Mm → Prop} {k_60 : Int → Int → Int → Mm → Rs} (hC : Cok g b RX12 cX12_said 7 5 (some .int)) (hk_60 : ∀ v1 : Int, inR v1 → ∀ v3 : Int, inR v3 → ∀ v4 : Int, inR v4 → ∀ m : Mm, Rg m → okR (k_60 v1 v3 v4 m) Q → X g b (false, o) 7 (ZM g b (false, o) 1 Q) 60 [(0, .ref (b.1 + 54)), (1, iV v1), (3, iV v3), (4, iV v4)] [] m 0 0) : ∀ n : Nat, ∀ v1 : Int, inR v1 → ∀ v3 : Int, inR v3 → ∀ v4 : Int, inR v4 → ∀ v5 : Int, inR v5 → ∀ v6 : Int, inR v6 → ∀ m : Mm, Rg m → okR (L_X12_said_104 k_60 n v1 v3 v4 v5 v6 m) Q → X g b (false, o) 7 (ZM g b (false, o) 1 Q) 104 [(0, .ref (b.1 + 54)), (1, iV v1), (3, iV v3), (4, iV v4), (5, iV v5), (6, iV v6)] [] m 0 0 := by
  intro n
  induction n with
  | zero => intro v1 hv1 v3 hv3 v4 hv4 v5 hv5 v6 hv6 m hm hF; exact absurd hF (fun z => z)
  | succ n ih =>
    intro v1 hv1 v3 hv3 v4 hv4 v5 hv5 v6 hv6 m hm hF
    have hF : okR (LB_X12_said_104 k_60 (L_X12_said_104 k_60 n) v1 v3 v4 v5 v6 m) Q := hF
    unfold LB_X12_said_104 at hF
    refine x_iload hC dX12_said_104 rfl 5 rfl ?_
    refine x_aload_n hC dX12_said_106 rfl 0 rfl ?_
    refine x_getI hC dX12_said_107 rfl flX12_343 rfl (by decide) rfl rfl ?_
    refine x_icmp_ge (tgt := 155) hC dX12_said_110 rfl rfl hv6 (hm.i 54 48 rfl) hF (fun hq1 hF => ?_) (fun hq1 hF => ?_)
    · refine x_iinc (p := 3) (lv' := [(0, .ref (b.1 + 54)), (1, iV v1), (3, iV v3), (5, iV v5), (6, iV v6)]) hC dX12_said_155 rfl rfl (by decide) rfl hF (fun x2 hx2 hF => ?_)
      refine x_goto (tgt := 60) hC dX12_said_158 rfl ?_
      refine x_sub [1, 2, 3, 0] rfl ?_
      exact hk_60 v1 hv1 v3 hv3 x2 hx2 m hm hF
    · refine x_iload_n hC dX12_said_113 rfl 2 rfl ?_
      refine x_aload_n hC dX12_said_114 rfl 0 rfl ?_
      refine x_getR (t := 79) hC dX12_said_115 rfl flX12_94 rfl (by decide) rfl rfl ?_
      refine x_iload hC dX12_said_118 rfl 5 rfl ?_
      refine x_iald hC dX12_said_120 rfl rfl (by decide) rfl hm hv6 hF (fun x3 hx3 hF => ?_)
      refine x_aload_n hC dX12_said_121 rfl 0 rfl ?_
      refine x_getR (t := 61) hC dX12_said_122 rfl flX12_39 rfl (by decide) rfl rfl ?_
      refine x_iload_n hC dX12_said_125 rfl 1 rfl ?_
      refine x_iald hC dX12_said_126 rfl rfl (by decide) rfl hm hv1 hF (fun x4 hx4 hF => ?_)
      refine x_icmp_ne (tgt := 146) hC dX12_said_127 rfl rfl hx3 hx4 hF (fun hq5 hF => ?_) (fun hq5 hF => ?_)
      · refine x_iconst hC dX12_said_146 rfl ?_
        refine x_iadd hC dX12_said_147 rfl ?_
        refine x_istore_n (lv' := [(0, .ref (b.1 + 54)), (1, iV v1), (4, iV v4), (5, iV v5), (6, iV v6)]) hC dX12_said_148 rfl rfl (by decide) rfl (rg_wr _) hF (fun x6 hx6 hF => ?_)
        refine x_sub [1, 2, 0, 3, 4, 5] rfl ?_
        exact WJ_X12_said_149 hC hk_60 ih  v1 hv1 x6 hx6 v4 hv4 v5 hv5 v6 hv6 m hm hF
      · refine x_aload_n hC dX12_said_130 rfl 0 rfl ?_
        refine x_getR (t := 78) hC dX12_said_131 rfl flX12_91 rfl (by decide) rfl rfl ?_
        refine x_iload hC dX12_said_134 rfl 5 rfl ?_
        refine x_iald hC dX12_said_136 rfl rfl (by decide) rfl hm hv6 hF (fun x7 hx7 hF => ?_)
        refine x_iload hC dX12_said_137 rfl 4 rfl ?_
        refine x_icmp_ne (tgt := 146) hC dX12_said_139 rfl rfl hx7 hv5 hF (fun hq8 hF => ?_) (fun hq8 hF => ?_)
        · refine x_iconst hC dX12_said_146 rfl ?_
          refine x_iadd hC dX12_said_147 rfl ?_
          refine x_istore_n (lv' := [(0, .ref (b.1 + 54)), (1, iV v1), (4, iV v4), (5, iV v5), (6, iV v6)]) hC dX12_said_148 rfl rfl (by decide) rfl (rg_wr _) hF (fun x9 hx9 hF => ?_)
          refine x_sub [1, 2, 0, 3, 4, 5] rfl ?_
          exact WJ_X12_said_149 hC hk_60 ih  v1 hv1 x9 hx9 v4 hv4 v5 hv5 v6 hv6 m hm hF
        · refine x_iconst hC dX12_said_142 rfl ?_
          refine x_goto (tgt := 147) hC dX12_said_143 rfl ?_
          refine x_iadd hC dX12_said_147 rfl ?_
          refine x_istore_n (lv' := [(0, .ref (b.1 + 54)), (1, iV v1), (4, iV v4), (5, iV v5), (6, iV v6)]) hC dX12_said_148 rfl rfl (by decide) rfl (rg_wr _) hF (fun x10 hx10 hF => ?_)
          refine x_sub [1, 2, 0, 3, 4, 5] rfl ?_
          exact WJ_X12_said_149 hC hk_60 ih  v1 hv1 x10 hx10 v4 hv4 v5 hv5 v6 hv6 m hm hF
set_option maxRecDepth 20000 in
set_option maxHeartbeats 4000000 in
theorem WL_X12_said_60 {g : Gx} {b : Bs} {o : Mm} {Q : Int → Mm → Prop} (hC : Cok g b RX12 cX12_said 7 5 (some .int)) : ∀ n : Nat, ∀ v1 : Int, inR v1 → ∀ v3 : Int, inR v3 → ∀ v4 : Int, inR v4 → ∀ m : Mm, Rg m → okR (L_X12_said_60 n v1 v3 v4 m) Q → X g b (false, o) 7 (ZM g b (false, o) 1 Q) 60 [(0, .ref (b.1 + 54)), (1, iV v1), (3, iV v3), (4, iV v4)] [] m 0 0 := by
  intro n
  induction n with
  | zero => intro v1 hv1 v3 hv3 v4 hv4 m hm hF; exact absurd hF (fun z => z)
  | succ n ih =>
    intro v1 hv1 v3 hv3 v4 hv4 m hm hF
    have hF : okR (LB_X12_said_60 (L_X12_said_60 n) v1 v3 v4 m) Q := hF
    unfold LB_X12_said_60 at hF
    refine x_iload hC dX12_said_60 rfl 3 rfl ?_
    refine x_aload_n hC dX12_said_62 rfl 0 rfl ?_
    refine x_getI hC dX12_said_63 rfl flX12_144 rfl (by decide) rfl rfl ?_
    refine x_icmp_ge (tgt := 161) hC dX12_said_66 rfl rfl hv4 (hm.i 54 2 rfl) hF (fun hq1 hF => ?_) (fun hq1 hF => ?_)
    · refine x_iload_n hC dX12_said_161 rfl 2 rfl ?_
      exact x_ireturn hC dX12_said_162 hm hv3 hF
    · refine x_aload_n hC dX12_said_69 rfl 0 rfl ?_
      refine x_iload hC dX12_said_70 rfl 3 rfl ?_
      refine x_callV0 (kc2 := 0) (ks2 := 0) (k := 54) (As := [iV v4]) (rest := []) hC dX12_said_72 rfl hm (fun _ _ h => T_X12_laysHearings b _ m v4 hv4 h) mlX12_364 vlX12_laysHearings rfl (by decide) rfl rfl (Nat.le_of_ble_eq_true rfl) (by decide) (by decide) rfl rfl hF (fun r2 m3 hr2 hm3 hF => ?_)
      refine x_aload_n hC dX12_said_75 rfl 0 rfl ?_
      refine x_getR (t := 62) hC dX12_said_76 rfl flX12_42 rfl (by decide) rfl rfl ?_
      refine x_iload_n hC dX12_said_79 rfl 1 rfl ?_
      refine x_iald hC dX12_said_80 rfl rfl (by decide) rfl hm3 hv1 hF (fun x4 hx4 hF => ?_)
      refine x_aload_n hC dX12_said_81 rfl 0 rfl ?_
      refine x_iload hC dX12_said_82 rfl 3 rfl ?_
      refine x_aload_n hC dX12_said_84 rfl 0 rfl ?_
      refine x_getR (t := 61) hC dX12_said_85 rfl flX12_39 rfl (by decide) rfl rfl ?_
      refine x_iload_n hC dX12_said_88 rfl 1 rfl ?_
      refine x_iald hC dX12_said_89 rfl rfl (by decide) rfl hm3 hv1 hF (fun x5 hx5 hF => ?_)
      refine x_callV1 (kc2 := 0) (ks2 := 0) (k := 54) (As := [iV v4, iV x5]) (rest := [iV x4]) hC dX12_said_90 rfl hm3 (fun _ _ h => T_X12_wayOf b _ m3 v4 hv4 x5 hx5 h) mlX12_340 vlX12_wayOf rfl (by decide) rfl rfl (Nat.le_of_ble_eq_true rfl) (by decide) (by decide) rfl rfl hF (fun r6 m7 hr6 hm7 hF => ?_)
      refine x_aload_n hC dX12_said_93 rfl 0 rfl ?_
      refine x_getI hC dX12_said_94 rfl flX12_17 rfl (by decide) rfl rfl ?_
      refine x_idiv hC dX12_said_97 rfl hr6 (hm7.i 54 4 rfl) hF (fun hz8 hF => ?_)
      refine x_iadd hC dX12_said_98 rfl ?_
      refine x_istore (lv' := [(0, .ref (b.1 + 54)), (1, iV v1), (3, iV v3), (4, iV v4)]) hC dX12_said_99 rfl (by decide) rfl (rg_wr _) hF (fun x9 hx9 hF => ?_)
      refine x_iconst hC dX12_said_101 rfl ?_
      refine x_istoreZ (lv' := [(5, iV x9), (0, .ref (b.1 + 54)), (1, iV v1), (3, iV v3), (4, iV v4)]) hC dX12_said_102 rfl (by decide) rfl (Or.inl rfl) hF (fun x10 hx10 hF => ?_)
      refine x_sub [2, 3, 4, 5, 1, 0] rfl ?_
      exact WL_X12_said_104 hC ih 100000  v1 hv1 v3 hv3 v4 hv4 x9 hx9 x10 (rg_01 hx10) m7 hm7 hF
set_option maxRecDepth 20000 in
set_option maxHeartbeats 4000000 in
theorem T_X12_said (b : Bs) (o : Mm) (m : Mm) (a1 : Int) (ha1 : inR a1) (a2 : Int) (ha2 : inR a2) {r : Int} {m' : Mm} (h : F_X12_said a1 a2 m = some (r, m')) : Cn yX12_said cX12_said 7 (some .int) (5) 0 0 1 b (false, o) m [.ref (b.1 + 54), iV a1, iV a2] (F_X12_said a1 a2 m) := by
  refine Cn_of rfl (Nat.le_of_ble_eq_true rfl) (fun g hC hm => ?_)
  have hF := okR_some h
  generalize hQ : (fun (r : Int) (m' : Mm) => F_X12_said a1 a2 m = some (r, m')) = Q at hF ⊢
  clear hQ h
  replace hC : Cok g b RX12 cX12_said 7 5 (some .int) := hC
  refine x_lv (lv' := [(0, .ref (b.1 + 54)), (1, iV a1), (2, iV a2)]) rfl ?_
  unfold F_X12_said at hF
  refine x_iload_n hC dX12_said_0 rfl 1 rfl ?_
  refine x_i2l hC dX12_said_1 rfl ha1 ?_
  refine x_lconst (x := 0) hC dX12_said_2 rfl rfl ?_
  refine x_aload_n hC dX12_said_3 rfl 0 rfl ?_
  refine x_getI hC dX12_said_4 rfl flX12_332 rfl (by decide) rfl rfl ?_
  refine x_iconst hC dX12_said_7 rfl ?_
  refine x_isub hC dX12_said_8 rfl ?_
  refine x_i2l hC dX12_said_9 rfl (rg_wr _) ?_
  refine x_callS3 (kc2 := 0) (ks2 := 0) (As := [lV a1, lV 0, lV (wr ((m 54 5) - 1))]) (rest := []) hC dX12_said_10 rfl hm (fun _ _ h => T_X12_lies b _ m a1 (rg_RL ha1) 0 (rgcL 0 rfl) (wr ((m 54 5) - 1)) (rg_RL (rg_wr _)) h) mlX12_147 vsX12_lies rfl rfl (Nat.le_of_ble_eq_true rfl) (by decide) (by decide) rfl rfl hF (fun r1 m2 hr1 hm2 hF => ?_)
  refine x_if_eq (tgt := 28) hC dX12_said_13 rfl rfl (rg_01 hr1) hF (fun hq3 hF => ?_) (fun hq3 hF => ?_)
  · refine x_iconst hC dX12_said_28 rfl ?_
    exact x_ireturn hC dX12_said_29 hm2 (rgc (-1) rfl) hF
  · refine x_iload_n hC dX12_said_16 rfl 2 rfl ?_
    refine x_i2l hC dX12_said_17 rfl ha2 ?_
    refine x_lconst (x := 0) hC dX12_said_18 rfl rfl ?_
    refine x_ldc2 (x := 2) hC dX12_said_19 rfl kwX12_376 ?_
    refine x_callS3 (kc2 := 0) (ks2 := 0) (As := [lV a2, lV 0, lV 2]) (rest := []) hC dX12_said_22 rfl hm2 (fun _ _ h => T_X12_lies b _ m2 a2 (rg_RL ha2) 0 (rgcL 0 rfl) 2 (rgcL 2 rfl) h) mlX12_147 vsX12_lies rfl rfl (Nat.le_of_ble_eq_true rfl) (by decide) (by decide) rfl rfl hF (fun r4 m5 hr4 hm5 hF => ?_)
    refine x_if_ne (tgt := 30) hC dX12_said_25 rfl rfl (rg_01 hr4) hF (fun hq6 hF => ?_) (fun hq6 hF => ?_)
    · refine x_iload_n hC dX12_said_30 rfl 2 rfl ?_
      refine x_iconst hC dX12_said_31 rfl ?_
      refine x_icmp_ge (tgt := 55) hC dX12_said_32 rfl rfl ha2 (rgc 2 rfl) hF (fun hq7 hF => ?_) (fun hq7 hF => ?_)
      · refine x_iconst hC dX12_said_55 rfl ?_
        refine x_istore_nZ (lv' := [(0, .ref (b.1 + 54)), (1, iV a1), (2, iV a2)]) hC dX12_said_56 rfl rfl (by decide) rfl (Or.inl rfl) hF (fun x8 hx8 hF => ?_)
        refine x_iconst hC dX12_said_57 rfl ?_
        refine x_istoreZ (lv' := [(3, iV x8), (0, .ref (b.1 + 54)), (1, iV a1), (2, iV a2)]) hC dX12_said_58 rfl (by decide) rfl (Or.inl rfl) hF (fun x9 hx9 hF => ?_)
        refine x_sub [2, 3, 1, 0] rfl ?_
        exact WL_X12_said_60 hC 100000  a1 ha1 x8 (rg_01 hx8) x9 (rg_01 hx9) m5 hm5 hF
      · refine x_iload_n hC dX12_said_35 rfl 2 rfl ?_
        refine x_if_ne (tgt := 48) hC dX12_said_36 rfl rfl ha2 hF (fun hq10 hF => ?_) (fun hq10 hF => ?_)
        · refine x_aload_n hC dX12_said_48 rfl 0 rfl ?_
          refine x_getR (t := 62) hC dX12_said_49 rfl flX12_42 rfl (by decide) rfl rfl ?_
          refine x_iload_n hC dX12_said_52 rfl 1 rfl ?_
          refine x_iald hC dX12_said_53 rfl rfl (by decide) rfl hm5 ha1 hF (fun x11 hx11 hF => ?_)
          exact x_ireturn hC dX12_said_54 hm5 hx11 hF
        · refine x_aload_n hC dX12_said_39 rfl 0 rfl ?_
          refine x_getR (t := 61) hC dX12_said_40 rfl flX12_39 rfl (by decide) rfl rfl ?_
          refine x_iload_n hC dX12_said_43 rfl 1 rfl ?_
          refine x_iald hC dX12_said_44 rfl rfl (by decide) rfl hm5 ha1 hF (fun x12 hx12 hF => ?_)
          refine x_goto (tgt := 54) hC dX12_said_45 rfl ?_
          exact x_ireturn hC dX12_said_54 hm5 hx12 hF
    · refine x_iconst hC dX12_said_28 rfl ?_
      exact x_ireturn hC dX12_said_29 hm5 (rgc (-1) rfl) hF
set_option maxRecDepth 20000 in
set_option maxHeartbeats 4000000 in
theorem WJ_X12_laysLast_32 {g : Gx} {b : Bs} {o : Mm} {Q : Int → Mm → Prop} (hC : Cok g b RX12 cX12_laysLast 2 5 none) (m : Mm) (hm : Rg m) (hF : okR (J_X12_laysLast_32  m) Q) : X g b (false, o) 2 (ZM g b (false, o) 0 Q) 32 [(0, .ref (b.1 + 54))] [] m 0 0 := by
  unfold J_X12_laysLast_32 at hF
  refine x_aload_n hC dX12_laysLast_32 rfl 0 rfl ?_
  refine x_aload_n hC dX12_laysLast_33 rfl 0 rfl ?_
  refine x_getI hC dX12_laysLast_34 rfl flX12_343 rfl (by decide) rfl rfl ?_
  refine x_if_ne (tgt := 45) hC dX12_laysLast_37 rfl rfl (hm.i 54 48 rfl) hF (fun hq1 hF => ?_) (fun hq1 hF => ?_)
  · refine x_aload_n hC dX12_laysLast_45 rfl 0 rfl ?_
    refine x_aload_n hC dX12_laysLast_46 rfl 0 rfl ?_
    refine x_getI hC dX12_laysLast_47 rfl flX12_343 rfl (by decide) rfl rfl ?_
    refine x_iconst hC dX12_laysLast_50 rfl ?_
    refine x_isub hC dX12_laysLast_51 rfl ?_
    refine x_callV1 (kc2 := 0) (ks2 := 0) (k := 54) (As := [iV (wr ((m 54 48) - 1))]) (rest := [.ref (b.1 + 54)]) hC dX12_laysLast_52 rfl hm (fun _ _ h => T_X12_gapAt b _ m (wr ((m 54 48) - 1)) (rg_wr _) h) mlX12_357 vlX12_gapAt rfl (by decide) rfl rfl (Nat.le_of_ble_eq_true rfl) (by decide) (by decide) rfl rfl hF (fun r2 m3 hr2 hm3 hF => ?_)
    refine x_putI hC dX12_laysLast_55 rfl fpX12_381 rfl (by decide) (by decide) rfl rfl hm3 hr2 rfl hF (fun m4 hm4 hF => ?_)
    exact x_return hC dX12_laysLast_58 hm4 hF
  · refine x_bipush hC dX12_laysLast_40 rfl rfl ?_
    refine x_goto (tgt := 55) hC dX12_laysLast_42 rfl ?_
    refine x_putI hC dX12_laysLast_55 rfl fpX12_381 rfl (by decide) (by decide) rfl rfl hm (rgc 63 rfl) rfl hF (fun m5 hm5 hF => ?_)
    exact x_return hC dX12_laysLast_58 hm5 hF
set_option maxRecDepth 20000 in
set_option maxHeartbeats 4000000 in
theorem T_X12_laysLast (b : Bs) (o : Mm) (m : Mm) (a1 : Int) (ha1 : inR a1) {r : Int} {m' : Mm} (h : F_X12_laysLast a1 m = some (r, m')) : Cn yX12_laysLast cX12_laysLast 2 none (5) 0 0 0 b (false, o) m [.ref (b.1 + 54), iV a1] (F_X12_laysLast a1 m) := by
  refine Cn_of rfl (Nat.le_of_ble_eq_true rfl) (fun g hC hm => ?_)
  have hF := okR_some h
  generalize hQ : (fun (r : Int) (m' : Mm) => F_X12_laysLast a1 m = some (r, m')) = Q at hF ⊢
  clear hQ h
  replace hC : Cok g b RX12 cX12_laysLast 2 5 none := hC
  refine x_lv (lv' := [(0, .ref (b.1 + 54)), (1, iV a1)]) rfl ?_
  unfold F_X12_laysLast at hF
  refine x_aload_n hC dX12_laysLast_0 rfl 0 rfl ?_
  refine x_iload_n hC dX12_laysLast_1 rfl 1 rfl ?_
  refine x_callV0 (kc2 := 0) (ks2 := 0) (k := 54) (As := [iV a1]) (rest := []) hC dX12_laysLast_2 rfl hm (fun _ _ h => T_X12_laysHearings b _ m a1 ha1 h) mlX12_364 vlX12_laysHearings rfl (by decide) rfl rfl (Nat.le_of_ble_eq_true rfl) (by decide) (by decide) rfl rfl hF (fun r1 m2 hr1 hm2 hF => ?_)
  refine x_aload_n hC dX12_laysLast_5 rfl 0 rfl ?_
  refine x_aload_n hC dX12_laysLast_6 rfl 0 rfl ?_
  refine x_getI hC dX12_laysLast_7 rfl flX12_343 rfl (by decide) rfl rfl ?_
  refine x_if_ne (tgt := 18) hC dX12_laysLast_10 rfl rfl (hm2.i 54 48 rfl) hF (fun hq3 hF => ?_) (fun hq3 hF => ?_)
  · refine x_aload_n hC dX12_laysLast_18 rfl 0 rfl ?_
    refine x_getR (t := 79) hC dX12_laysLast_19 rfl flX12_94 rfl (by decide) rfl rfl ?_
    refine x_aload_n hC dX12_laysLast_22 rfl 0 rfl ?_
    refine x_getI hC dX12_laysLast_23 rfl flX12_343 rfl (by decide) rfl rfl ?_
    refine x_iconst hC dX12_laysLast_26 rfl ?_
    refine x_isub hC dX12_laysLast_27 rfl ?_
    refine x_iald hC dX12_laysLast_28 rfl rfl (by decide) rfl hm2 (rg_wr _) hF (fun x4 hx4 hF => ?_)
    refine x_putI hC dX12_laysLast_29 rfl fpX12_378 rfl (by decide) (by decide) rfl rfl hm2 hx4 rfl hF (fun m5 hm5 hF => ?_)
    refine x_sub [0] rfl ?_
    exact WJ_X12_laysLast_32 hC   m5 hm5 hF
  · refine x_bipush hC dX12_laysLast_13 rfl rfl ?_
    refine x_goto (tgt := 29) hC dX12_laysLast_15 rfl ?_
    refine x_putI hC dX12_laysLast_29 rfl fpX12_378 rfl (by decide) (by decide) rfl rfl hm2 (rgc 8 rfl) rfl hF (fun m6 hm6 hF => ?_)
    refine x_sub [0] rfl ?_
    exact WJ_X12_laysLast_32 hC   m6 hm6 hF
set_option maxRecDepth 20000 in
set_option maxHeartbeats 4000000 in
theorem T_X12_isAs (b : Bs) (o : Mm) (m : Mm) (a1 : Int) (ha1 : inR a1) (a2 : Int) (ha2 : inR a2) {r : Int} {m' : Mm} (h : F_X12_isAs a1 a2 m = some (r, m')) : Cn yX12_isAs cX12_isAs 3 (some .boolean) (0) 0 0 3 b (false, o) m [.ref (b.1 + 54), iV a1, iV a2] (F_X12_isAs a1 a2 m) := by
  refine Cn_of rfl (Nat.le_of_ble_eq_true rfl) (fun g hC hm => ?_)
  have hF := okR_some h
  generalize hQ : (fun (r : Int) (m' : Mm) => F_X12_isAs a1 a2 m = some (r, m')) = Q at hF ⊢
  clear hQ h
  replace hC : Cok g b RX12 cX12_isAs 3 0 (some .boolean) := hC
  refine x_lv (lv' := [(0, .ref (b.1 + 54)), (1, iV a1), (2, iV a2)]) rfl ?_
  unfold F_X12_isAs at hF
  refine x_iload_n hC dX12_isAs_0 rfl 1 rfl ?_
  refine x_bipush hC dX12_isAs_1 rfl rfl ?_
  refine x_icmp_eq (tgt := 11) hC dX12_isAs_3 rfl rfl ha1 (rgc 32 rfl) hF (fun hq1 hF => ?_) (fun hq1 hF => ?_)
  · refine x_iconst hC dX12_isAs_11 rfl ?_
    refine x_goto (tgt := 16) hC dX12_isAs_12 rfl ?_
    exact x_zreturn hC dX12_isAs_16 hm (Or.inr rfl) hF
  · refine x_iload_n hC dX12_isAs_6 rfl 1 rfl ?_
    refine x_iload_n hC dX12_isAs_7 rfl 2 rfl ?_
    refine x_icmp_ne (tgt := 15) hC dX12_isAs_8 rfl rfl ha1 ha2 hF (fun hq2 hF => ?_) (fun hq2 hF => ?_)
    · refine x_iconst hC dX12_isAs_15 rfl ?_
      exact x_zreturn hC dX12_isAs_16 hm (Or.inl rfl) hF
    · refine x_iconst hC dX12_isAs_11 rfl ?_
      refine x_goto (tgt := 16) hC dX12_isAs_12 rfl ?_
      exact x_zreturn hC dX12_isAs_16 hm (Or.inr rfl) hF
set_option maxRecDepth 20000 in
set_option maxHeartbeats 4000000 in
theorem T_X12_fits (b : Bs) (o : Mm) (m : Mm) (a1 : Int) (ha1 : inR a1) (a2 : Int) (ha2 : inR a2) (a3 : Int) (ha3 : inR a3) (a4 : Int) (ha4 : inR a4) {r : Int} {m' : Mm} (h : F_X12_fits a1 a2 a3 a4 m = some (r, m')) : Cn yX12_fits cX12_fits 5 (some .boolean) (5) 0 0 3 b (false, o) m [.ref (b.1 + 54), iV a1, iV a2, iV a3, iV a4] (F_X12_fits a1 a2 a3 a4 m) := by
  refine Cn_of rfl (Nat.le_of_ble_eq_true rfl) (fun g hC hm => ?_)
  have hF := okR_some h
  generalize hQ : (fun (r : Int) (m' : Mm) => F_X12_fits a1 a2 a3 a4 m = some (r, m')) = Q at hF ⊢
  clear hQ h
  replace hC : Cok g b RX12 cX12_fits 5 5 (some .boolean) := hC
  refine x_lv (lv' := [(0, .ref (b.1 + 54)), (1, iV a1), (2, iV a2), (3, iV a3), (4, iV a4)]) rfl ?_
  unfold F_X12_fits at hF
  refine x_aload_n hC dX12_fits_0 rfl 0 rfl ?_
  refine x_iload_n hC dX12_fits_1 rfl 1 rfl ?_
  refine x_iload_n hC dX12_fits_2 rfl 3 rfl ?_
  refine x_callV3 (kc2 := 0) (ks2 := 0) (k := 54) (As := [iV a1, iV a3]) (rest := []) hC dX12_fits_3 rfl hm (fun _ _ h => T_X12_isNear b _ m a1 ha1 a3 ha3 h) mlX12_350 vlX12_isNear rfl (by decide) rfl rfl (Nat.le_of_ble_eq_true rfl) (by decide) (by decide) rfl rfl hF (fun r1 m2 hr1 hm2 hF => ?_)
  refine x_if_eq (tgt := 65) hC dX12_fits_6 rfl rfl (rg_01 hr1) hF (fun hq3 hF => ?_) (fun hq3 hF => ?_)
  · refine x_iconst hC dX12_fits_65 rfl ?_
    exact x_zreturn hC dX12_fits_66 hm2 (Or.inl rfl) hF
  · refine x_aload_n hC dX12_fits_9 rfl 0 rfl ?_
    refine x_aload_n hC dX12_fits_10 rfl 0 rfl ?_
    refine x_getR (t := 81) hC dX12_fits_11 rfl flX12_100 rfl (by decide) rfl rfl ?_
    refine x_iload_n hC dX12_fits_14 rfl 2 rfl ?_
    refine x_iald hC dX12_fits_15 rfl rfl (by decide) rfl hm2 ha2 hF (fun x4 hx4 hF => ?_)
    refine x_aload_n hC dX12_fits_16 rfl 0 rfl ?_
    refine x_iload_n hC dX12_fits_17 rfl 1 rfl ?_
    refine x_aload_n hC dX12_fits_18 rfl 0 rfl ?_
    refine x_getR (t := 80) hC dX12_fits_19 rfl flX12_97 rfl (by decide) rfl rfl ?_
    refine x_iload_n hC dX12_fits_22 rfl 2 rfl ?_
    refine x_iald hC dX12_fits_23 rfl rfl (by decide) rfl hm2 ha2 hF (fun x5 hx5 hF => ?_)
    refine x_iload_n hC dX12_fits_24 rfl 3 rfl ?_
    refine x_iload hC dX12_fits_25 rfl 4 rfl ?_
    refine x_iload_n hC dX12_fits_27 rfl 2 rfl ?_
    refine x_if_ne (tgt := 38) hC dX12_fits_28 rfl rfl ha2 hF (fun hq6 hF => ?_) (fun hq6 hF => ?_)
    · refine x_aload_n hC dX12_fits_38 rfl 0 rfl ?_
      refine x_getR (t := 80) hC dX12_fits_39 rfl flX12_97 rfl (by decide) rfl rfl ?_
      refine x_iload_n hC dX12_fits_42 rfl 2 rfl ?_
      refine x_iconst hC dX12_fits_43 rfl ?_
      refine x_isub hC dX12_fits_44 rfl ?_
      refine x_iald hC dX12_fits_45 rfl rfl (by decide) rfl hm2 (rg_wr _) hF (fun x7 hx7 hF => ?_)
      refine x_aload_n hC dX12_fits_46 rfl 0 rfl ?_
      refine x_iload_n hC dX12_fits_47 rfl 1 rfl ?_
      refine x_iload_n hC dX12_fits_48 rfl 3 rfl ?_
      refine x_callV1 (kc2 := 0) (ks2 := 0) (k := 54) (As := [iV a1, iV a3]) (rest := [iV x7, iV a4, iV a3, iV x5, iV a1, .ref (b.1 + 54), iV x4, .ref (b.1 + 54)]) hC dX12_fits_49 rfl hm2 (fun _ _ h => T_X12_wayOf b _ m2 a1 ha1 a3 ha3 h) mlX12_340 vlX12_wayOf rfl (by decide) rfl rfl (Nat.le_of_ble_eq_true rfl) (by decide) (by decide) rfl rfl hF (fun r8 m9 hr8 hm9 hF => ?_)
      refine x_callV1 (kc2 := 0) (ks2 := 0) (k := 54) (As := [iV a1, iV x5, iV a3, iV a4, iV x7, iV r8]) (rest := [iV x4, .ref (b.1 + 54)]) hC dX12_fits_52 rfl hm9 (fun _ _ h => T_X12_means b _ m9 a1 ha1 x5 hx5 a3 ha3 a4 ha4 x7 hx7 r8 hr8 h) mlX12_360 vlX12_means rfl (by decide) rfl rfl (Nat.le_of_ble_eq_true rfl) (by decide) (by decide) rfl rfl hF (fun r10 m11 hr10 hm11 hF => ?_)
      refine x_callV3 (kc2 := 0) (ks2 := 0) (k := 54) (As := [iV x4, iV r10]) (rest := []) hC dX12_fits_55 rfl hm11 (fun _ _ h => T_X12_isAs b _ m11 x4 hx4 r10 hr10 h) mlX12_384 vlX12_isAs rfl (by decide) rfl rfl (Nat.le_of_ble_eq_true rfl) (by decide) (by decide) rfl rfl hF (fun r12 m13 hr12 hm13 hF => ?_)
      refine x_if_eq (tgt := 65) hC dX12_fits_58 rfl rfl (rg_01 hr12) hF (fun hq14 hF => ?_) (fun hq14 hF => ?_)
      · refine x_iconst hC dX12_fits_65 rfl ?_
        exact x_zreturn hC dX12_fits_66 hm13 (Or.inl rfl) hF
      · refine x_iconst hC dX12_fits_61 rfl ?_
        refine x_goto (tgt := 66) hC dX12_fits_62 rfl ?_
        exact x_zreturn hC dX12_fits_66 hm13 (Or.inr rfl) hF
    · refine x_aload_n hC dX12_fits_31 rfl 0 rfl ?_
      refine x_getI hC dX12_fits_32 rfl flX12_381 rfl (by decide) rfl rfl ?_
      refine x_goto (tgt := 46) hC dX12_fits_35 rfl ?_
      refine x_aload_n hC dX12_fits_46 rfl 0 rfl ?_
      refine x_iload_n hC dX12_fits_47 rfl 1 rfl ?_
      refine x_iload_n hC dX12_fits_48 rfl 3 rfl ?_
      refine x_callV1 (kc2 := 0) (ks2 := 0) (k := 54) (As := [iV a1, iV a3]) (rest := [iV (m2 54 56), iV a4, iV a3, iV x5, iV a1, .ref (b.1 + 54), iV x4, .ref (b.1 + 54)]) hC dX12_fits_49 rfl hm2 (fun _ _ h => T_X12_wayOf b _ m2 a1 ha1 a3 ha3 h) mlX12_340 vlX12_wayOf rfl (by decide) rfl rfl (Nat.le_of_ble_eq_true rfl) (by decide) (by decide) rfl rfl hF (fun r15 m16 hr15 hm16 hF => ?_)
      refine x_callV1 (kc2 := 0) (ks2 := 0) (k := 54) (As := [iV a1, iV x5, iV a3, iV a4, iV (m2 54 56), iV r15]) (rest := [iV x4, .ref (b.1 + 54)]) hC dX12_fits_52 rfl hm16 (fun _ _ h => T_X12_means b _ m16 a1 ha1 x5 hx5 a3 ha3 a4 ha4 (m2 54 56) (hm2.i 54 56 rfl) r15 hr15 h) mlX12_360 vlX12_means rfl (by decide) rfl rfl (Nat.le_of_ble_eq_true rfl) (by decide) (by decide) rfl rfl hF (fun r17 m18 hr17 hm18 hF => ?_)
      refine x_callV3 (kc2 := 0) (ks2 := 0) (k := 54) (As := [iV x4, iV r17]) (rest := []) hC dX12_fits_55 rfl hm18 (fun _ _ h => T_X12_isAs b _ m18 x4 hx4 r17 hr17 h) mlX12_384 vlX12_isAs rfl (by decide) rfl rfl (Nat.le_of_ble_eq_true rfl) (by decide) (by decide) rfl rfl hF (fun r19 m20 hr19 hm20 hF => ?_)
      refine x_if_eq (tgt := 65) hC dX12_fits_58 rfl rfl (rg_01 hr19) hF (fun hq21 hF => ?_) (fun hq21 hF => ?_)
      · refine x_iconst hC dX12_fits_65 rfl ?_
        exact x_zreturn hC dX12_fits_66 hm20 (Or.inl rfl) hF
      · refine x_iconst hC dX12_fits_61 rfl ?_
        refine x_goto (tgt := 66) hC dX12_fits_62 rfl ?_
        exact x_zreturn hC dX12_fits_66 hm20 (Or.inr rfl) hF
set_option maxRecDepth 20000 in
set_option maxHeartbeats 4000000 in
theorem WJ_X12_read_298 {g : Gx} {b : Bs} {o : Mm} {Q : Int → Mm → Prop} {k_206 : Int → Int → Int → Int → Mm → Rs} {k_215 : Int → Int → Int → Int → Int → Mm → Rs} {k_225 : Int → Int → Int → Int → Int → Int → Mm → Rs} (hC : Cok g b RX12 cX12_read 7 6 (some .long)) (hk_206 : ∀ v1 : Int, inR v1 → ∀ v2 : Int, inR v2 → ∀ v3 : Int, inR v3 → ∀ v4 : Int, inR v4 → ∀ m : Mm, Rg m → okR (k_206 v1 v2 v3 v4 m) Q → X g b (false, o) 7 (ZM g b (false, o) 2 Q) 206 [(0, .ref (b.1 + 54)), (1, iV v1), (2, iV v2), (3, iV v3), (4, iV v4)] [] m 0 0) (hk_215 : ∀ v1 : Int, inR v1 → ∀ v2 : Int, inR v2 → ∀ v3 : Int, inR v3 → ∀ v4 : Int, inR v4 → ∀ v5 : Int, inR v5 → ∀ m : Mm, Rg m → okR (k_215 v1 v2 v3 v4 v5 m) Q → X g b (false, o) 7 (ZM g b (false, o) 2 Q) 215 [(0, .ref (b.1 + 54)), (1, iV v1), (2, iV v2), (3, iV v3), (4, iV v4), (5, iV v5)] [] m 0 0) (hk_225 : ∀ v1 : Int, inR v1 → ∀ v2 : Int, inR v2 → ∀ v3 : Int, inR v3 → ∀ v4 : Int, inR v4 → ∀ v5 : Int, inR v5 → ∀ v6 : Int, inR v6 → ∀ m : Mm, Rg m → okR (k_225 v1 v2 v3 v4 v5 v6 m) Q → X g b (false, o) 7 (ZM g b (false, o) 2 Q) 225 [(0, .ref (b.1 + 54)), (1, iV v1), (2, iV v2), (3, iV v3), (4, iV v4), (5, iV v5), (6, iV v6)] [] m 0 0) (v1 : Int) (hv1 : inR v1) (v2 : Int) (hv2 : inR v2) (v3 : Int) (hv3 : inR v3) (v4 : Int) (hv4 : inR v4) (v5 : Int) (hv5 : inR v5) (v6 : Int) (hv6 : inR v6) (m : Mm) (hm : Rg m) (hF : okR (J_X12_read_298 k_206 k_215 k_225 v1 v2 v3 v4 v5 v6 m) Q) : X g b (false, o) 7 (ZM g b (false, o) 2 Q) 298 [(0, .ref (b.1 + 54)), (1, iV v1), (2, iV v2), (3, iV v3), (4, iV v4), (5, iV v5), (6, iV v6)] [] m 0 0 := by
  unfold J_X12_read_298 at hF
  refine x_iinc (p := 6) (lv' := [(0, .ref (b.1 + 54)), (1, iV v1), (2, iV v2), (3, iV v3), (4, iV v4), (5, iV v5)]) hC dX12_read_298 rfl rfl (by decide) rfl hF (fun x1 hx1 hF => ?_)
  refine x_goto (tgt := 225) hC dX12_read_301 rfl ?_
  refine x_sub [1, 2, 3, 4, 5, 6, 0] rfl ?_
  exact hk_225 v1 hv1 v2 hv2 v3 hv3 v4 hv4 v5 hv5 x1 hx1 m hm hF
set_option maxRecDepth 20000 in
set_option maxHeartbeats 4000000 in
theorem WJ_X12_read_304 {g : Gx} {b : Bs} {o : Mm} {Q : Int → Mm → Prop} {k_206 : Int → Int → Int → Int → Mm → Rs} {k_215 : Int → Int → Int → Int → Int → Mm → Rs} (hC : Cok g b RX12 cX12_read 7 6 (some .long)) (hk_206 : ∀ v1 : Int, inR v1 → ∀ v2 : Int, inR v2 → ∀ v3 : Int, inR v3 → ∀ v4 : Int, inR v4 → ∀ m : Mm, Rg m → okR (k_206 v1 v2 v3 v4 m) Q → X g b (false, o) 7 (ZM g b (false, o) 2 Q) 206 [(0, .ref (b.1 + 54)), (1, iV v1), (2, iV v2), (3, iV v3), (4, iV v4)] [] m 0 0) (hk_215 : ∀ v1 : Int, inR v1 → ∀ v2 : Int, inR v2 → ∀ v3 : Int, inR v3 → ∀ v4 : Int, inR v4 → ∀ v5 : Int, inR v5 → ∀ m : Mm, Rg m → okR (k_215 v1 v2 v3 v4 v5 m) Q → X g b (false, o) 7 (ZM g b (false, o) 2 Q) 215 [(0, .ref (b.1 + 54)), (1, iV v1), (2, iV v2), (3, iV v3), (4, iV v4), (5, iV v5)] [] m 0 0) (v1 : Int) (hv1 : inR v1) (v2 : Int) (hv2 : inR v2) (v3 : Int) (hv3 : inR v3) (v4 : Int) (hv4 : inR v4) (v5 : Int) (hv5 : inR v5) (m : Mm) (hm : Rg m) (hF : okR (J_X12_read_304 k_206 k_215 v1 v2 v3 v4 v5 m) Q) : X g b (false, o) 7 (ZM g b (false, o) 2 Q) 304 [(0, .ref (b.1 + 54)), (1, iV v1), (2, iV v2), (3, iV v3), (4, iV v4), (5, iV v5)] [] m 0 0 := by
  unfold J_X12_read_304 at hF
  refine x_iinc (p := 5) (lv' := [(0, .ref (b.1 + 54)), (1, iV v1), (2, iV v2), (3, iV v3), (4, iV v4)]) hC dX12_read_304 rfl rfl (by decide) rfl hF (fun x1 hx1 hF => ?_)
  refine x_goto (tgt := 215) hC dX12_read_307 rfl ?_
  refine x_sub [1, 2, 3, 4, 5, 0] rfl ?_
  exact hk_215 v1 hv1 v2 hv2 v3 hv3 v4 hv4 x1 hx1 m hm hF
set_option maxRecDepth 20000 in
set_option maxHeartbeats 4000000 in
theorem WL_X12_read_225 {g : Gx} {b : Bs} {o : Mm} {Q : Int → Mm → Prop} {k_206 : Int → Int → Int → Int → Mm → Rs} {k_215 : Int → Int → Int → Int → Int → Mm → Rs} (hC : Cok g b RX12 cX12_read 7 6 (some .long)) (hk_206 : ∀ v1 : Int, inR v1 → ∀ v2 : Int, inR v2 → ∀ v3 : Int, inR v3 → ∀ v4 : Int, inR v4 → ∀ m : Mm, Rg m → okR (k_206 v1 v2 v3 v4 m) Q → X g b (false, o) 7 (ZM g b (false, o) 2 Q) 206 [(0, .ref (b.1 + 54)), (1, iV v1), (2, iV v2), (3, iV v3), (4, iV v4)] [] m 0 0) (hk_215 : ∀ v1 : Int, inR v1 → ∀ v2 : Int, inR v2 → ∀ v3 : Int, inR v3 → ∀ v4 : Int, inR v4 → ∀ v5 : Int, inR v5 → ∀ m : Mm, Rg m → okR (k_215 v1 v2 v3 v4 v5 m) Q → X g b (false, o) 7 (ZM g b (false, o) 2 Q) 215 [(0, .ref (b.1 + 54)), (1, iV v1), (2, iV v2), (3, iV v3), (4, iV v4), (5, iV v5)] [] m 0 0) : ∀ n : Nat, ∀ v1 : Int, inR v1 → ∀ v2 : Int, inR v2 → ∀ v3 : Int, inR v3 → ∀ v4 : Int, inR v4 → ∀ v5 : Int, inR v5 → ∀ v6 : Int, inR v6 → ∀ m : Mm, Rg m → okR (L_X12_read_225 k_206 k_215 n v1 v2 v3 v4 v5 v6 m) Q → X g b (false, o) 7 (ZM g b (false, o) 2 Q) 225 [(0, .ref (b.1 + 54)), (1, iV v1), (2, iV v2), (3, iV v3), (4, iV v4), (5, iV v5), (6, iV v6)] [] m 0 0 := by
  intro n
  induction n with
  | zero => intro v1 hv1 v2 hv2 v3 hv3 v4 hv4 v5 hv5 v6 hv6 m hm hF; exact absurd hF (fun z => z)
  | succ n ih =>
    intro v1 hv1 v2 hv2 v3 hv3 v4 hv4 v5 hv5 v6 hv6 m hm hF
    have hF : okR (LB_X12_read_225 k_206 k_215 (L_X12_read_225 k_206 k_215 n) v1 v2 v3 v4 v5 v6 m) Q := hF
    unfold LB_X12_read_225 at hF
    refine x_iload hC dX12_read_225 rfl 6 rfl ?_
    refine x_aload_n hC dX12_read_227 rfl 0 rfl ?_
    refine x_getI hC dX12_read_228 rfl flX12_144 rfl (by decide) rfl rfl ?_
    refine x_icmp_ge (tgt := 304) hC dX12_read_231 rfl rfl hv6 (hm.i 54 2 rfl) hF (fun hq1 hF => ?_) (fun hq1 hF => ?_)
    · refine x_sub [0, 1, 2, 3, 4, 5] rfl ?_
      exact WJ_X12_read_304 hC hk_206 hk_215  v1 hv1 v2 hv2 v3 hv3 v4 hv4 v5 hv5 m hm hF
    · refine x_aload_n hC dX12_read_234 rfl 0 rfl ?_
      refine x_getR (t := 82) hC dX12_read_235 rfl flX12_103 rfl (by decide) rfl rfl ?_
      refine x_bipush hC dX12_read_238 rfl rfl ?_
      refine x_iload hC dX12_read_240 rfl 4 rfl ?_
      refine x_imul hC dX12_read_242 rfl ?_
      refine x_iload hC dX12_read_243 rfl 5 rfl ?_
      refine x_iadd hC dX12_read_245 rfl ?_
      refine x_lald hC dX12_read_246 rfl rfl (by decide) rfl hm (rg_wr _) hF (fun x2 hx2 hF => ?_)
      refine x_lconst (x := 0) hC dX12_read_247 rfl rfl ?_
      refine x_lcmp hC dX12_read_248 rfl hx2 (rgcL 0 rfl) ?_
      refine x_if_le (tgt := 304) hC dX12_read_249 rfl rfl (rg_lcmp _ _) hF (fun hq3 hF => ?_) (fun hq3 hF => ?_)
      · refine x_sub [0, 1, 2, 3, 4, 5] rfl ?_
        exact WJ_X12_read_304 hC hk_206 hk_215  v1 hv1 v2 hv2 v3 hv3 v4 hv4 v5 hv5 m hm hF
      · refine x_aload_n hC dX12_read_252 rfl 0 rfl ?_
        refine x_iload_n hC dX12_read_253 rfl 1 rfl ?_
        refine x_iload hC dX12_read_254 rfl 4 rfl ?_
        refine x_iload hC dX12_read_256 rfl 6 rfl ?_
        refine x_iload hC dX12_read_258 rfl 5 rfl ?_
        refine x_callV3 (kc2 := 0) (ks2 := 0) (k := 54) (As := [iV v1, iV v4, iV v6, iV v5]) (rest := []) hC dX12_read_260 rfl hm (fun _ _ h => T_X12_fits b _ m v1 hv1 v4 hv4 v6 hv6 v5 hv5 h) mlX12_398 vlX12_fits rfl (by decide) rfl rfl (Nat.le_of_ble_eq_true rfl) (by decide) (by decide) rfl rfl hF (fun r4 m5 hr4 hm5 hF => ?_)
        refine x_if_eq (tgt := 298) hC dX12_read_263 rfl rfl (rg_01 hr4) hF (fun hq6 hF => ?_) (fun hq6 hF => ?_)
        · exact WJ_X12_read_298 hC hk_206 hk_215 ih  v1 hv1 v2 hv2 v3 hv3 v4 hv4 v5 hv5 v6 hv6 m5 hm5 hF
        · refine x_aload_n hC dX12_read_266 rfl 0 rfl ?_
          refine x_getR (t := 82) hC dX12_read_267 rfl flX12_103 rfl (by decide) rfl rfl ?_
          refine x_bipush hC dX12_read_270 rfl rfl ?_
          refine x_iload hC dX12_read_272 rfl 4 rfl ?_
          refine x_imul hC dX12_read_274 rfl ?_
          refine x_bipush hC dX12_read_275 rfl rfl ?_
          refine x_iadd hC dX12_read_277 rfl ?_
          refine x_iload hC dX12_read_278 rfl 6 rfl ?_
          refine x_iadd hC dX12_read_280 rfl ?_
          refine x_dup2 hC dX12_read_281 rfl rfl rfl ?_
          refine x_lald hC dX12_read_282 rfl rfl (by decide) rfl hm5 (rg_wr _) hF (fun x7 hx7 hF => ?_)
          refine x_aload_n hC dX12_read_283 rfl 0 rfl ?_
          refine x_getR (t := 82) hC dX12_read_284 rfl flX12_103 rfl (by decide) rfl rfl ?_
          refine x_bipush hC dX12_read_287 rfl rfl ?_
          refine x_iload hC dX12_read_289 rfl 4 rfl ?_
          refine x_imul hC dX12_read_291 rfl ?_
          refine x_iload hC dX12_read_292 rfl 5 rfl ?_
          refine x_iadd hC dX12_read_294 rfl ?_
          refine x_lald hC dX12_read_295 rfl rfl (by decide) rfl hm5 (rg_wr _) hF (fun x8 hx8 hF => ?_)
          refine x_ladd hC dX12_read_296 rfl ?_
          refine x_last hC dX12_read_297 rfl rfl (by decide) rfl hm5 (rg_wr _) (rg_wl _) hF (fun m9 hm9 hF => ?_)
          exact WJ_X12_read_298 hC hk_206 hk_215 ih  v1 hv1 v2 hv2 v3 hv3 v4 hv4 v5 hv5 v6 hv6 m9 hm9 hF
set_option maxRecDepth 20000 in
set_option maxHeartbeats 4000000 in
theorem WL_X12_read_215 {g : Gx} {b : Bs} {o : Mm} {Q : Int → Mm → Prop} {k_206 : Int → Int → Int → Int → Mm → Rs} (hC : Cok g b RX12 cX12_read 7 6 (some .long)) (hk_206 : ∀ v1 : Int, inR v1 → ∀ v2 : Int, inR v2 → ∀ v3 : Int, inR v3 → ∀ v4 : Int, inR v4 → ∀ m : Mm, Rg m → okR (k_206 v1 v2 v3 v4 m) Q → X g b (false, o) 7 (ZM g b (false, o) 2 Q) 206 [(0, .ref (b.1 + 54)), (1, iV v1), (2, iV v2), (3, iV v3), (4, iV v4)] [] m 0 0) : ∀ n : Nat, ∀ v1 : Int, inR v1 → ∀ v2 : Int, inR v2 → ∀ v3 : Int, inR v3 → ∀ v4 : Int, inR v4 → ∀ v5 : Int, inR v5 → ∀ m : Mm, Rg m → okR (L_X12_read_215 k_206 n v1 v2 v3 v4 v5 m) Q → X g b (false, o) 7 (ZM g b (false, o) 2 Q) 215 [(0, .ref (b.1 + 54)), (1, iV v1), (2, iV v2), (3, iV v3), (4, iV v4), (5, iV v5)] [] m 0 0 := by
  intro n
  induction n with
  | zero => intro v1 hv1 v2 hv2 v3 hv3 v4 hv4 v5 hv5 m hm hF; exact absurd hF (fun z => z)
  | succ n ih =>
    intro v1 hv1 v2 hv2 v3 hv3 v4 hv4 v5 hv5 m hm hF
    have hF : okR (LB_X12_read_215 k_206 (L_X12_read_215 k_206 n) v1 v2 v3 v4 v5 m) Q := hF
    unfold LB_X12_read_215 at hF
    refine x_iload hC dX12_read_215 rfl 5 rfl ?_
    refine x_bipush hC dX12_read_217 rfl rfl ?_
    refine x_icmp_gt (tgt := 310) hC dX12_read_219 rfl rfl hv5 (rgc 8 rfl) hF (fun hq1 hF => ?_) (fun hq1 hF => ?_)
    · refine x_iinc (p := 4) (lv' := [(0, .ref (b.1 + 54)), (1, iV v1), (2, iV v2), (3, iV v3), (5, iV v5)]) hC dX12_read_310 rfl rfl (by decide) rfl hF (fun x2 hx2 hF => ?_)
      refine x_goto (tgt := 206) hC dX12_read_313 rfl ?_
      refine x_sub [1, 2, 3, 4, 0] rfl ?_
      exact hk_206 v1 hv1 v2 hv2 v3 hv3 x2 hx2 m hm hF
    · refine x_iconst hC dX12_read_222 rfl ?_
      refine x_istoreZ (lv' := [(0, .ref (b.1 + 54)), (1, iV v1), (2, iV v2), (3, iV v3), (4, iV v4), (5, iV v5)]) hC dX12_read_223 rfl (by decide) rfl (Or.inl rfl) hF (fun x3 hx3 hF => ?_)
      refine x_sub [1, 2, 3, 4, 5, 6, 0] rfl ?_
      exact WL_X12_read_225 hC hk_206 ih 100000  v1 hv1 v2 hv2 v3 hv3 v4 hv4 v5 hv5 x3 (rg_01 hx3) m hm hF
set_option maxRecDepth 20000 in
set_option maxHeartbeats 4000000 in
theorem WJ_X12_read_423 {g : Gx} {b : Bs} {o : Mm} {Q : Int → Mm → Prop} {k_350 : Int → Int → Int → Mm → Rs} {k_358 : Int → Int → Int → Int → Mm → Rs} {k_368 : Int → Int → Int → Int → Int → Mm → Rs} (hC : Cok g b RX12 cX12_read 7 6 (some .long)) (hk_350 : ∀ v1 : Int, inR v1 → ∀ v3 : Int, inR v3 → ∀ v4 : Int, inR v4 → ∀ m : Mm, Rg m → okR (k_350 v1 v3 v4 m) Q → X g b (false, o) 7 (ZM g b (false, o) 2 Q) 350 [(0, .ref (b.1 + 54)), (1, iV v1), (3, iV v3), (4, iV v4)] [] m 0 0) (hk_358 : ∀ v1 : Int, inR v1 → ∀ v3 : Int, inR v3 → ∀ v4 : Int, inR v4 → ∀ v5 : Int, inR v5 → ∀ m : Mm, Rg m → okR (k_358 v1 v3 v4 v5 m) Q → X g b (false, o) 7 (ZM g b (false, o) 2 Q) 358 [(0, .ref (b.1 + 54)), (1, iV v1), (3, iV v3), (4, iV v4), (5, iV v5)] [] m 0 0) (hk_368 : ∀ v1 : Int, inR v1 → ∀ v3 : Int, inR v3 → ∀ v4 : Int, inR v4 → ∀ v5 : Int, inR v5 → ∀ v6 : Int, inR v6 → ∀ m : Mm, Rg m → okR (k_368 v1 v3 v4 v5 v6 m) Q → X g b (false, o) 7 (ZM g b (false, o) 2 Q) 368 [(0, .ref (b.1 + 54)), (1, iV v1), (3, iV v3), (4, iV v4), (5, iV v5), (6, iV v6)] [] m 0 0) (v1 : Int) (hv1 : inR v1) (v3 : Int) (hv3 : inR v3) (v4 : Int) (hv4 : inR v4) (v5 : Int) (hv5 : inR v5) (v6 : Int) (hv6 : inR v6) (m : Mm) (hm : Rg m) (hF : okR (J_X12_read_423 k_350 k_358 k_368 v1 v3 v4 v5 v6 m) Q) : X g b (false, o) 7 (ZM g b (false, o) 2 Q) 423 [(0, .ref (b.1 + 54)), (1, iV v1), (3, iV v3), (4, iV v4), (5, iV v5), (6, iV v6)] [] m 0 0 := by
  unfold J_X12_read_423 at hF
  refine x_iinc (p := 5) (lv' := [(0, .ref (b.1 + 54)), (1, iV v1), (3, iV v3), (4, iV v4), (5, iV v5)]) hC dX12_read_423 rfl rfl (by decide) rfl hF (fun x1 hx1 hF => ?_)
  refine x_goto (tgt := 368) hC dX12_read_426 rfl ?_
  refine x_sub [1, 2, 3, 4, 5, 0] rfl ?_
  exact hk_368 v1 hv1 v3 hv3 v4 hv4 v5 hv5 x1 hx1 m hm hF
set_option maxRecDepth 20000 in
set_option maxHeartbeats 4000000 in
theorem WL_X12_read_368 {g : Gx} {b : Bs} {o : Mm} {Q : Int → Mm → Prop} {k_350 : Int → Int → Int → Mm → Rs} {k_358 : Int → Int → Int → Int → Mm → Rs} (hC : Cok g b RX12 cX12_read 7 6 (some .long)) (hk_350 : ∀ v1 : Int, inR v1 → ∀ v3 : Int, inR v3 → ∀ v4 : Int, inR v4 → ∀ m : Mm, Rg m → okR (k_350 v1 v3 v4 m) Q → X g b (false, o) 7 (ZM g b (false, o) 2 Q) 350 [(0, .ref (b.1 + 54)), (1, iV v1), (3, iV v3), (4, iV v4)] [] m 0 0) (hk_358 : ∀ v1 : Int, inR v1 → ∀ v3 : Int, inR v3 → ∀ v4 : Int, inR v4 → ∀ v5 : Int, inR v5 → ∀ m : Mm, Rg m → okR (k_358 v1 v3 v4 v5 m) Q → X g b (false, o) 7 (ZM g b (false, o) 2 Q) 358 [(0, .ref (b.1 + 54)), (1, iV v1), (3, iV v3), (4, iV v4), (5, iV v5)] [] m 0 0) : ∀ n : Nat, ∀ v1 : Int, inR v1 → ∀ v3 : Int, inR v3 → ∀ v4 : Int, inR v4 → ∀ v5 : Int, inR v5 → ∀ v6 : Int, inR v6 → ∀ m : Mm, Rg m → okR (L_X12_read_368 k_350 k_358 n v1 v3 v4 v5 v6 m) Q → X g b (false, o) 7 (ZM g b (false, o) 2 Q) 368 [(0, .ref (b.1 + 54)), (1, iV v1), (3, iV v3), (4, iV v4), (5, iV v5), (6, iV v6)] [] m 0 0 := by
  intro n
  induction n with
  | zero => intro v1 hv1 v3 hv3 v4 hv4 v5 hv5 v6 hv6 m hm hF; exact absurd hF (fun z => z)
  | succ n ih =>
    intro v1 hv1 v3 hv3 v4 hv4 v5 hv5 v6 hv6 m hm hF
    have hF : okR (LB_X12_read_368 k_350 k_358 (L_X12_read_368 k_350 k_358 n) v1 v3 v4 v5 v6 m) Q := hF
    unfold LB_X12_read_368 at hF
    refine x_iload hC dX12_read_368 rfl 5 rfl ?_
    refine x_aload_n hC dX12_read_370 rfl 0 rfl ?_
    refine x_getI hC dX12_read_371 rfl flX12_144 rfl (by decide) rfl rfl ?_
    refine x_icmp_ge (tgt := 429) hC dX12_read_374 rfl rfl hv6 (hm.i 54 2 rfl) hF (fun hq1 hF => ?_) (fun hq1 hF => ?_)
    · refine x_iinc (p := 4) (lv' := [(0, .ref (b.1 + 54)), (1, iV v1), (3, iV v3), (4, iV v4), (6, iV v6)]) hC dX12_read_429 rfl rfl (by decide) rfl hF (fun x2 hx2 hF => ?_)
      refine x_goto (tgt := 358) hC dX12_read_432 rfl ?_
      refine x_sub [1, 2, 3, 4, 0] rfl ?_
      exact hk_358 v1 hv1 v3 hv3 v4 hv4 x2 hx2 m hm hF
    · refine x_aload_n hC dX12_read_377 rfl 0 rfl ?_
      refine x_iload_n hC dX12_read_378 rfl 1 rfl ?_
      refine x_iload hC dX12_read_379 rfl 3 rfl ?_
      refine x_iload hC dX12_read_381 rfl 5 rfl ?_
      refine x_iload hC dX12_read_383 rfl 4 rfl ?_
      refine x_callV3 (kc2 := 0) (ks2 := 0) (k := 54) (As := [iV v1, iV v4, iV v6, iV v5]) (rest := []) hC dX12_read_385 rfl hm (fun _ _ h => T_X12_fits b _ m v1 hv1 v4 hv4 v6 hv6 v5 hv5 h) mlX12_398 vlX12_fits rfl (by decide) rfl rfl (Nat.le_of_ble_eq_true rfl) (by decide) (by decide) rfl rfl hF (fun r3 m4 hr3 hm4 hF => ?_)
      refine x_if_eq (tgt := 423) hC dX12_read_388 rfl rfl (rg_01 hr3) hF (fun hq5 hF => ?_) (fun hq5 hF => ?_)
      · exact WJ_X12_read_423 hC hk_350 hk_358 ih  v1 hv1 v3 hv3 v4 hv4 v5 hv5 v6 hv6 m4 hm4 hF
      · refine x_aload_n hC dX12_read_391 rfl 0 rfl ?_
        refine x_getR (t := 83) hC dX12_read_392 rfl flX12_107 rfl (by decide) rfl rfl ?_
        refine x_bipush hC dX12_read_395 rfl rfl ?_
        refine x_iload hC dX12_read_397 rfl 3 rfl ?_
        refine x_imul hC dX12_read_399 rfl ?_
        refine x_iload hC dX12_read_400 rfl 4 rfl ?_
        refine x_iadd hC dX12_read_402 rfl ?_
        refine x_dup2 hC dX12_read_403 rfl rfl rfl ?_
        refine x_lald hC dX12_read_404 rfl rfl (by decide) rfl hm4 (rg_wr _) hF (fun x6 hx6 hF => ?_)
        refine x_aload_n hC dX12_read_405 rfl 0 rfl ?_
        refine x_getR (t := 83) hC dX12_read_406 rfl flX12_107 rfl (by decide) rfl rfl ?_
        refine x_bipush hC dX12_read_409 rfl rfl ?_
        refine x_iload hC dX12_read_411 rfl 3 rfl ?_
        refine x_imul hC dX12_read_413 rfl ?_
        refine x_bipush hC dX12_read_414 rfl rfl ?_
        refine x_iadd hC dX12_read_416 rfl ?_
        refine x_iload hC dX12_read_417 rfl 5 rfl ?_
        refine x_iadd hC dX12_read_419 rfl ?_
        refine x_lald hC dX12_read_420 rfl rfl (by decide) rfl hm4 (rg_wr _) hF (fun x7 hx7 hF => ?_)
        refine x_ladd hC dX12_read_421 rfl ?_
        refine x_last hC dX12_read_422 rfl rfl (by decide) rfl hm4 (rg_wr _) (rg_wl _) hF (fun m8 hm8 hF => ?_)
        exact WJ_X12_read_423 hC hk_350 hk_358 ih  v1 hv1 v3 hv3 v4 hv4 v5 hv5 v6 hv6 m8 hm8 hF
set_option maxRecDepth 20000 in
set_option maxHeartbeats 4000000 in
theorem WL_X12_read_358 {g : Gx} {b : Bs} {o : Mm} {Q : Int → Mm → Prop} {k_350 : Int → Int → Int → Mm → Rs} (hC : Cok g b RX12 cX12_read 7 6 (some .long)) (hk_350 : ∀ v1 : Int, inR v1 → ∀ v3 : Int, inR v3 → ∀ v4 : Int, inR v4 → ∀ m : Mm, Rg m → okR (k_350 v1 v3 v4 m) Q → X g b (false, o) 7 (ZM g b (false, o) 2 Q) 350 [(0, .ref (b.1 + 54)), (1, iV v1), (3, iV v3), (4, iV v4)] [] m 0 0) : ∀ n : Nat, ∀ v1 : Int, inR v1 → ∀ v3 : Int, inR v3 → ∀ v4 : Int, inR v4 → ∀ v5 : Int, inR v5 → ∀ m : Mm, Rg m → okR (L_X12_read_358 k_350 n v1 v3 v4 v5 m) Q → X g b (false, o) 7 (ZM g b (false, o) 2 Q) 358 [(0, .ref (b.1 + 54)), (1, iV v1), (3, iV v3), (4, iV v4), (5, iV v5)] [] m 0 0 := by
  intro n
  induction n with
  | zero => intro v1 hv1 v3 hv3 v4 hv4 v5 hv5 m hm hF; exact absurd hF (fun z => z)
  | succ n ih =>
    intro v1 hv1 v3 hv3 v4 hv4 v5 hv5 m hm hF
    have hF : okR (LB_X12_read_358 k_350 (L_X12_read_358 k_350 n) v1 v3 v4 v5 m) Q := hF
    unfold LB_X12_read_358 at hF
    refine x_iload hC dX12_read_358 rfl 4 rfl ?_
    refine x_bipush hC dX12_read_360 rfl rfl ?_
    refine x_icmp_gt (tgt := 435) hC dX12_read_362 rfl rfl hv5 (rgc 8 rfl) hF (fun hq1 hF => ?_) (fun hq1 hF => ?_)
    · refine x_iinc (p := 3) (lv' := [(0, .ref (b.1 + 54)), (1, iV v1), (3, iV v3), (5, iV v5)]) hC dX12_read_435 rfl rfl (by decide) rfl hF (fun x2 hx2 hF => ?_)
      refine x_goto (tgt := 350) hC dX12_read_438 rfl ?_
      refine x_sub [1, 2, 3, 0] rfl ?_
      exact hk_350 v1 hv1 v3 hv3 x2 hx2 m hm hF
    · refine x_iconst hC dX12_read_365 rfl ?_
      refine x_istoreZ (lv' := [(0, .ref (b.1 + 54)), (1, iV v1), (3, iV v3), (4, iV v4), (5, iV v5)]) hC dX12_read_366 rfl (by decide) rfl (Or.inl rfl) hF (fun x3 hx3 hF => ?_)
      refine x_sub [1, 2, 3, 4, 5, 0] rfl ?_
      exact WL_X12_read_368 hC hk_350 ih 100000  v1 hv1 v3 hv3 v4 hv4 v5 hv5 x3 (rg_01 hx3) m hm hF
set_option maxRecDepth 20000 in
set_option maxHeartbeats 4000000 in
theorem WJ_X12_read_520 {g : Gx} {b : Bs} {o : Mm} {Q : Int → Mm → Prop} {k_462 : Int → Int → Int → Mm → Rs} (hC : Cok g b RX12 cX12_read 7 6 (some .long)) (hk_462 : ∀ v3 : Int, inR v3 → ∀ v4 : Int, inL v4 → ∀ v6 : Int, inR v6 → ∀ m : Mm, Rg m → okR (k_462 v3 v4 v6 m) Q → X g b (false, o) 7 (ZM g b (false, o) 2 Q) 462 [(0, .ref (b.1 + 54)), (3, iV v3), (4, lV v4), (6, iV v6)] [] m 0 0) (v3 : Int) (hv3 : inR v3) (v4 : Int) (hv4 : inL v4) (v6 : Int) (hv6 : inR v6) (m : Mm) (hm : Rg m) (hF : okR (J_X12_read_520 k_462 v3 v4 v6 m) Q) : X g b (false, o) 7 (ZM g b (false, o) 2 Q) 520 [(0, .ref (b.1 + 54)), (3, iV v3), (4, lV v4), (6, iV v6)] [] m 0 0 := by
  unfold J_X12_read_520 at hF
  refine x_iinc (p := 3) (lv' := [(0, .ref (b.1 + 54)), (3, iV v3), (4, lV v4)]) hC dX12_read_520 rfl rfl (by decide) rfl hF (fun x1 hx1 hF => ?_)
  refine x_goto (tgt := 462) hC dX12_read_523 rfl ?_
  refine x_sub [1, 2, 3, 0] rfl ?_
  exact hk_462 v3 hv3 v4 hv4 x1 hx1 m hm hF
set_option maxRecDepth 20000 in
set_option maxHeartbeats 4000000 in
theorem WL_X12_read_462 {g : Gx} {b : Bs} {o : Mm} {Q : Int → Mm → Prop} (hC : Cok g b RX12 cX12_read 7 6 (some .long)) : ∀ n : Nat, ∀ v3 : Int, inR v3 → ∀ v4 : Int, inL v4 → ∀ v6 : Int, inR v6 → ∀ m : Mm, Rg m → okR (L_X12_read_462 n v3 v4 v6 m) Q → X g b (false, o) 7 (ZM g b (false, o) 2 Q) 462 [(0, .ref (b.1 + 54)), (3, iV v3), (4, lV v4), (6, iV v6)] [] m 0 0 := by
  intro n
  induction n with
  | zero => intro v3 hv3 v4 hv4 v6 hv6 m hm hF; exact absurd hF (fun z => z)
  | succ n ih =>
    intro v3 hv3 v4 hv4 v6 hv6 m hm hF
    have hF : okR (LB_X12_read_462 (L_X12_read_462 n) v3 v4 v6 m) Q := hF
    unfold LB_X12_read_462 at hF
    refine x_iload hC dX12_read_462 rfl 3 rfl ?_
    refine x_aload_n hC dX12_read_464 rfl 0 rfl ?_
    refine x_getI hC dX12_read_465 rfl flX12_144 rfl (by decide) rfl rfl ?_
    refine x_icmp_ge (tgt := 526) hC dX12_read_468 rfl rfl hv6 (hm.i 54 2 rfl) hF (fun hq1 hF => ?_) (fun hq1 hF => ?_)
    · refine x_lload hC dX12_read_526 rfl 2 rfl ?_
      exact x_lreturn hC dX12_read_528 hm hv4 hF
    · refine x_aload_n hC dX12_read_471 rfl 0 rfl ?_
      refine x_getR (t := 82) hC dX12_read_472 rfl flX12_103 rfl (by decide) rfl rfl ?_
      refine x_bipush hC dX12_read_475 rfl rfl ?_
      refine x_iload_n hC dX12_read_477 rfl 1 rfl ?_
      refine x_imul hC dX12_read_478 rfl ?_
      refine x_bipush hC dX12_read_479 rfl rfl ?_
      refine x_iadd hC dX12_read_481 rfl ?_
      refine x_iload hC dX12_read_482 rfl 3 rfl ?_
      refine x_iadd hC dX12_read_484 rfl ?_
      refine x_lald hC dX12_read_485 rfl rfl (by decide) rfl hm (rg_wr _) hF (fun x2 hx2 hF => ?_)
      refine x_lconst (x := 0) hC dX12_read_486 rfl rfl ?_
      refine x_lcmp hC dX12_read_487 rfl hx2 (rgcL 0 rfl) ?_
      refine x_if_le (tgt := 520) hC dX12_read_488 rfl rfl (rg_lcmp _ _) hF (fun hq3 hF => ?_) (fun hq3 hF => ?_)
      · exact WJ_X12_read_520 hC ih  v3 hv3 v4 hv4 v6 hv6 m hm hF
      · refine x_aload_n hC dX12_read_491 rfl 0 rfl ?_
        refine x_getR (t := 83) hC dX12_read_492 rfl flX12_107 rfl (by decide) rfl rfl ?_
        refine x_bipush hC dX12_read_495 rfl rfl ?_
        refine x_iload_n hC dX12_read_497 rfl 1 rfl ?_
        refine x_imul hC dX12_read_498 rfl ?_
        refine x_bipush hC dX12_read_499 rfl rfl ?_
        refine x_iadd hC dX12_read_501 rfl ?_
        refine x_iload hC dX12_read_502 rfl 3 rfl ?_
        refine x_iadd hC dX12_read_504 rfl ?_
        refine x_lald hC dX12_read_505 rfl rfl (by decide) rfl hm (rg_wr _) hF (fun x4 hx4 hF => ?_)
        refine x_lconst (x := 0) hC dX12_read_506 rfl rfl ?_
        refine x_lcmp hC dX12_read_507 rfl hx4 (rgcL 0 rfl) ?_
        refine x_if_le (tgt := 520) hC dX12_read_508 rfl rfl (rg_lcmp _ _) hF (fun hq5 hF => ?_) (fun hq5 hF => ?_)
        · exact WJ_X12_read_520 hC ih  v3 hv3 v4 hv4 v6 hv6 m hm hF
        · refine x_lload hC dX12_read_511 rfl 2 rfl ?_
          refine x_lconst (x := 1) hC dX12_read_513 rfl rfl ?_
          refine x_iload hC dX12_read_514 rfl 3 rfl ?_
          refine x_lshl hC dX12_read_516 rfl ?_
          refine x_lor hC dX12_read_517 rfl ?_
          refine x_lstore (lv' := [(0, .ref (b.1 + 54)), (3, iV v3), (6, iV v6)]) hC dX12_read_518 rfl (by decide) rfl (rg_tL _) hF (fun x6 hx6 hF => ?_)
          refine x_sub [1, 2, 0, 3] rfl ?_
          exact WJ_X12_read_520 hC ih  v3 hv3 x6 hx6 v6 hv6 m hm hF
set_option maxRecDepth 20000 in
set_option maxHeartbeats 4000000 in
theorem WL_X12_read_350 {g : Gx} {b : Bs} {o : Mm} {Q : Int → Mm → Prop} (hC : Cok g b RX12 cX12_read 7 6 (some .long)) : ∀ n : Nat, ∀ v1 : Int, inR v1 → ∀ v3 : Int, inR v3 → ∀ v4 : Int, inR v4 → ∀ m : Mm, Rg m → okR (L_X12_read_350 n v1 v3 v4 m) Q → X g b (false, o) 7 (ZM g b (false, o) 2 Q) 350 [(0, .ref (b.1 + 54)), (1, iV v1), (3, iV v3), (4, iV v4)] [] m 0 0 := by
  intro n
  induction n with
  | zero => intro v1 hv1 v3 hv3 v4 hv4 m hm hF; exact absurd hF (fun z => z)
  | succ n ih =>
    intro v1 hv1 v3 hv3 v4 hv4 m hm hF
    have hF : okR (LB_X12_read_350 (L_X12_read_350 n) v1 v3 v4 m) Q := hF
    unfold LB_X12_read_350 at hF
    refine x_iload hC dX12_read_350 rfl 3 rfl ?_
    refine x_if_lt (tgt := 441) hC dX12_read_352 rfl rfl hv4 hF (fun hq1 hF => ?_) (fun hq1 hF => ?_)
    · refine x_iload_n hC dX12_read_441 rfl 2 rfl ?_
      refine x_iconst hC dX12_read_442 rfl ?_
      refine x_icmp_ne (tgt := 456) hC dX12_read_443 rfl rfl hv3 (rgc (-1) rfl) hF (fun hq2 hF => ?_) (fun hq2 hF => ?_)
      · refine x_lconst (x := 0) hC dX12_read_456 rfl rfl ?_
        refine x_lstore (lv' := [(0, .ref (b.1 + 54)), (1, iV v1), (3, iV v3)]) hC dX12_read_457 rfl (by decide) rfl (rgcL 0 rfl) hF (fun x3 hx3 hF => ?_)
        refine x_iconst hC dX12_read_459 rfl ?_
        refine x_istoreZ (lv' := [(4, lV x3), (0, .ref (b.1 + 54)), (1, iV v1), (3, iV v3)]) hC dX12_read_460 rfl (by decide) rfl (Or.inl rfl) hF (fun x4 hx4 hF => ?_)
        refine x_sub [2, 4, 1, 0] rfl ?_
        exact WL_X12_read_462 hC 100000  v3 hv3 x3 hx3 x4 (rg_01 hx4) m hm hF
      · refine x_aload_n hC dX12_read_446 rfl 0 rfl ?_
        refine x_getR (t := 83) hC dX12_read_447 rfl flX12_107 rfl (by decide) rfl rfl ?_
        refine x_aload_n hC dX12_read_450 rfl 0 rfl ?_
        refine x_getI hC dX12_read_451 rfl flX12_378 rfl (by decide) rfl rfl ?_
        refine x_lald hC dX12_read_454 rfl rfl (by decide) rfl hm (hm.i 54 55 rfl) hF (fun x5 hx5 hF => ?_)
        exact x_lreturn hC dX12_read_455 hm hx5 hF
    · refine x_iconst hC dX12_read_355 rfl ?_
      refine x_istoreZ (lv' := [(0, .ref (b.1 + 54)), (1, iV v1), (3, iV v3), (4, iV v4)]) hC dX12_read_356 rfl (by decide) rfl (Or.inl rfl) hF (fun x6 hx6 hF => ?_)
      refine x_sub [1, 2, 3, 4, 0] rfl ?_
      exact WL_X12_read_358 hC ih 100000  v1 hv1 v3 hv3 v4 hv4 x6 (rg_01 hx6) m hm hF
set_option maxRecDepth 20000 in
set_option maxHeartbeats 4000000 in
theorem WL_X12_read_319 {g : Gx} {b : Bs} {o : Mm} {Q : Int → Mm → Prop} (hC : Cok g b RX12 cX12_read 7 6 (some .long)) : ∀ n : Nat, ∀ v1 : Int, inR v1 → ∀ v2 : Int, inR v2 → ∀ v3 : Int, inR v3 → ∀ v4 : Int, inR v4 → ∀ m : Mm, Rg m → okR (L_X12_read_319 n v1 v2 v3 v4 m) Q → X g b (false, o) 7 (ZM g b (false, o) 2 Q) 319 [(0, .ref (b.1 + 54)), (1, iV v1), (2, iV v2), (3, iV v3), (4, iV v4)] [] m 0 0 := by
  intro n
  induction n with
  | zero => intro v1 hv1 v2 hv2 v3 hv3 v4 hv4 m hm hF; exact absurd hF (fun z => z)
  | succ n ih =>
    intro v1 hv1 v2 hv2 v3 hv3 v4 hv4 m hm hF
    have hF : okR (LB_X12_read_319 (L_X12_read_319 n) v1 v2 v3 v4 m) Q := hF
    unfold LB_X12_read_319 at hF
    refine x_iload hC dX12_read_319 rfl 4 rfl ?_
    refine x_bipush hC dX12_read_321 rfl rfl ?_
    refine x_icmp_ge (tgt := 345) hC dX12_read_323 rfl rfl hv4 (rgc 9 rfl) hF (fun hq1 hF => ?_) (fun hq1 hF => ?_)
    · refine x_iload_n hC dX12_read_345 rfl 2 rfl ?_
      refine x_iconst hC dX12_read_346 rfl ?_
      refine x_isub hC dX12_read_347 rfl ?_
      refine x_istore (lv' := [(0, .ref (b.1 + 54)), (1, iV v1), (2, iV v2), (3, iV v3)]) hC dX12_read_348 rfl (by decide) rfl (rg_wr _) hF (fun x2 hx2 hF => ?_)
      refine x_sub [1, 2, 4, 0] rfl ?_
      exact WL_X12_read_350 hC 100000  v1 hv1 v3 hv3 x2 hx2 m hm hF
    · refine x_aload_n hC dX12_read_326 rfl 0 rfl ?_
      refine x_getR (t := 83) hC dX12_read_327 rfl flX12_107 rfl (by decide) rfl rfl ?_
      refine x_bipush hC dX12_read_330 rfl rfl ?_
      refine x_iload_n hC dX12_read_332 rfl 2 rfl ?_
      refine x_imul hC dX12_read_333 rfl ?_
      refine x_iload hC dX12_read_334 rfl 4 rfl ?_
      refine x_iadd hC dX12_read_336 rfl ?_
      refine x_lconst (x := 1) hC dX12_read_337 rfl rfl ?_
      refine x_last hC dX12_read_338 rfl rfl (by decide) rfl hm (rg_wr _) (rgcL 1 rfl) hF (fun m3 hm3 hF => ?_)
      refine x_iinc (p := 4) (lv' := [(0, .ref (b.1 + 54)), (1, iV v1), (2, iV v2), (3, iV v3)]) hC dX12_read_339 rfl rfl (by decide) rfl hF (fun x4 hx4 hF => ?_)
      refine x_goto (tgt := 319) hC dX12_read_342 rfl ?_
      refine x_sub [1, 2, 3, 4, 0] rfl ?_
      exact ih v1 hv1 v2 hv2 v3 hv3 x4 hx4 m3 hm3 hF
set_option maxRecDepth 20000 in
set_option maxHeartbeats 4000000 in
theorem WL_X12_read_206 {g : Gx} {b : Bs} {o : Mm} {Q : Int → Mm → Prop} (hC : Cok g b RX12 cX12_read 7 6 (some .long)) : ∀ n : Nat, ∀ v1 : Int, inR v1 → ∀ v2 : Int, inR v2 → ∀ v3 : Int, inR v3 → ∀ v4 : Int, inR v4 → ∀ m : Mm, Rg m → okR (L_X12_read_206 n v1 v2 v3 v4 m) Q → X g b (false, o) 7 (ZM g b (false, o) 2 Q) 206 [(0, .ref (b.1 + 54)), (1, iV v1), (2, iV v2), (3, iV v3), (4, iV v4)] [] m 0 0 := by
  intro n
  induction n with
  | zero => intro v1 hv1 v2 hv2 v3 hv3 v4 hv4 m hm hF; exact absurd hF (fun z => z)
  | succ n ih =>
    intro v1 hv1 v2 hv2 v3 hv3 v4 hv4 m hm hF
    have hF : okR (LB_X12_read_206 (L_X12_read_206 n) v1 v2 v3 v4 m) Q := hF
    unfold LB_X12_read_206 at hF
    refine x_iload hC dX12_read_206 rfl 4 rfl ?_
    refine x_iload_n hC dX12_read_208 rfl 2 rfl ?_
    refine x_icmp_ge (tgt := 316) hC dX12_read_209 rfl rfl hv4 hv2 hF (fun hq1 hF => ?_) (fun hq1 hF => ?_)
    · refine x_iconst hC dX12_read_316 rfl ?_
      refine x_istoreZ (lv' := [(0, .ref (b.1 + 54)), (1, iV v1), (2, iV v2), (3, iV v3)]) hC dX12_read_317 rfl (by decide) rfl (Or.inl rfl) hF (fun x2 hx2 hF => ?_)
      refine x_sub [1, 2, 3, 4, 0] rfl ?_
      exact WL_X12_read_319 hC 100000  v1 hv1 v2 hv2 v3 hv3 x2 (rg_01 hx2) m hm hF
    · refine x_iconst hC dX12_read_212 rfl ?_
      refine x_istoreZ (lv' := [(0, .ref (b.1 + 54)), (1, iV v1), (2, iV v2), (3, iV v3), (4, iV v4)]) hC dX12_read_213 rfl (by decide) rfl (Or.inl rfl) hF (fun x3 hx3 hF => ?_)
      refine x_sub [1, 2, 3, 4, 5, 0] rfl ?_
      exact WL_X12_read_215 hC ih 100000  v1 hv1 v2 hv2 v3 hv3 v4 hv4 x3 (rg_01 hx3) m hm hF
set_option maxRecDepth 20000 in
set_option maxHeartbeats 4000000 in
theorem WL_X12_read_164 {g : Gx} {b : Bs} {o : Mm} {Q : Int → Mm → Prop} (hC : Cok g b RX12 cX12_read 7 6 (some .long)) : ∀ n : Nat, ∀ v1 : Int, inR v1 → ∀ v2 : Int, inR v2 → ∀ v3 : Int, inR v3 → ∀ v4 : Int, inR v4 → ∀ m : Mm, Rg m → okR (L_X12_read_164 n v1 v2 v3 v4 m) Q → X g b (false, o) 7 (ZM g b (false, o) 2 Q) 164 [(0, .ref (b.1 + 54)), (1, iV v1), (2, iV v2), (3, iV v3), (4, iV v4)] [] m 0 0 := by
  intro n
  induction n with
  | zero => intro v1 hv1 v2 hv2 v3 hv3 v4 hv4 m hm hF; exact absurd hF (fun z => z)
  | succ n ih =>
    intro v1 hv1 v2 hv2 v3 hv3 v4 hv4 m hm hF
    have hF : okR (LB_X12_read_164 (L_X12_read_164 n) v1 v2 v3 v4 m) Q := hF
    unfold LB_X12_read_164 at hF
    refine x_iload hC dX12_read_164 rfl 4 rfl ?_
    refine x_bipush hC dX12_read_166 rfl rfl ?_
    refine x_icmp_ge (tgt := 193) hC dX12_read_168 rfl rfl hv4 (rgc 126 rfl) hF (fun hq1 hF => ?_) (fun hq1 hF => ?_)
    · refine x_aload_n hC dX12_read_193 rfl 0 rfl ?_
      refine x_getR (t := 82) hC dX12_read_194 rfl flX12_103 rfl (by decide) rfl rfl ?_
      refine x_aload_n hC dX12_read_197 rfl 0 rfl ?_
      refine x_getI hC dX12_read_198 rfl flX12_378 rfl (by decide) rfl rfl ?_
      refine x_lconst (x := 1) hC dX12_read_201 rfl rfl ?_
      refine x_last hC dX12_read_202 rfl rfl (by decide) rfl hm (hm.i 54 55 rfl) (rgcL 1 rfl) hF (fun m2 hm2 hF => ?_)
      refine x_iconst hC dX12_read_203 rfl ?_
      refine x_istoreZ (lv' := [(0, .ref (b.1 + 54)), (1, iV v1), (2, iV v2), (3, iV v3)]) hC dX12_read_204 rfl (by decide) rfl (Or.inl rfl) hF (fun x3 hx3 hF => ?_)
      refine x_sub [1, 2, 3, 4, 0] rfl ?_
      exact WL_X12_read_206 hC 100000  v1 hv1 v2 hv2 v3 hv3 x3 (rg_01 hx3) m2 hm2 hF
    · refine x_aload_n hC dX12_read_171 rfl 0 rfl ?_
      refine x_getR (t := 82) hC dX12_read_172 rfl flX12_103 rfl (by decide) rfl rfl ?_
      refine x_iload hC dX12_read_175 rfl 4 rfl ?_
      refine x_lconst (x := 0) hC dX12_read_177 rfl rfl ?_
      refine x_last hC dX12_read_178 rfl rfl (by decide) rfl hm hv4 (rgcL 0 rfl) hF (fun m4 hm4 hF => ?_)
      refine x_aload_n hC dX12_read_179 rfl 0 rfl ?_
      refine x_getR (t := 83) hC dX12_read_180 rfl flX12_107 rfl (by decide) rfl rfl ?_
      refine x_iload hC dX12_read_183 rfl 4 rfl ?_
      refine x_lconst (x := 0) hC dX12_read_185 rfl rfl ?_
      refine x_last hC dX12_read_186 rfl rfl (by decide) rfl hm4 hv4 (rgcL 0 rfl) hF (fun m5 hm5 hF => ?_)
      refine x_iinc (p := 4) (lv' := [(0, .ref (b.1 + 54)), (1, iV v1), (2, iV v2), (3, iV v3)]) hC dX12_read_187 rfl rfl (by decide) rfl hF (fun x6 hx6 hF => ?_)
      refine x_goto (tgt := 164) hC dX12_read_190 rfl ?_
      refine x_sub [1, 2, 3, 4, 0] rfl ?_
      exact ih v1 hv1 v2 hv2 v3 hv3 x6 hx6 m5 hm5 hF
set_option maxRecDepth 20000 in
set_option maxHeartbeats 4000000 in
theorem WL_X12_read_104 {g : Gx} {b : Bs} {o : Mm} {Q : Int → Mm → Prop} (hC : Cok g b RX12 cX12_read 7 6 (some .long)) : ∀ n : Nat, ∀ v1 : Int, inR v1 → ∀ v2 : Int, inR v2 → ∀ v3 : Int, inR v3 → ∀ v4 : Int, inR v4 → ∀ m : Mm, Rg m → okR (L_X12_read_104 n v1 v2 v3 v4 m) Q → X g b (false, o) 7 (ZM g b (false, o) 2 Q) 104 [(0, .ref (b.1 + 54)), (1, iV v1), (2, iV v2), (3, iV v3), (4, iV v4)] [] m 0 0 := by
  intro n
  induction n with
  | zero => intro v1 hv1 v2 hv2 v3 hv3 v4 hv4 m hm hF; exact absurd hF (fun z => z)
  | succ n ih =>
    intro v1 hv1 v2 hv2 v3 hv3 v4 hv4 m hm hF
    have hF : okR (LB_X12_read_104 (L_X12_read_104 n) v1 v2 v3 v4 m) Q := hF
    unfold LB_X12_read_104 at hF
    refine x_iload hC dX12_read_104 rfl 4 rfl ?_
    refine x_iload_n hC dX12_read_106 rfl 2 rfl ?_
    refine x_icmp_ge (tgt := 156) hC dX12_read_107 rfl rfl hv4 hv2 hF (fun hq1 hF => ?_) (fun hq1 hF => ?_)
    · refine x_aload_n hC dX12_read_156 rfl 0 rfl ?_
      refine x_iload_n hC dX12_read_157 rfl 1 rfl ?_
      refine x_callV0 (kc2 := 0) (ks2 := 0) (k := 54) (As := [iV v1]) (rest := []) hC dX12_read_158 rfl hm (fun _ _ h => T_X12_laysLast b _ m v1 hv1 h) mlX12_395 vlX12_laysLast rfl (by decide) rfl rfl (Nat.le_of_ble_eq_true rfl) (by decide) (by decide) rfl rfl hF (fun r2 m3 hr2 hm3 hF => ?_)
      refine x_iconst hC dX12_read_161 rfl ?_
      refine x_istoreZ (lv' := [(0, .ref (b.1 + 54)), (1, iV v1), (2, iV v2), (3, iV v3)]) hC dX12_read_162 rfl (by decide) rfl (Or.inl rfl) hF (fun x4 hx4 hF => ?_)
      refine x_sub [1, 2, 3, 4, 0] rfl ?_
      exact WL_X12_read_164 hC 100000  v1 hv1 v2 hv2 v3 hv3 x4 (rg_01 hx4) m3 hm3 hF
    · refine x_aload_n hC dX12_read_110 rfl 0 rfl ?_
      refine x_getR (t := 80) hC dX12_read_111 rfl flX12_97 rfl (by decide) rfl rfl ?_
      refine x_iload hC dX12_read_114 rfl 4 rfl ?_
      refine x_iald hC dX12_read_116 rfl rfl (by decide) rfl hm hv4 hF (fun x5 hx5 hF => ?_)
      refine x_i2l hC dX12_read_117 rfl hx5 ?_
      refine x_lconst (x := 1) hC dX12_read_118 rfl rfl ?_
      refine x_ldc2 (x := 63) hC dX12_read_119 rfl kwX12_372 ?_
      refine x_callS3 (kc2 := 0) (ks2 := 0) (As := [lV x5, lV 1, lV 63]) (rest := []) hC dX12_read_122 rfl hm (fun _ _ h => T_X12_lies b _ m x5 (rg_RL hx5) 1 (rgcL 1 rfl) 63 (rgcL 63 rfl) h) mlX12_147 vsX12_lies rfl rfl (Nat.le_of_ble_eq_true rfl) (by decide) (by decide) rfl rfl hF (fun r6 m7 hr6 hm7 hF => ?_)
      refine x_if_eq (tgt := 146) hC dX12_read_125 rfl rfl (rg_01 hr6) hF (fun hq8 hF => ?_) (fun hq8 hF => ?_)
      · refine x_ldc2 (x := (-2)) hC dX12_read_146 rfl kwX12_393 ?_
        exact x_lreturn hC dX12_read_149 hm7 (rgcL (-2) rfl) hF
      · refine x_aload_n hC dX12_read_128 rfl 0 rfl ?_
        refine x_getR (t := 81) hC dX12_read_129 rfl flX12_100 rfl (by decide) rfl rfl ?_
        refine x_iload hC dX12_read_132 rfl 4 rfl ?_
        refine x_iald hC dX12_read_134 rfl rfl (by decide) rfl hm7 hv4 hF (fun x9 hx9 hF => ?_)
        refine x_i2l hC dX12_read_135 rfl hx9 ?_
        refine x_lconst (x := 0) hC dX12_read_136 rfl rfl ?_
        refine x_ldc2 (x := 32) hC dX12_read_137 rfl kwX12_391 ?_
        refine x_callS3 (kc2 := 0) (ks2 := 0) (As := [lV x9, lV 0, lV 32]) (rest := []) hC dX12_read_140 rfl hm7 (fun _ _ h => T_X12_lies b _ m7 x9 (rg_RL hx9) 0 (rgcL 0 rfl) 32 (rgcL 32 rfl) h) mlX12_147 vsX12_lies rfl rfl (Nat.le_of_ble_eq_true rfl) (by decide) (by decide) rfl rfl hF (fun r10 m11 hr10 hm11 hF => ?_)
        refine x_if_ne (tgt := 150) hC dX12_read_143 rfl rfl (rg_01 hr10) hF (fun hq12 hF => ?_) (fun hq12 hF => ?_)
        · refine x_iinc (p := 4) (lv' := [(0, .ref (b.1 + 54)), (1, iV v1), (2, iV v2), (3, iV v3)]) hC dX12_read_150 rfl rfl (by decide) rfl hF (fun x13 hx13 hF => ?_)
          refine x_goto (tgt := 104) hC dX12_read_153 rfl ?_
          refine x_sub [1, 2, 3, 4, 0] rfl ?_
          exact ih v1 hv1 v2 hv2 v3 hv3 x13 hx13 m11 hm11 hF
        · refine x_ldc2 (x := (-2)) hC dX12_read_146 rfl kwX12_393 ?_
          exact x_lreturn hC dX12_read_149 hm11 (rgcL (-2) rfl) hF
set_option maxRecDepth 20000 in
set_option maxHeartbeats 4000000 in
theorem WL_X12_read_57 {g : Gx} {b : Bs} {o : Mm} {Q : Int → Mm → Prop} (hC : Cok g b RX12 cX12_read 7 6 (some .long)) : ∀ n : Nat, ∀ v1 : Int, inR v1 → ∀ v2 : Int, inR v2 → ∀ v3 : Int, inR v3 → ∀ v4 : Int, inR v4 → ∀ m : Mm, Rg m → okR (L_X12_read_57 n v1 v2 v3 v4 m) Q → X g b (false, o) 7 (ZM g b (false, o) 2 Q) 57 [(0, .ref (b.1 + 54)), (1, iV v1), (2, iV v2), (3, iV v3), (4, iV v4)] [] m 0 0 := by
  intro n
  induction n with
  | zero => intro v1 hv1 v2 hv2 v3 hv3 v4 hv4 m hm hF; exact absurd hF (fun z => z)
  | succ n ih =>
    intro v1 hv1 v2 hv2 v3 hv3 v4 hv4 m hm hF
    have hF : okR (LB_X12_read_57 (L_X12_read_57 n) v1 v2 v3 v4 m) Q := hF
    unfold LB_X12_read_57 at hF
    refine x_iload hC dX12_read_57 rfl 4 rfl ?_
    refine x_iload_n hC dX12_read_59 rfl 2 rfl ?_
    refine x_icmp_ge (tgt := 101) hC dX12_read_60 rfl rfl hv4 hv2 hF (fun hq1 hF => ?_) (fun hq1 hF => ?_)
    · refine x_iconst hC dX12_read_101 rfl ?_
      refine x_istoreZ (lv' := [(0, .ref (b.1 + 54)), (1, iV v1), (2, iV v2), (3, iV v3)]) hC dX12_read_102 rfl (by decide) rfl (Or.inl rfl) hF (fun x2 hx2 hF => ?_)
      refine x_sub [1, 2, 3, 4, 0] rfl ?_
      exact WL_X12_read_104 hC 100000  v1 hv1 v2 hv2 v3 hv3 x2 (rg_01 hx2) m hm hF
    · refine x_aload_n hC dX12_read_63 rfl 0 rfl ?_
      refine x_getR (t := 80) hC dX12_read_64 rfl flX12_97 rfl (by decide) rfl rfl ?_
      refine x_iload hC dX12_read_67 rfl 4 rfl ?_
      refine x_aload_n hC dX12_read_69 rfl 0 rfl ?_
      refine x_iconst hC dX12_read_70 rfl ?_
      refine x_iload hC dX12_read_71 rfl 4 rfl ?_
      refine x_imul hC dX12_read_73 rfl ?_
      refine x_callV1 (kc2 := 0) (ks2 := 0) (k := 54) (As := [iV (wr (2 * v4))]) (rest := [iV v4, .ref (b.1 + 80)]) hC dX12_read_74 rfl hm (fun _ _ h => T_X12_byteAt b _ m (wr (2 * v4)) (rg_wr _) h) mlX12_327 vlX12_byteAt rfl (by decide) rfl rfl (Nat.le_of_ble_eq_true rfl) (by decide) (by decide) rfl rfl hF (fun r3 m4 hr3 hm4 hF => ?_)
      refine x_iast hC dX12_read_77 rfl rfl (by decide) rfl hm4 hv4 hr3 hF (fun m5 hm5 hF => ?_)
      refine x_aload_n hC dX12_read_78 rfl 0 rfl ?_
      refine x_getR (t := 81) hC dX12_read_79 rfl flX12_100 rfl (by decide) rfl rfl ?_
      refine x_iload hC dX12_read_82 rfl 4 rfl ?_
      refine x_aload_n hC dX12_read_84 rfl 0 rfl ?_
      refine x_iconst hC dX12_read_85 rfl ?_
      refine x_iload hC dX12_read_86 rfl 4 rfl ?_
      refine x_imul hC dX12_read_88 rfl ?_
      refine x_iconst hC dX12_read_89 rfl ?_
      refine x_iadd hC dX12_read_90 rfl ?_
      refine x_callV1 (kc2 := 0) (ks2 := 0) (k := 54) (As := [iV (wr ((wr (2 * v4)) + 1))]) (rest := [iV v4, .ref (b.1 + 81)]) hC dX12_read_91 rfl hm5 (fun _ _ h => T_X12_byteAt b _ m5 (wr ((wr (2 * v4)) + 1)) (rg_wr _) h) mlX12_327 vlX12_byteAt rfl (by decide) rfl rfl (Nat.le_of_ble_eq_true rfl) (by decide) (by decide) rfl rfl hF (fun r6 m7 hr6 hm7 hF => ?_)
      refine x_iast hC dX12_read_94 rfl rfl (by decide) rfl hm7 hv4 hr6 hF (fun m8 hm8 hF => ?_)
      refine x_iinc (p := 4) (lv' := [(0, .ref (b.1 + 54)), (1, iV v1), (2, iV v2), (3, iV v3)]) hC dX12_read_95 rfl rfl (by decide) rfl hF (fun x9 hx9 hF => ?_)
      refine x_goto (tgt := 57) hC dX12_read_98 rfl ?_
      refine x_sub [1, 2, 3, 4, 0] rfl ?_
      exact ih v1 hv1 v2 hv2 v3 hv3 x9 hx9 m8 hm8 hF
set_option maxRecDepth 20000 in
set_option maxHeartbeats 4000000 in
theorem T_X12_read (b : Bs) (o : Mm) (m : Mm) (a1 : Int) (ha1 : inR a1) (a2 : Int) (ha2 : inR a2) (a3 : Int) (ha3 : inR a3) {r : Int} {m' : Mm} (h : F_X12_read a1 a2 a3 m = some (r, m')) : Cn yX12_read cX12_read 7 (some .long) (6) 0 0 2 b (false, o) m [.ref (b.1 + 54), iV a1, iV a2, iV a3] (F_X12_read a1 a2 a3 m) := by
  refine Cn_of rfl (Nat.le_of_ble_eq_true rfl) (fun g hC hm => ?_)
  have hF := okR_some h
  generalize hQ : (fun (r : Int) (m' : Mm) => F_X12_read a1 a2 a3 m = some (r, m')) = Q at hF ⊢
  clear hQ h
  replace hC : Cok g b RX12 cX12_read 7 6 (some .long) := hC
  refine x_lv (lv' := [(0, .ref (b.1 + 54)), (1, iV a1), (2, iV a2), (3, iV a3)]) rfl ?_
  unfold F_X12_read at hF
  refine x_aload_n hC dX12_read_0 rfl 0 rfl ?_
  refine x_iload_n hC dX12_read_1 rfl 1 rfl ?_
  refine x_callV3 (kc2 := 0) (ks2 := 0) (k := 54) (As := [iV a1]) (rest := []) hC dX12_read_2 rfl hm (fun _ _ h => T_X12_isMouth b _ m a1 ha1 h) mlX12_322 vlX12_isMouth rfl (by decide) rfl rfl (Nat.le_of_ble_eq_true rfl) (by decide) (by decide) rfl rfl hF (fun r1 m2 hr1 hm2 hF => ?_)
  refine x_if_eq (tgt := 45) hC dX12_read_5 rfl rfl (rg_01 hr1) hF (fun hq3 hF => ?_) (fun hq3 hF => ?_)
  · refine x_ldc2 (x := (-1)) hC dX12_read_45 rfl kwX12_389 ?_
    exact x_lreturn hC dX12_read_48 hm2 (rgcL (-1) rfl) hF
  · refine x_iload_n hC dX12_read_8 rfl 2 rfl ?_
    refine x_i2l hC dX12_read_9 rfl ha2 ?_
    refine x_lconst (x := 1) hC dX12_read_10 rfl rfl ?_
    refine x_ldc2 (x := 12) hC dX12_read_11 rfl kwX12_387 ?_
    refine x_callS3 (kc2 := 0) (ks2 := 0) (As := [lV a2, lV 1, lV 12]) (rest := []) hC dX12_read_14 rfl hm2 (fun _ _ h => T_X12_lies b _ m2 a2 (rg_RL ha2) 1 (rgcL 1 rfl) 12 (rgcL 12 rfl) h) mlX12_147 vsX12_lies rfl rfl (Nat.le_of_ble_eq_true rfl) (by decide) (by decide) rfl rfl hF (fun r4 m5 hr4 hm5 hF => ?_)
    refine x_if_eq (tgt := 45) hC dX12_read_17 rfl rfl (rg_01 hr4) hF (fun hq6 hF => ?_) (fun hq6 hF => ?_)
    · refine x_ldc2 (x := (-1)) hC dX12_read_45 rfl kwX12_389 ?_
      exact x_lreturn hC dX12_read_48 hm5 (rgcL (-1) rfl) hF
    · refine x_iload_n hC dX12_read_20 rfl 3 rfl ?_
      refine x_i2l hC dX12_read_21 rfl ha3 ?_
      refine x_ldc2 (x := (-1)) hC dX12_read_22 rfl kwX12_389 ?_
      refine x_iload_n hC dX12_read_25 rfl 2 rfl ?_
      refine x_iconst hC dX12_read_26 rfl ?_
      refine x_isub hC dX12_read_27 rfl ?_
      refine x_i2l hC dX12_read_28 rfl (rg_wr _) ?_
      refine x_callS3 (kc2 := 0) (ks2 := 0) (As := [lV a3, lV (-1), lV (wr (a2 - 1))]) (rest := []) hC dX12_read_29 rfl hm5 (fun _ _ h => T_X12_lies b _ m5 a3 (rg_RL ha3) (-1) (rgcL (-1) rfl) (wr (a2 - 1)) (rg_RL (rg_wr _)) h) mlX12_147 vsX12_lies rfl rfl (Nat.le_of_ble_eq_true rfl) (by decide) (by decide) rfl rfl hF (fun r7 m8 hr7 hm8 hF => ?_)
      refine x_if_eq (tgt := 45) hC dX12_read_32 rfl rfl (rg_01 hr7) hF (fun hq9 hF => ?_) (fun hq9 hF => ?_)
      · refine x_ldc2 (x := (-1)) hC dX12_read_45 rfl kwX12_389 ?_
        exact x_lreturn hC dX12_read_48 hm8 (rgcL (-1) rfl) hF
      · refine x_iconst hC dX12_read_35 rfl ?_
        refine x_iload_n hC dX12_read_36 rfl 2 rfl ?_
        refine x_imul hC dX12_read_37 rfl ?_
        refine x_aload_n hC dX12_read_38 rfl 0 rfl ?_
        refine x_getI hC dX12_read_39 rfl flX12_161 rfl (by decide) rfl rfl ?_
        refine x_icmp_le (tgt := 49) hC dX12_read_42 rfl rfl (rg_wr _) (hm8.i 54 1 rfl) hF (fun hq10 hF => ?_) (fun hq10 hF => ?_)
        · refine x_aload_n hC dX12_read_49 rfl 0 rfl ?_
          refine x_iconst hC dX12_read_50 rfl ?_
          refine x_putI hC dX12_read_51 rfl fpX12_161 rfl (by decide) (by decide) rfl rfl hm8 (rgc 0 rfl) rfl hF (fun m11 hm11 hF => ?_)
          refine x_iconst hC dX12_read_54 rfl ?_
          refine x_istoreZ (lv' := [(0, .ref (b.1 + 54)), (1, iV a1), (2, iV a2), (3, iV a3)]) hC dX12_read_55 rfl (by decide) rfl (Or.inl rfl) hF (fun x12 hx12 hF => ?_)
          refine x_sub [1, 2, 3, 4, 0] rfl ?_
          exact WL_X12_read_57 hC 100000  a1 ha1 a2 ha2 a3 ha3 x12 (rg_01 hx12) m11 hm11 hF
        · refine x_ldc2 (x := (-1)) hC dX12_read_45 rfl kwX12_389 ?_
          exact x_lreturn hC dX12_read_48 hm8 (rgcL (-1) rfl) hF
set_option maxRecDepth 20000 in
set_option maxHeartbeats 4000000 in
theorem WJ_X12_isMissed_98 {g : Gx} {b : Bs} {o : Mm} {Q : Int → Mm → Prop} {k_15 : Int → Int → Int → Int → Int → Int → Int → Int → Int → Mm → Rs} (hC : Cok g b RX12 cX12_isMissed 12 5 (some .boolean)) (hk_15 : ∀ v1 : Int, inR v1 → ∀ v2 : Int, inR v2 → ∀ v3 : Int, inR v3 → ∀ v4 : Int, inR v4 → ∀ v5 : Int, inR v5 → ∀ v6 : Int, inR v6 → ∀ v7 : Int, inR v7 → ∀ v8 : Int, inR v8 → ∀ v9 : Int, inR v9 → ∀ m : Mm, Rg m → okR (k_15 v1 v2 v3 v4 v5 v6 v7 v8 v9 m) Q → X g b (false, o) 12 (ZM g b (false, o) 3 Q) 15 [(0, .ref (b.1 + 54)), (1, iV v1), (2, iV v2), (3, iV v3), (4, iV v4), (5, iV v5), (6, iV v6), (7, iV v7), (8, iV v8), (9, iV v9)] [] m 0 0) (v1 : Int) (hv1 : inR v1) (v2 : Int) (hv2 : inR v2) (v3 : Int) (hv3 : inR v3) (v4 : Int) (hv4 : inR v4) (v5 : Int) (hv5 : inR v5) (v6 : Int) (hv6 : inR v6) (v7 : Int) (hv7 : inR v7) (v8 : Int) (hv8 : inR v8) (v9 : Int) (hv9 : inR v9) (v10 : Int) (hv10 : inR v10) (v11 : Int) (hv11 : inR v11) (m : Mm) (hm : Rg m) (hF : okR (J_X12_isMissed_98 k_15 v1 v2 v3 v4 v5 v6 v7 v8 v9 v10 v11 m) Q) : X g b (false, o) 12 (ZM g b (false, o) 3 Q) 98 [(0, .ref (b.1 + 54)), (1, iV v1), (2, iV v2), (3, iV v3), (4, iV v4), (5, iV v5), (6, iV v6), (7, iV v7), (8, iV v8), (9, iV v9), (10, iV v10), (11, iV v11)] [] m 0 0 := by
  unfold J_X12_isMissed_98 at hF
  refine x_aload_n hC dX12_isMissed_98 rfl 0 rfl ?_
  refine x_aload_n hC dX12_isMissed_99 rfl 0 rfl ?_
  refine x_getR (t := 81) hC dX12_isMissed_100 rfl flX12_100 rfl (by decide) rfl rfl ?_
  refine x_iload hC dX12_isMissed_103 rfl 9 rfl ?_
  refine x_iald hC dX12_isMissed_105 rfl rfl (by decide) rfl hm hv9 hF (fun x1 hx1 hF => ?_)
  refine x_aload_n hC dX12_isMissed_106 rfl 0 rfl ?_
  refine x_iload_n hC dX12_isMissed_107 rfl 1 rfl ?_
  refine x_iload hC dX12_isMissed_108 rfl 10 rfl ?_
  refine x_iload hC dX12_isMissed_110 rfl 11 rfl ?_
  refine x_iload hC dX12_isMissed_112 rfl 7 rfl ?_
  refine x_iload hC dX12_isMissed_114 rfl 8 rfl ?_
  refine x_aload_n hC dX12_isMissed_116 rfl 0 rfl ?_
  refine x_iload_n hC dX12_isMissed_117 rfl 1 rfl ?_
  refine x_iload hC dX12_isMissed_118 rfl 11 rfl ?_
  refine x_callV1 (kc2 := 0) (ks2 := 0) (k := 54) (As := [iV v1, iV v11]) (rest := [iV v8, iV v7, iV v11, iV v10, iV v1, .ref (b.1 + 54), iV x1, .ref (b.1 + 54)]) hC dX12_isMissed_120 rfl hm (fun _ _ h => T_X12_wayOf b _ m v1 hv1 v11 hv11 h) mlX12_340 vlX12_wayOf rfl (by decide) rfl rfl (Nat.le_of_ble_eq_true rfl) (by decide) (by decide) rfl rfl hF (fun r2 m3 hr2 hm3 hF => ?_)
  refine x_callV1 (kc2 := 0) (ks2 := 0) (k := 54) (As := [iV v1, iV v10, iV v11, iV v7, iV v8, iV r2]) (rest := [iV x1, .ref (b.1 + 54)]) hC dX12_isMissed_123 rfl hm3 (fun _ _ h => T_X12_means b _ m3 v1 hv1 v10 hv10 v11 hv11 v7 hv7 v8 hv8 r2 hr2 h) mlX12_360 vlX12_means rfl (by decide) rfl rfl (Nat.le_of_ble_eq_true rfl) (by decide) (by decide) rfl rfl hF (fun r4 m5 hr4 hm5 hF => ?_)
  refine x_callV3 (kc2 := 0) (ks2 := 0) (k := 54) (As := [iV x1, iV r4]) (rest := []) hC dX12_isMissed_126 rfl hm5 (fun _ _ h => T_X12_isAs b _ m5 x1 hx1 r4 hr4 h) mlX12_384 vlX12_isAs rfl (by decide) rfl rfl (Nat.le_of_ble_eq_true rfl) (by decide) (by decide) rfl rfl hF (fun r6 m7 hr6 hm7 hF => ?_)
  refine x_if_ne (tgt := 134) hC dX12_isMissed_129 rfl rfl (rg_01 hr6) hF (fun hq8 hF => ?_) (fun hq8 hF => ?_)
  · refine x_iload hC dX12_isMissed_134 rfl 11 rfl ?_
    refine x_istore (lv' := [(0, .ref (b.1 + 54)), (1, iV v1), (2, iV v2), (3, iV v3), (4, iV v4), (5, iV v5), (6, iV v6), (8, iV v8), (9, iV v9), (10, iV v10), (11, iV v11)]) hC dX12_isMissed_136 rfl (by decide) rfl hv11 hF (fun x9 hx9 hF => ?_)
    refine x_iload hC dX12_isMissed_138 rfl 10 rfl ?_
    refine x_istore (lv' := [(7, iV x9), (0, .ref (b.1 + 54)), (1, iV v1), (2, iV v2), (3, iV v3), (4, iV v4), (5, iV v5), (6, iV v6), (9, iV v9), (10, iV v10), (11, iV v11)]) hC dX12_isMissed_140 rfl (by decide) rfl hv10 hF (fun x10 hx10 hF => ?_)
    refine x_iinc (p := 9) (lv' := [(8, iV x10), (7, iV x9), (0, .ref (b.1 + 54)), (1, iV v1), (2, iV v2), (3, iV v3), (4, iV v4), (5, iV v5), (6, iV v6), (10, iV v10), (11, iV v11)]) hC dX12_isMissed_142 rfl rfl (by decide) rfl hF (fun x11 hx11 hF => ?_)
    refine x_goto (tgt := 15) hC dX12_isMissed_145 rfl ?_
    refine x_sub [3, 4, 5, 6, 7, 8, 9, 2, 1, 0] rfl ?_
    exact hk_15 v1 hv1 v2 hv2 v3 hv3 v4 hv4 v5 hv5 v6 hv6 x9 hx9 x10 hx10 x11 hx11 m7 hm7 hF
  · refine x_iconst hC dX12_isMissed_132 rfl ?_
    exact x_zreturn hC dX12_isMissed_133 hm7 (Or.inl rfl) hF
set_option maxRecDepth 20000 in
set_option maxHeartbeats 4000000 in
theorem WJ_X12_isMissed_83 {g : Gx} {b : Bs} {o : Mm} {Q : Int → Mm → Prop} {k_15 : Int → Int → Int → Int → Int → Int → Int → Int → Int → Mm → Rs} (hC : Cok g b RX12 cX12_isMissed 12 5 (some .boolean)) (hk_15 : ∀ v1 : Int, inR v1 → ∀ v2 : Int, inR v2 → ∀ v3 : Int, inR v3 → ∀ v4 : Int, inR v4 → ∀ v5 : Int, inR v5 → ∀ v6 : Int, inR v6 → ∀ v7 : Int, inR v7 → ∀ v8 : Int, inR v8 → ∀ v9 : Int, inR v9 → ∀ m : Mm, Rg m → okR (k_15 v1 v2 v3 v4 v5 v6 v7 v8 v9 m) Q → X g b (false, o) 12 (ZM g b (false, o) 3 Q) 15 [(0, .ref (b.1 + 54)), (1, iV v1), (2, iV v2), (3, iV v3), (4, iV v4), (5, iV v5), (6, iV v6), (7, iV v7), (8, iV v8), (9, iV v9)] [] m 0 0) (v1 : Int) (hv1 : inR v1) (v2 : Int) (hv2 : inR v2) (v3 : Int) (hv3 : inR v3) (v4 : Int) (hv4 : inR v4) (v5 : Int) (hv5 : inR v5) (v6 : Int) (hv6 : inR v6) (v7 : Int) (hv7 : inR v7) (v8 : Int) (hv8 : inR v8) (v9 : Int) (hv9 : inR v9) (v10 : Int) (hv10 : inR v10) (m : Mm) (hm : Rg m) (hF : okR (J_X12_isMissed_83 k_15 v1 v2 v3 v4 v5 v6 v7 v8 v9 v10 m) Q) : X g b (false, o) 12 (ZM g b (false, o) 3 Q) 83 [(0, .ref (b.1 + 54)), (1, iV v1), (2, iV v2), (3, iV v3), (4, iV v4), (5, iV v5), (6, iV v6), (7, iV v7), (8, iV v8), (9, iV v9), (10, iV v10)] [] m 0 0 := by
  unfold J_X12_isMissed_83 at hF
  refine x_iload hC dX12_isMissed_83 rfl 9 rfl ?_
  refine x_iload hC dX12_isMissed_85 rfl 4 rfl ?_
  refine x_icmp_ne (tgt := 95) hC dX12_isMissed_87 rfl rfl hv9 hv4 hF (fun hq1 hF => ?_) (fun hq1 hF => ?_)
  · refine x_iload_n hC dX12_isMissed_95 rfl 2 rfl ?_
    refine x_istore (lv' := [(0, .ref (b.1 + 54)), (1, iV v1), (2, iV v2), (3, iV v3), (4, iV v4), (5, iV v5), (6, iV v6), (7, iV v7), (8, iV v8), (9, iV v9), (10, iV v10)]) hC dX12_isMissed_96 rfl (by decide) rfl hv2 hF (fun x2 hx2 hF => ?_)
    refine x_sub [1, 2, 3, 4, 5, 6, 7, 8, 9, 10, 11, 0] rfl ?_
    exact WJ_X12_isMissed_98 hC hk_15  v1 hv1 v2 hv2 v3 hv3 v4 hv4 v5 hv5 v6 hv6 v7 hv7 v8 hv8 v9 hv9 v10 hv10 x2 hx2 m hm hF
  · refine x_iload hC dX12_isMissed_90 rfl 6 rfl ?_
    refine x_goto (tgt := 96) hC dX12_isMissed_92 rfl ?_
    refine x_istore (lv' := [(0, .ref (b.1 + 54)), (1, iV v1), (2, iV v2), (3, iV v3), (4, iV v4), (5, iV v5), (6, iV v6), (7, iV v7), (8, iV v8), (9, iV v9), (10, iV v10)]) hC dX12_isMissed_96 rfl (by decide) rfl hv6 hF (fun x3 hx3 hF => ?_)
    refine x_sub [1, 2, 3, 4, 5, 6, 7, 8, 9, 10, 11, 0] rfl ?_
    exact WJ_X12_isMissed_98 hC hk_15  v1 hv1 v2 hv2 v3 hv3 v4 hv4 v5 hv5 v6 hv6 v7 hv7 v8 hv8 v9 hv9 v10 hv10 x3 hx3 m hm hF
set_option maxRecDepth 20000 in
set_option maxHeartbeats 4000000 in
theorem WL_X12_isMissed_15 {g : Gx} {b : Bs} {o : Mm} {Q : Int → Mm → Prop} (hC : Cok g b RX12 cX12_isMissed 12 5 (some .boolean)) : ∀ n : Nat, ∀ v1 : Int, inR v1 → ∀ v2 : Int, inR v2 → ∀ v3 : Int, inR v3 → ∀ v4 : Int, inR v4 → ∀ v5 : Int, inR v5 → ∀ v6 : Int, inR v6 → ∀ v7 : Int, inR v7 → ∀ v8 : Int, inR v8 → ∀ v9 : Int, inR v9 → ∀ m : Mm, Rg m → okR (L_X12_isMissed_15 n v1 v2 v3 v4 v5 v6 v7 v8 v9 m) Q → X g b (false, o) 12 (ZM g b (false, o) 3 Q) 15 [(0, .ref (b.1 + 54)), (1, iV v1), (2, iV v2), (3, iV v3), (4, iV v4), (5, iV v5), (6, iV v6), (7, iV v7), (8, iV v8), (9, iV v9)] [] m 0 0 := by
  intro n
  induction n with
  | zero => intro v1 hv1 v2 hv2 v3 hv3 v4 hv4 v5 hv5 v6 hv6 v7 hv7 v8 hv8 v9 hv9 m hm hF; exact absurd hF (fun z => z)
  | succ n ih =>
    intro v1 hv1 v2 hv2 v3 hv3 v4 hv4 v5 hv5 v6 hv6 v7 hv7 v8 hv8 v9 hv9 m hm hF
    have hF : okR (LB_X12_isMissed_15 (L_X12_isMissed_15 n) v1 v2 v3 v4 v5 v6 v7 v8 v9 m) Q := hF
    unfold LB_X12_isMissed_15 at hF
    refine x_iload hC dX12_isMissed_15 rfl 9 rfl ?_
    refine x_iload_n hC dX12_isMissed_17 rfl 3 rfl ?_
    refine x_icmp_gt (tgt := 148) hC dX12_isMissed_18 rfl rfl hv9 hv3 hF (fun hq1 hF => ?_) (fun hq1 hF => ?_)
    · refine x_iconst hC dX12_isMissed_148 rfl ?_
      exact x_zreturn hC dX12_isMissed_149 hm (Or.inr rfl) hF
    · refine x_iload hC dX12_isMissed_21 rfl 9 rfl ?_
      refine x_iload hC dX12_isMissed_23 rfl 4 rfl ?_
      refine x_icmp_ge (tgt := 38) hC dX12_isMissed_25 rfl rfl hv9 hv4 hF (fun hq2 hF => ?_) (fun hq2 hF => ?_)
      · refine x_iload hC dX12_isMissed_38 rfl 9 rfl ?_
        refine x_iload hC dX12_isMissed_40 rfl 4 rfl ?_
        refine x_icmp_ne (tgt := 50) hC dX12_isMissed_42 rfl rfl hv9 hv4 hF (fun hq3 hF => ?_) (fun hq3 hF => ?_)
        · refine x_iload hC dX12_isMissed_50 rfl 9 rfl ?_
          refine x_iload hC dX12_isMissed_52 rfl 4 rfl ?_
          refine x_iconst hC dX12_isMissed_54 rfl ?_
          refine x_iadd hC dX12_isMissed_55 rfl ?_
          refine x_icmp_ne (tgt := 72) hC dX12_isMissed_56 rfl rfl hv9 (rg_wr _) hF (fun hq4 hF => ?_) (fun hq4 hF => ?_)
          · refine x_aload_n hC dX12_isMissed_72 rfl 0 rfl ?_
            refine x_getR (t := 80) hC dX12_isMissed_73 rfl flX12_97 rfl (by decide) rfl rfl ?_
            refine x_iload hC dX12_isMissed_76 rfl 9 rfl ?_
            refine x_iconst hC dX12_isMissed_78 rfl ?_
            refine x_isub hC dX12_isMissed_79 rfl ?_
            refine x_iald hC dX12_isMissed_80 rfl rfl (by decide) rfl hm (rg_wr _) hF (fun x5 hx5 hF => ?_)
            refine x_istore (lv' := [(0, .ref (b.1 + 54)), (1, iV v1), (2, iV v2), (3, iV v3), (4, iV v4), (5, iV v5), (6, iV v6), (7, iV v7), (8, iV v8), (9, iV v9)]) hC dX12_isMissed_81 rfl (by decide) rfl hx5 hF (fun x6 hx6 hF => ?_)
            refine x_sub [1, 2, 3, 4, 5, 6, 7, 8, 9, 10, 0] rfl ?_
            exact WJ_X12_isMissed_83 hC ih  v1 hv1 v2 hv2 v3 hv3 v4 hv4 v5 hv5 v6 hv6 v7 hv7 v8 hv8 v9 hv9 x6 hx6 m hm hF
          · refine x_aload_n hC dX12_isMissed_59 rfl 0 rfl ?_
            refine x_getR (t := 80) hC dX12_isMissed_60 rfl flX12_97 rfl (by decide) rfl rfl ?_
            refine x_iload hC dX12_isMissed_63 rfl 4 rfl ?_
            refine x_iald hC dX12_isMissed_65 rfl rfl (by decide) rfl hm hv4 hF (fun x7 hx7 hF => ?_)
            refine x_iload hC dX12_isMissed_66 rfl 5 rfl ?_
            refine x_isub hC dX12_isMissed_68 rfl ?_
            refine x_goto (tgt := 81) hC dX12_isMissed_69 rfl ?_
            refine x_istore (lv' := [(0, .ref (b.1 + 54)), (1, iV v1), (2, iV v2), (3, iV v3), (4, iV v4), (5, iV v5), (6, iV v6), (7, iV v7), (8, iV v8), (9, iV v9)]) hC dX12_isMissed_81 rfl (by decide) rfl (rg_wr _) hF (fun x8 hx8 hF => ?_)
            refine x_sub [1, 2, 3, 4, 5, 6, 7, 8, 9, 10, 0] rfl ?_
            exact WJ_X12_isMissed_83 hC ih  v1 hv1 v2 hv2 v3 hv3 v4 hv4 v5 hv5 v6 hv6 v7 hv7 v8 hv8 v9 hv9 x8 hx8 m hm hF
        · refine x_iload hC dX12_isMissed_45 rfl 5 rfl ?_
          refine x_goto (tgt := 81) hC dX12_isMissed_47 rfl ?_
          refine x_istore (lv' := [(0, .ref (b.1 + 54)), (1, iV v1), (2, iV v2), (3, iV v3), (4, iV v4), (5, iV v5), (6, iV v6), (7, iV v7), (8, iV v8), (9, iV v9)]) hC dX12_isMissed_81 rfl (by decide) rfl hv5 hF (fun x9 hx9 hF => ?_)
          refine x_sub [1, 2, 3, 4, 5, 6, 7, 8, 9, 10, 0] rfl ?_
          exact WJ_X12_isMissed_83 hC ih  v1 hv1 v2 hv2 v3 hv3 v4 hv4 v5 hv5 v6 hv6 v7 hv7 v8 hv8 v9 hv9 x9 hx9 m hm hF
      · refine x_aload_n hC dX12_isMissed_28 rfl 0 rfl ?_
        refine x_getR (t := 80) hC dX12_isMissed_29 rfl flX12_97 rfl (by decide) rfl rfl ?_
        refine x_iload hC dX12_isMissed_32 rfl 9 rfl ?_
        refine x_iald hC dX12_isMissed_34 rfl rfl (by decide) rfl hm hv9 hF (fun x10 hx10 hF => ?_)
        refine x_goto (tgt := 81) hC dX12_isMissed_35 rfl ?_
        refine x_istore (lv' := [(0, .ref (b.1 + 54)), (1, iV v1), (2, iV v2), (3, iV v3), (4, iV v4), (5, iV v5), (6, iV v6), (7, iV v7), (8, iV v8), (9, iV v9)]) hC dX12_isMissed_81 rfl (by decide) rfl hx10 hF (fun x11 hx11 hF => ?_)
        refine x_sub [1, 2, 3, 4, 5, 6, 7, 8, 9, 10, 0] rfl ?_
        exact WJ_X12_isMissed_83 hC ih  v1 hv1 v2 hv2 v3 hv3 v4 hv4 v5 hv5 v6 hv6 v7 hv7 v8 hv8 v9 hv9 x11 hx11 m hm hF
set_option maxRecDepth 20000 in
set_option maxHeartbeats 4000000 in
theorem T_X12_isMissed (b : Bs) (o : Mm) (m : Mm) (a1 : Int) (ha1 : inR a1) (a2 : Int) (ha2 : inR a2) (a3 : Int) (ha3 : inR a3) (a4 : Int) (ha4 : inR a4) (a5 : Int) (ha5 : inR a5) (a6 : Int) (ha6 : inR a6) {r : Int} {m' : Mm} (h : F_X12_isMissed a1 a2 a3 a4 a5 a6 m = some (r, m')) : Cn yX12_isMissed cX12_isMissed 12 (some .boolean) (5) 0 0 3 b (false, o) m [.ref (b.1 + 54), iV a1, iV a2, iV a3, iV a4, iV a5, iV a6] (F_X12_isMissed a1 a2 a3 a4 a5 a6 m) := by
  refine Cn_of rfl (Nat.le_of_ble_eq_true rfl) (fun g hC hm => ?_)
  have hF := okR_some h
  generalize hQ : (fun (r : Int) (m' : Mm) => F_X12_isMissed a1 a2 a3 a4 a5 a6 m = some (r, m')) = Q at hF ⊢
  clear hQ h
  replace hC : Cok g b RX12 cX12_isMissed 12 5 (some .boolean) := hC
  refine x_lv (lv' := [(0, .ref (b.1 + 54)), (1, iV a1), (2, iV a2), (3, iV a3), (4, iV a4), (5, iV a5), (6, iV a6)]) rfl ?_
  unfold F_X12_isMissed at hF
  refine x_aload_n hC dX12_isMissed_0 rfl 0 rfl ?_
  refine x_getI hC dX12_isMissed_1 rfl flX12_378 rfl (by decide) rfl rfl ?_
  refine x_istore (lv' := [(0, .ref (b.1 + 54)), (1, iV a1), (2, iV a2), (3, iV a3), (4, iV a4), (5, iV a5), (6, iV a6)]) hC dX12_isMissed_4 rfl (by decide) rfl (hm.i 54 55 rfl) hF (fun x1 hx1 hF => ?_)
  refine x_aload_n hC dX12_isMissed_6 rfl 1 rfl ?_
  refine x_getI hC dX12_isMissed_7 rfl flX12_381 rfl (by decide) rfl rfl ?_
  refine x_istore (lv' := [(7, iV x1), (0, .ref (b.1 + 54)), (1, iV a1), (2, iV a2), (3, iV a3), (4, iV a4), (5, iV a5), (6, iV a6)]) hC dX12_isMissed_10 rfl (by decide) rfl (hm.i 54 56 rfl) hF (fun x2 hx2 hF => ?_)
  refine x_iconst hC dX12_isMissed_12 rfl ?_
  refine x_istoreZ (lv' := [(8, iV x2), (7, iV x1), (0, .ref (b.1 + 54)), (1, iV a1), (2, iV a2), (3, iV a3), (4, iV a4), (5, iV a5), (6, iV a6)]) hC dX12_isMissed_13 rfl (by decide) rfl (Or.inl rfl) hF (fun x3 hx3 hF => ?_)
  refine x_sub [3, 4, 5, 6, 7, 8, 9, 2, 1, 0] rfl ?_
  exact WL_X12_isMissed_15 hC 100000  a1 ha1 a2 ha2 a3 ha3 a4 ha4 a5 ha5 a6 ha6 x1 hx1 x2 hx2 x3 (rg_01 hx3) m hm hF
set_option maxRecDepth 20000 in
set_option maxHeartbeats 4000000 in
theorem WJ_X12_missed_311 {g : Gx} {b : Bs} {o : Mm} {Q : Int → Mm → Prop} {k_216 : Int → Int → Int → Int → Int → Int → Int → Mm → Rs} {k_225 : Int → Int → Int → Int → Int → Int → Int → Int → Mm → Rs} {k_240 : Int → Int → Int → Int → Int → Int → Int → Int → Int → Mm → Rs} (hC : Cok g b RX12 cX12_missed 10 6 (some .int)) (hk_216 : ∀ v1 : Int, inR v1 → ∀ v2 : Int, inR v2 → ∀ v3 : Int, inR v3 → ∀ v4 : Int, inR v4 → ∀ v5 : Int, inR v5 → ∀ v6 : Int, inR v6 → ∀ v7 : Int, inR v7 → ∀ m : Mm, Rg m → okR (k_216 v1 v2 v3 v4 v5 v6 v7 m) Q → X g b (false, o) 10 (ZM g b (false, o) 1 Q) 216 [(0, .ref (b.1 + 54)), (1, iV v1), (2, iV v2), (3, iV v3), (4, iV v4), (5, iV v5), (6, iV v6), (7, iV v7)] [] m 0 0) (hk_225 : ∀ v1 : Int, inR v1 → ∀ v2 : Int, inR v2 → ∀ v3 : Int, inR v3 → ∀ v4 : Int, inR v4 → ∀ v5 : Int, inR v5 → ∀ v6 : Int, inR v6 → ∀ v7 : Int, inR v7 → ∀ v8 : Int, inR v8 → ∀ m : Mm, Rg m → okR (k_225 v1 v2 v3 v4 v5 v6 v7 v8 m) Q → X g b (false, o) 10 (ZM g b (false, o) 1 Q) 225 [(0, .ref (b.1 + 54)), (1, iV v1), (2, iV v2), (3, iV v3), (4, iV v4), (5, iV v5), (6, iV v6), (7, iV v7), (8, iV v8)] [] m 0 0) (hk_240 : ∀ v1 : Int, inR v1 → ∀ v2 : Int, inR v2 → ∀ v3 : Int, inR v3 → ∀ v4 : Int, inR v4 → ∀ v5 : Int, inR v5 → ∀ v6 : Int, inR v6 → ∀ v7 : Int, inR v7 → ∀ v8 : Int, inR v8 → ∀ v9 : Int, inR v9 → ∀ m : Mm, Rg m → okR (k_240 v1 v2 v3 v4 v5 v6 v7 v8 v9 m) Q → X g b (false, o) 10 (ZM g b (false, o) 1 Q) 240 [(0, .ref (b.1 + 54)), (1, iV v1), (2, iV v2), (3, iV v3), (4, iV v4), (5, iV v5), (6, iV v6), (7, iV v7), (8, iV v8), (9, iV v9)] [] m 0 0) (v1 : Int) (hv1 : inR v1) (v2 : Int) (hv2 : inR v2) (v3 : Int) (hv3 : inR v3) (v4 : Int) (hv4 : inR v4) (v5 : Int) (hv5 : inR v5) (v6 : Int) (hv6 : inR v6) (v7 : Int) (hv7 : inR v7) (v8 : Int) (hv8 : inR v8) (v9 : Int) (hv9 : inR v9) (m : Mm) (hm : Rg m) (hF : okR (J_X12_missed_311 k_216 k_225 k_240 v1 v2 v3 v4 v5 v6 v7 v8 v9 m) Q) : X g b (false, o) 10 (ZM g b (false, o) 1 Q) 311 [(0, .ref (b.1 + 54)), (1, iV v1), (2, iV v2), (3, iV v3), (4, iV v4), (5, iV v5), (6, iV v6), (7, iV v7), (8, iV v8), (9, iV v9)] [] m 0 0 := by
  unfold J_X12_missed_311 at hF
  refine x_iinc (p := 9) (lv' := [(0, .ref (b.1 + 54)), (1, iV v1), (2, iV v2), (3, iV v3), (4, iV v4), (5, iV v5), (6, iV v6), (7, iV v7), (8, iV v8)]) hC dX12_missed_311 rfl rfl (by decide) rfl hF (fun x1 hx1 hF => ?_)
  refine x_goto (tgt := 240) hC dX12_missed_314 rfl ?_
  refine x_sub [1, 2, 3, 4, 5, 6, 7, 8, 9, 0] rfl ?_
  exact hk_240 v1 hv1 v2 hv2 v3 hv3 v4 hv4 v5 hv5 v6 hv6 v7 hv7 v8 hv8 x1 hx1 m hm hF
set_option maxRecDepth 20000 in
set_option maxHeartbeats 4000000 in
theorem WJ_X12_missed_308 {g : Gx} {b : Bs} {o : Mm} {Q : Int → Mm → Prop} {k_216 : Int → Int → Int → Int → Int → Int → Int → Mm → Rs} {k_225 : Int → Int → Int → Int → Int → Int → Int → Int → Mm → Rs} {k_240 : Int → Int → Int → Int → Int → Int → Int → Int → Int → Mm → Rs} (hC : Cok g b RX12 cX12_missed 10 6 (some .int)) (hk_216 : ∀ v1 : Int, inR v1 → ∀ v2 : Int, inR v2 → ∀ v3 : Int, inR v3 → ∀ v4 : Int, inR v4 → ∀ v5 : Int, inR v5 → ∀ v6 : Int, inR v6 → ∀ v7 : Int, inR v7 → ∀ m : Mm, Rg m → okR (k_216 v1 v2 v3 v4 v5 v6 v7 m) Q → X g b (false, o) 10 (ZM g b (false, o) 1 Q) 216 [(0, .ref (b.1 + 54)), (1, iV v1), (2, iV v2), (3, iV v3), (4, iV v4), (5, iV v5), (6, iV v6), (7, iV v7)] [] m 0 0) (hk_225 : ∀ v1 : Int, inR v1 → ∀ v2 : Int, inR v2 → ∀ v3 : Int, inR v3 → ∀ v4 : Int, inR v4 → ∀ v5 : Int, inR v5 → ∀ v6 : Int, inR v6 → ∀ v7 : Int, inR v7 → ∀ v8 : Int, inR v8 → ∀ m : Mm, Rg m → okR (k_225 v1 v2 v3 v4 v5 v6 v7 v8 m) Q → X g b (false, o) 10 (ZM g b (false, o) 1 Q) 225 [(0, .ref (b.1 + 54)), (1, iV v1), (2, iV v2), (3, iV v3), (4, iV v4), (5, iV v5), (6, iV v6), (7, iV v7), (8, iV v8)] [] m 0 0) (hk_240 : ∀ v1 : Int, inR v1 → ∀ v2 : Int, inR v2 → ∀ v3 : Int, inR v3 → ∀ v4 : Int, inR v4 → ∀ v5 : Int, inR v5 → ∀ v6 : Int, inR v6 → ∀ v7 : Int, inR v7 → ∀ v8 : Int, inR v8 → ∀ v9 : Int, inR v9 → ∀ m : Mm, Rg m → okR (k_240 v1 v2 v3 v4 v5 v6 v7 v8 v9 m) Q → X g b (false, o) 10 (ZM g b (false, o) 1 Q) 240 [(0, .ref (b.1 + 54)), (1, iV v1), (2, iV v2), (3, iV v3), (4, iV v4), (5, iV v5), (6, iV v6), (7, iV v7), (8, iV v8), (9, iV v9)] [] m 0 0) (v1 : Int) (hv1 : inR v1) (v2 : Int) (hv2 : inR v2) (v3 : Int) (hv3 : inR v3) (v4 : Int) (hv4 : inR v4) (v5 : Int) (hv5 : inR v5) (v6 : Int) (hv6 : inR v6) (v7 : Int) (hv7 : inR v7) (v8 : Int) (hv8 : inR v8) (v9 : Int) (hv9 : inR v9) (m : Mm) (hm : Rg m) (hF : okR (J_X12_missed_308 k_216 k_225 k_240 v1 v2 v3 v4 v5 v6 v7 v8 v9 m) Q) : X g b (false, o) 10 (ZM g b (false, o) 1 Q) 308 [(0, .ref (b.1 + 54)), (1, iV v1), (2, iV v2), (3, iV v3), (4, iV v4), (5, iV v5), (6, iV v6), (7, iV v7), (8, iV v8), (9, iV v9)] [] m 0 0 := by
  unfold J_X12_missed_308 at hF
  refine x_iinc (p := 5) (lv' := [(0, .ref (b.1 + 54)), (1, iV v1), (2, iV v2), (3, iV v3), (4, iV v4), (6, iV v6), (7, iV v7), (8, iV v8), (9, iV v9)]) hC dX12_missed_308 rfl rfl (by decide) rfl hF (fun x1 hx1 hF => ?_)
  refine x_sub [1, 2, 3, 4, 5, 0, 6, 7, 8, 9] rfl ?_
  exact WJ_X12_missed_311 hC hk_216 hk_225 hk_240  v1 hv1 v2 hv2 v3 hv3 v4 hv4 x1 hx1 v6 hv6 v7 hv7 v8 hv8 v9 hv9 m hm hF
set_option maxRecDepth 20000 in
set_option maxHeartbeats 4000000 in
theorem WL_X12_missed_240 {g : Gx} {b : Bs} {o : Mm} {Q : Int → Mm → Prop} {k_216 : Int → Int → Int → Int → Int → Int → Int → Mm → Rs} {k_225 : Int → Int → Int → Int → Int → Int → Int → Int → Mm → Rs} (hC : Cok g b RX12 cX12_missed 10 6 (some .int)) (hk_216 : ∀ v1 : Int, inR v1 → ∀ v2 : Int, inR v2 → ∀ v3 : Int, inR v3 → ∀ v4 : Int, inR v4 → ∀ v5 : Int, inR v5 → ∀ v6 : Int, inR v6 → ∀ v7 : Int, inR v7 → ∀ m : Mm, Rg m → okR (k_216 v1 v2 v3 v4 v5 v6 v7 m) Q → X g b (false, o) 10 (ZM g b (false, o) 1 Q) 216 [(0, .ref (b.1 + 54)), (1, iV v1), (2, iV v2), (3, iV v3), (4, iV v4), (5, iV v5), (6, iV v6), (7, iV v7)] [] m 0 0) (hk_225 : ∀ v1 : Int, inR v1 → ∀ v2 : Int, inR v2 → ∀ v3 : Int, inR v3 → ∀ v4 : Int, inR v4 → ∀ v5 : Int, inR v5 → ∀ v6 : Int, inR v6 → ∀ v7 : Int, inR v7 → ∀ v8 : Int, inR v8 → ∀ m : Mm, Rg m → okR (k_225 v1 v2 v3 v4 v5 v6 v7 v8 m) Q → X g b (false, o) 10 (ZM g b (false, o) 1 Q) 225 [(0, .ref (b.1 + 54)), (1, iV v1), (2, iV v2), (3, iV v3), (4, iV v4), (5, iV v5), (6, iV v6), (7, iV v7), (8, iV v8)] [] m 0 0) : ∀ n : Nat, ∀ v1 : Int, inR v1 → ∀ v2 : Int, inR v2 → ∀ v3 : Int, inR v3 → ∀ v4 : Int, inR v4 → ∀ v5 : Int, inR v5 → ∀ v6 : Int, inR v6 → ∀ v7 : Int, inR v7 → ∀ v8 : Int, inR v8 → ∀ v9 : Int, inR v9 → ∀ m : Mm, Rg m → okR (L_X12_missed_240 k_216 k_225 n v1 v2 v3 v4 v5 v6 v7 v8 v9 m) Q → X g b (false, o) 10 (ZM g b (false, o) 1 Q) 240 [(0, .ref (b.1 + 54)), (1, iV v1), (2, iV v2), (3, iV v3), (4, iV v4), (5, iV v5), (6, iV v6), (7, iV v7), (8, iV v8), (9, iV v9)] [] m 0 0 := by
  intro n
  induction n with
  | zero => intro v1 hv1 v2 hv2 v3 hv3 v4 hv4 v5 hv5 v6 hv6 v7 hv7 v8 hv8 v9 hv9 m hm hF; exact absurd hF (fun z => z)
  | succ n ih =>
    intro v1 hv1 v2 hv2 v3 hv3 v4 hv4 v5 hv5 v6 hv6 v7 hv7 v8 hv8 v9 hv9 m hm hF
    have hF : okR (LB_X12_missed_240 k_216 k_225 (L_X12_missed_240 k_216 k_225 n) v1 v2 v3 v4 v5 v6 v7 v8 v9 m) Q := hF
    unfold LB_X12_missed_240 at hF
    refine x_iload hC dX12_missed_240 rfl 9 rfl ?_
    refine x_aload_n hC dX12_missed_242 rfl 0 rfl ?_
    refine x_getI hC dX12_missed_243 rfl flX12_144 rfl (by decide) rfl rfl ?_
    refine x_icmp_ge (tgt := 317) hC dX12_missed_246 rfl rfl hv9 (hm.i 54 2 rfl) hF (fun hq1 hF => ?_) (fun hq1 hF => ?_)
    · refine x_iinc (p := 8) (lv' := [(0, .ref (b.1 + 54)), (1, iV v1), (2, iV v2), (3, iV v3), (4, iV v4), (5, iV v5), (6, iV v6), (7, iV v7), (9, iV v9)]) hC dX12_missed_317 rfl rfl (by decide) rfl hF (fun x2 hx2 hF => ?_)
      refine x_goto (tgt := 225) hC dX12_missed_320 rfl ?_
      refine x_sub [1, 2, 3, 4, 5, 6, 7, 8, 0] rfl ?_
      exact hk_225 v1 hv1 v2 hv2 v3 hv3 v4 hv4 v5 hv5 v6 hv6 v7 hv7 x2 hx2 m hm hF
    · refine x_aload_n hC dX12_missed_249 rfl 0 rfl ?_
      refine x_iload_n hC dX12_missed_250 rfl 1 rfl ?_
      refine x_iload hC dX12_missed_251 rfl 9 rfl ?_
      refine x_callV3 (kc2 := 0) (ks2 := 0) (k := 54) (As := [iV v1, iV v9]) (rest := []) hC dX12_missed_253 rfl hm (fun _ _ h => T_X12_isNear b _ m v1 hv1 v9 hv9 h) mlX12_350 vlX12_isNear rfl (by decide) rfl rfl (Nat.le_of_ble_eq_true rfl) (by decide) (by decide) rfl rfl hF (fun r3 m4 hr3 hm4 hF => ?_)
      refine x_if_eq (tgt := 311) hC dX12_missed_256 rfl rfl (rg_01 hr3) hF (fun hq5 hF => ?_) (fun hq5 hF => ?_)
      · exact WJ_X12_missed_311 hC hk_216 hk_225 ih  v1 hv1 v2 hv2 v3 hv3 v4 hv4 v5 hv5 v6 hv6 v7 hv7 v8 hv8 v9 hv9 m4 hm4 hF
      · refine x_aload_n hC dX12_missed_259 rfl 0 rfl ?_
        refine x_iload_n hC dX12_missed_260 rfl 1 rfl ?_
        refine x_iload_n hC dX12_missed_261 rfl 2 rfl ?_
        refine x_iload_n hC dX12_missed_262 rfl 3 rfl ?_
        refine x_iload hC dX12_missed_263 rfl 7 rfl ?_
        refine x_iload hC dX12_missed_265 rfl 8 rfl ?_
        refine x_iload hC dX12_missed_267 rfl 9 rfl ?_
        refine x_callV3 (kc2 := 0) (ks2 := 0) (k := 54) (As := [iV v1, iV v2, iV v3, iV v7, iV v8, iV v9]) (rest := []) hC dX12_missed_269 rfl hm4 (fun _ _ h => T_X12_isMissed b _ m4 v1 hv1 v2 hv2 v3 hv3 v7 hv7 v8 hv8 v9 hv9 h) mlX12_404 vlX12_isMissed rfl (by decide) rfl rfl (Nat.le_of_ble_eq_true rfl) (by decide) (by decide) rfl rfl hF (fun r6 m7 hr6 hm7 hF => ?_)
        refine x_if_ne (tgt := 278) hC dX12_missed_272 rfl rfl (rg_01 hr6) hF (fun hq8 hF => ?_) (fun hq8 hF => ?_)
        · refine x_iload hC dX12_missed_278 rfl 5 rfl ?_
          refine x_if_ne (tgt := 308) hC dX12_missed_280 rfl rfl hv5 hF (fun hq9 hF => ?_) (fun hq9 hF => ?_)
          · exact WJ_X12_missed_308 hC hk_216 hk_225 ih  v1 hv1 v2 hv2 v3 hv3 v4 hv4 v5 hv5 v6 hv6 v7 hv7 v8 hv8 v9 hv9 m7 hm7 hF
          · refine x_iload hC dX12_missed_283 rfl 4 rfl ?_
            refine x_if_ne (tgt := 293) hC dX12_missed_285 rfl rfl hv4 hF (fun hq10 hF => ?_) (fun hq10 hF => ?_)
            · refine x_iload hC dX12_missed_293 rfl 4 rfl ?_
              refine x_iconst hC dX12_missed_295 rfl ?_
              refine x_icmp_ne (tgt := 304) hC dX12_missed_296 rfl rfl hv4 (rgc 1 rfl) hF (fun hq11 hF => ?_) (fun hq11 hF => ?_)
              · refine x_iload hC dX12_missed_304 rfl 9 rfl ?_
                refine x_istore (lv' := [(0, .ref (b.1 + 54)), (1, iV v1), (2, iV v2), (3, iV v3), (4, iV v4), (5, iV v5), (7, iV v7), (8, iV v8), (9, iV v9)]) hC dX12_missed_306 rfl (by decide) rfl hv9 hF (fun x12 hx12 hF => ?_)
                refine x_sub [1, 2, 3, 4, 5, 6, 0, 7, 8, 9] rfl ?_
                exact WJ_X12_missed_308 hC hk_216 hk_225 ih  v1 hv1 v2 hv2 v3 hv3 v4 hv4 v5 hv5 x12 hx12 v7 hv7 v8 hv8 v9 hv9 m7 hm7 hF
              · refine x_iload hC dX12_missed_299 rfl 8 rfl ?_
                refine x_goto (tgt := 306) hC dX12_missed_301 rfl ?_
                refine x_istore (lv' := [(0, .ref (b.1 + 54)), (1, iV v1), (2, iV v2), (3, iV v3), (4, iV v4), (5, iV v5), (7, iV v7), (8, iV v8), (9, iV v9)]) hC dX12_missed_306 rfl (by decide) rfl hv8 hF (fun x13 hx13 hF => ?_)
                refine x_sub [1, 2, 3, 4, 5, 6, 0, 7, 8, 9] rfl ?_
                exact WJ_X12_missed_308 hC hk_216 hk_225 ih  v1 hv1 v2 hv2 v3 hv3 v4 hv4 v5 hv5 x13 hx13 v7 hv7 v8 hv8 v9 hv9 m7 hm7 hF
            · refine x_iload hC dX12_missed_288 rfl 7 rfl ?_
              refine x_goto (tgt := 306) hC dX12_missed_290 rfl ?_
              refine x_istore (lv' := [(0, .ref (b.1 + 54)), (1, iV v1), (2, iV v2), (3, iV v3), (4, iV v4), (5, iV v5), (7, iV v7), (8, iV v8), (9, iV v9)]) hC dX12_missed_306 rfl (by decide) rfl hv7 hF (fun x14 hx14 hF => ?_)
              refine x_sub [1, 2, 3, 4, 5, 6, 0, 7, 8, 9] rfl ?_
              exact WJ_X12_missed_308 hC hk_216 hk_225 ih  v1 hv1 v2 hv2 v3 hv3 v4 hv4 v5 hv5 x14 hx14 v7 hv7 v8 hv8 v9 hv9 m7 hm7 hF
        · refine x_goto (tgt := 311) hC dX12_missed_275 rfl ?_
          exact WJ_X12_missed_311 hC hk_216 hk_225 ih  v1 hv1 v2 hv2 v3 hv3 v4 hv4 v5 hv5 v6 hv6 v7 hv7 v8 hv8 v9 hv9 m7 hm7 hF
set_option maxRecDepth 20000 in
set_option maxHeartbeats 4000000 in
theorem WL_X12_missed_225 {g : Gx} {b : Bs} {o : Mm} {Q : Int → Mm → Prop} {k_216 : Int → Int → Int → Int → Int → Int → Int → Mm → Rs} (hC : Cok g b RX12 cX12_missed 10 6 (some .int)) (hk_216 : ∀ v1 : Int, inR v1 → ∀ v2 : Int, inR v2 → ∀ v3 : Int, inR v3 → ∀ v4 : Int, inR v4 → ∀ v5 : Int, inR v5 → ∀ v6 : Int, inR v6 → ∀ v7 : Int, inR v7 → ∀ m : Mm, Rg m → okR (k_216 v1 v2 v3 v4 v5 v6 v7 m) Q → X g b (false, o) 10 (ZM g b (false, o) 1 Q) 216 [(0, .ref (b.1 + 54)), (1, iV v1), (2, iV v2), (3, iV v3), (4, iV v4), (5, iV v5), (6, iV v6), (7, iV v7)] [] m 0 0) : ∀ n : Nat, ∀ v1 : Int, inR v1 → ∀ v2 : Int, inR v2 → ∀ v3 : Int, inR v3 → ∀ v4 : Int, inR v4 → ∀ v5 : Int, inR v5 → ∀ v6 : Int, inR v6 → ∀ v7 : Int, inR v7 → ∀ v8 : Int, inR v8 → ∀ m : Mm, Rg m → okR (L_X12_missed_225 k_216 n v1 v2 v3 v4 v5 v6 v7 v8 m) Q → X g b (false, o) 10 (ZM g b (false, o) 1 Q) 225 [(0, .ref (b.1 + 54)), (1, iV v1), (2, iV v2), (3, iV v3), (4, iV v4), (5, iV v5), (6, iV v6), (7, iV v7), (8, iV v8)] [] m 0 0 := by
  intro n
  induction n with
  | zero => intro v1 hv1 v2 hv2 v3 hv3 v4 hv4 v5 hv5 v6 hv6 v7 hv7 v8 hv8 m hm hF; exact absurd hF (fun z => z)
  | succ n ih =>
    intro v1 hv1 v2 hv2 v3 hv3 v4 hv4 v5 hv5 v6 hv6 v7 hv7 v8 hv8 m hm hF
    have hF : okR (LB_X12_missed_225 k_216 (L_X12_missed_225 k_216 n) v1 v2 v3 v4 v5 v6 v7 v8 m) Q := hF
    unfold LB_X12_missed_225 at hF
    refine x_iload hC dX12_missed_225 rfl 8 rfl ?_
    refine x_aload_n hC dX12_missed_227 rfl 0 rfl ?_
    refine x_getR (t := 80) hC dX12_missed_228 rfl flX12_97 rfl (by decide) rfl rfl ?_
    refine x_iload hC dX12_missed_231 rfl 7 rfl ?_
    refine x_iald hC dX12_missed_233 rfl rfl (by decide) rfl hm hv7 hF (fun x1 hx1 hF => ?_)
    refine x_icmp_ge (tgt := 323) hC dX12_missed_234 rfl rfl hv8 hx1 hF (fun hq2 hF => ?_) (fun hq2 hF => ?_)
    · refine x_iinc (p := 7) (lv' := [(0, .ref (b.1 + 54)), (1, iV v1), (2, iV v2), (3, iV v3), (4, iV v4), (5, iV v5), (6, iV v6), (8, iV v8)]) hC dX12_missed_323 rfl rfl (by decide) rfl hF (fun x3 hx3 hF => ?_)
      refine x_goto (tgt := 216) hC dX12_missed_326 rfl ?_
      refine x_sub [1, 2, 3, 4, 5, 6, 7, 0] rfl ?_
      exact hk_216 v1 hv1 v2 hv2 v3 hv3 v4 hv4 v5 hv5 v6 hv6 x3 hx3 m hm hF
    · refine x_iconst hC dX12_missed_237 rfl ?_
      refine x_istoreZ (lv' := [(0, .ref (b.1 + 54)), (1, iV v1), (2, iV v2), (3, iV v3), (4, iV v4), (5, iV v5), (6, iV v6), (7, iV v7), (8, iV v8)]) hC dX12_missed_238 rfl (by decide) rfl (Or.inl rfl) hF (fun x4 hx4 hF => ?_)
      refine x_sub [1, 2, 3, 4, 5, 6, 7, 8, 9, 0] rfl ?_
      exact WL_X12_missed_240 hC hk_216 ih 100000  v1 hv1 v2 hv2 v3 hv3 v4 hv4 v5 hv5 v6 hv6 v7 hv7 v8 hv8 x4 (rg_01 hx4) m hm hF
set_option maxRecDepth 20000 in
set_option maxHeartbeats 4000000 in
theorem WL_X12_missed_216 {g : Gx} {b : Bs} {o : Mm} {Q : Int → Mm → Prop} (hC : Cok g b RX12 cX12_missed 10 6 (some .int)) : ∀ n : Nat, ∀ v1 : Int, inR v1 → ∀ v2 : Int, inR v2 → ∀ v3 : Int, inR v3 → ∀ v4 : Int, inR v4 → ∀ v5 : Int, inR v5 → ∀ v6 : Int, inR v6 → ∀ v7 : Int, inR v7 → ∀ m : Mm, Rg m → okR (L_X12_missed_216 n v1 v2 v3 v4 v5 v6 v7 m) Q → X g b (false, o) 10 (ZM g b (false, o) 1 Q) 216 [(0, .ref (b.1 + 54)), (1, iV v1), (2, iV v2), (3, iV v3), (4, iV v4), (5, iV v5), (6, iV v6), (7, iV v7)] [] m 0 0 := by
  intro n
  induction n with
  | zero => intro v1 hv1 v2 hv2 v3 hv3 v4 hv4 v5 hv5 v6 hv6 v7 hv7 m hm hF; exact absurd hF (fun z => z)
  | succ n ih =>
    intro v1 hv1 v2 hv2 v3 hv3 v4 hv4 v5 hv5 v6 hv6 v7 hv7 m hm hF
    have hF : okR (LB_X12_missed_216 (L_X12_missed_216 n) v1 v2 v3 v4 v5 v6 v7 m) Q := hF
    unfold LB_X12_missed_216 at hF
    refine x_iload hC dX12_missed_216 rfl 7 rfl ?_
    refine x_iload_n hC dX12_missed_218 rfl 3 rfl ?_
    refine x_icmp_ge (tgt := 329) hC dX12_missed_219 rfl rfl hv7 hv3 hF (fun hq1 hF => ?_) (fun hq1 hF => ?_)
    · refine x_iload hC dX12_missed_329 rfl 4 rfl ?_
      refine x_iconst hC dX12_missed_331 rfl ?_
      refine x_icmp_ne (tgt := 340) hC dX12_missed_332 rfl rfl hv4 (rgc (-1) rfl) hF (fun hq2 hF => ?_) (fun hq2 hF => ?_)
      · refine x_iload hC dX12_missed_340 rfl 6 rfl ?_
        exact x_ireturn hC dX12_missed_342 hm hv6 hF
      · refine x_iload hC dX12_missed_335 rfl 5 rfl ?_
        refine x_goto (tgt := 342) hC dX12_missed_337 rfl ?_
        exact x_ireturn hC dX12_missed_342 hm hv5 hF
    · refine x_iconst hC dX12_missed_222 rfl ?_
      refine x_istoreZ (lv' := [(0, .ref (b.1 + 54)), (1, iV v1), (2, iV v2), (3, iV v3), (4, iV v4), (5, iV v5), (6, iV v6), (7, iV v7)]) hC dX12_missed_223 rfl (by decide) rfl (Or.inr rfl) hF (fun x3 hx3 hF => ?_)
      refine x_sub [1, 2, 3, 4, 5, 6, 7, 8, 0] rfl ?_
      exact WL_X12_missed_225 hC ih 100000  v1 hv1 v2 hv2 v3 hv3 v4 hv4 v5 hv5 v6 hv6 v7 hv7 x3 (rg_01 hx3) m hm hF
set_option maxRecDepth 20000 in
set_option maxHeartbeats 4000000 in
theorem WL_X12_missed_168 {g : Gx} {b : Bs} {o : Mm} {Q : Int → Mm → Prop} (hC : Cok g b RX12 cX12_missed 10 6 (some .int)) : ∀ n : Nat, ∀ v1 : Int, inR v1 → ∀ v2 : Int, inR v2 → ∀ v3 : Int, inR v3 → ∀ v4 : Int, inR v4 → ∀ v5 : Int, inR v5 → ∀ m : Mm, Rg m → okR (L_X12_missed_168 n v1 v2 v3 v4 v5 m) Q → X g b (false, o) 10 (ZM g b (false, o) 1 Q) 168 [(0, .ref (b.1 + 54)), (1, iV v1), (2, iV v2), (3, iV v3), (4, iV v4), (5, iV v5)] [] m 0 0 := by
  intro n
  induction n with
  | zero => intro v1 hv1 v2 hv2 v3 hv3 v4 hv4 v5 hv5 m hm hF; exact absurd hF (fun z => z)
  | succ n ih =>
    intro v1 hv1 v2 hv2 v3 hv3 v4 hv4 v5 hv5 m hm hF
    have hF : okR (LB_X12_missed_168 (L_X12_missed_168 n) v1 v2 v3 v4 v5 m) Q := hF
    unfold LB_X12_missed_168 at hF
    refine x_iload hC dX12_missed_168 rfl 5 rfl ?_
    refine x_iload_n hC dX12_missed_170 rfl 3 rfl ?_
    refine x_icmp_gt (tgt := 201) hC dX12_missed_171 rfl rfl hv5 hv3 hF (fun hq1 hF => ?_) (fun hq1 hF => ?_)
    · refine x_aload_n hC dX12_missed_201 rfl 0 rfl ?_
      refine x_iload_n hC dX12_missed_202 rfl 1 rfl ?_
      refine x_callV0 (kc2 := 0) (ks2 := 0) (k := 54) (As := [iV v1]) (rest := []) hC dX12_missed_203 rfl hm (fun _ _ h => T_X12_laysLast b _ m v1 hv1 h) mlX12_395 vlX12_laysLast rfl (by decide) rfl rfl (Nat.le_of_ble_eq_true rfl) (by decide) (by decide) rfl rfl hF (fun r2 m3 hr2 hm3 hF => ?_)
      refine x_iconst hC dX12_missed_206 rfl ?_
      refine x_istoreZ (lv' := [(0, .ref (b.1 + 54)), (1, iV v1), (2, iV v2), (3, iV v3), (4, iV v4)]) hC dX12_missed_207 rfl (by decide) rfl (Or.inl rfl) hF (fun x4 hx4 hF => ?_)
      refine x_bipush hC dX12_missed_209 rfl rfl ?_
      refine x_istore (lv' := [(5, iV x4), (0, .ref (b.1 + 54)), (1, iV v1), (2, iV v2), (3, iV v3), (4, iV v4)]) hC dX12_missed_211 rfl (by decide) rfl (rgc (-3) rfl) hF (fun x5 hx5 hF => ?_)
      refine x_iconst hC dX12_missed_213 rfl ?_
      refine x_istoreZ (lv' := [(6, iV x5), (5, iV x4), (0, .ref (b.1 + 54)), (1, iV v1), (2, iV v2), (3, iV v3), (4, iV v4)]) hC dX12_missed_214 rfl (by decide) rfl (Or.inl rfl) hF (fun x6 hx6 hF => ?_)
      refine x_sub [3, 4, 5, 6, 7, 2, 1, 0] rfl ?_
      exact WL_X12_missed_216 hC 100000  v1 hv1 v2 hv2 v3 hv3 v4 hv4 x4 (rg_01 hx4) x5 hx5 x6 (rg_01 hx6) m3 hm3 hF
    · refine x_aload_n hC dX12_missed_174 rfl 0 rfl ?_
      refine x_getR (t := 81) hC dX12_missed_175 rfl flX12_100 rfl (by decide) rfl rfl ?_
      refine x_iload hC dX12_missed_178 rfl 5 rfl ?_
      refine x_iald hC dX12_missed_180 rfl rfl (by decide) rfl hm hv5 hF (fun x7 hx7 hF => ?_)
      refine x_i2l hC dX12_missed_181 rfl hx7 ?_
      refine x_lconst (x := 0) hC dX12_missed_182 rfl rfl ?_
      refine x_ldc2 (x := 32) hC dX12_missed_183 rfl kwX12_391 ?_
      refine x_callS3 (kc2 := 0) (ks2 := 0) (As := [lV x7, lV 0, lV 32]) (rest := []) hC dX12_missed_186 rfl hm (fun _ _ h => T_X12_lies b _ m x7 (rg_RL hx7) 0 (rgcL 0 rfl) 32 (rgcL 32 rfl) h) mlX12_147 vsX12_lies rfl rfl (Nat.le_of_ble_eq_true rfl) (by decide) (by decide) rfl rfl hF (fun r8 m9 hr8 hm9 hF => ?_)
      refine x_if_ne (tgt := 195) hC dX12_missed_189 rfl rfl (rg_01 hr8) hF (fun hq10 hF => ?_) (fun hq10 hF => ?_)
      · refine x_iinc (p := 5) (lv' := [(0, .ref (b.1 + 54)), (1, iV v1), (2, iV v2), (3, iV v3), (4, iV v4)]) hC dX12_missed_195 rfl rfl (by decide) rfl hF (fun x11 hx11 hF => ?_)
        refine x_goto (tgt := 168) hC dX12_missed_198 rfl ?_
        refine x_sub [1, 2, 3, 4, 5, 0] rfl ?_
        exact ih v1 hv1 v2 hv2 v3 hv3 v4 hv4 x11 hx11 m9 hm9 hF
      · refine x_bipush hC dX12_missed_192 rfl rfl ?_
        exact x_ireturn hC dX12_missed_194 hm9 (rgc (-2) rfl) hF
set_option maxRecDepth 20000 in
set_option maxHeartbeats 4000000 in
theorem WL_X12_missed_132 {g : Gx} {b : Bs} {o : Mm} {Q : Int → Mm → Prop} (hC : Cok g b RX12 cX12_missed 10 6 (some .int)) : ∀ n : Nat, ∀ v1 : Int, inR v1 → ∀ v2 : Int, inR v2 → ∀ v3 : Int, inR v3 → ∀ v4 : Int, inR v4 → ∀ v5 : Int, inR v5 → ∀ m : Mm, Rg m → okR (L_X12_missed_132 n v1 v2 v3 v4 v5 m) Q → X g b (false, o) 10 (ZM g b (false, o) 1 Q) 132 [(0, .ref (b.1 + 54)), (1, iV v1), (2, iV v2), (3, iV v3), (4, iV v4), (5, iV v5)] [] m 0 0 := by
  intro n
  induction n with
  | zero => intro v1 hv1 v2 hv2 v3 hv3 v4 hv4 v5 hv5 m hm hF; exact absurd hF (fun z => z)
  | succ n ih =>
    intro v1 hv1 v2 hv2 v3 hv3 v4 hv4 v5 hv5 m hm hF
    have hF : okR (LB_X12_missed_132 (L_X12_missed_132 n) v1 v2 v3 v4 v5 m) Q := hF
    unfold LB_X12_missed_132 at hF
    refine x_iload hC dX12_missed_132 rfl 5 rfl ?_
    refine x_iload_n hC dX12_missed_134 rfl 3 rfl ?_
    refine x_icmp_ge (tgt := 165) hC dX12_missed_135 rfl rfl hv5 hv3 hF (fun hq1 hF => ?_) (fun hq1 hF => ?_)
    · refine x_iconst hC dX12_missed_165 rfl ?_
      refine x_istoreZ (lv' := [(0, .ref (b.1 + 54)), (1, iV v1), (2, iV v2), (3, iV v3), (4, iV v4)]) hC dX12_missed_166 rfl (by decide) rfl (Or.inl rfl) hF (fun x2 hx2 hF => ?_)
      refine x_sub [1, 2, 3, 4, 5, 0] rfl ?_
      exact WL_X12_missed_168 hC 100000  v1 hv1 v2 hv2 v3 hv3 v4 hv4 x2 (rg_01 hx2) m hm hF
    · refine x_aload_n hC dX12_missed_138 rfl 0 rfl ?_
      refine x_getR (t := 80) hC dX12_missed_139 rfl flX12_97 rfl (by decide) rfl rfl ?_
      refine x_iload hC dX12_missed_142 rfl 5 rfl ?_
      refine x_iald hC dX12_missed_144 rfl rfl (by decide) rfl hm hv5 hF (fun x3 hx3 hF => ?_)
      refine x_i2l hC dX12_missed_145 rfl hx3 ?_
      refine x_lconst (x := 1) hC dX12_missed_146 rfl rfl ?_
      refine x_ldc2 (x := 63) hC dX12_missed_147 rfl kwX12_372 ?_
      refine x_callS3 (kc2 := 0) (ks2 := 0) (As := [lV x3, lV 1, lV 63]) (rest := []) hC dX12_missed_150 rfl hm (fun _ _ h => T_X12_lies b _ m x3 (rg_RL hx3) 1 (rgcL 1 rfl) 63 (rgcL 63 rfl) h) mlX12_147 vsX12_lies rfl rfl (Nat.le_of_ble_eq_true rfl) (by decide) (by decide) rfl rfl hF (fun r4 m5 hr4 hm5 hF => ?_)
      refine x_if_ne (tgt := 159) hC dX12_missed_153 rfl rfl (rg_01 hr4) hF (fun hq6 hF => ?_) (fun hq6 hF => ?_)
      · refine x_iinc (p := 5) (lv' := [(0, .ref (b.1 + 54)), (1, iV v1), (2, iV v2), (3, iV v3), (4, iV v4)]) hC dX12_missed_159 rfl rfl (by decide) rfl hF (fun x7 hx7 hF => ?_)
        refine x_goto (tgt := 132) hC dX12_missed_162 rfl ?_
        refine x_sub [1, 2, 3, 4, 5, 0] rfl ?_
        exact ih v1 hv1 v2 hv2 v3 hv3 v4 hv4 x7 hx7 m5 hm5 hF
      · refine x_bipush hC dX12_missed_156 rfl rfl ?_
        exact x_ireturn hC dX12_missed_158 hm5 (rgc (-2) rfl) hF
set_option maxRecDepth 20000 in
set_option maxHeartbeats 4000000 in
theorem WL_X12_missed_102 {g : Gx} {b : Bs} {o : Mm} {Q : Int → Mm → Prop} (hC : Cok g b RX12 cX12_missed 10 6 (some .int)) : ∀ n : Nat, ∀ v1 : Int, inR v1 → ∀ v2 : Int, inR v2 → ∀ v3 : Int, inR v3 → ∀ v4 : Int, inR v4 → ∀ v5 : Int, inR v5 → ∀ m : Mm, Rg m → okR (L_X12_missed_102 n v1 v2 v3 v4 v5 m) Q → X g b (false, o) 10 (ZM g b (false, o) 1 Q) 102 [(0, .ref (b.1 + 54)), (1, iV v1), (2, iV v2), (3, iV v3), (4, iV v4), (5, iV v5)] [] m 0 0 := by
  intro n
  induction n with
  | zero => intro v1 hv1 v2 hv2 v3 hv3 v4 hv4 v5 hv5 m hm hF; exact absurd hF (fun z => z)
  | succ n ih =>
    intro v1 hv1 v2 hv2 v3 hv3 v4 hv4 v5 hv5 m hm hF
    have hF : okR (LB_X12_missed_102 (L_X12_missed_102 n) v1 v2 v3 v4 v5 m) Q := hF
    unfold LB_X12_missed_102 at hF
    refine x_iload hC dX12_missed_102 rfl 5 rfl ?_
    refine x_iload_n hC dX12_missed_104 rfl 3 rfl ?_
    refine x_icmp_gt (tgt := 129) hC dX12_missed_105 rfl rfl hv5 hv3 hF (fun hq1 hF => ?_) (fun hq1 hF => ?_)
    · refine x_iconst hC dX12_missed_129 rfl ?_
      refine x_istoreZ (lv' := [(0, .ref (b.1 + 54)), (1, iV v1), (2, iV v2), (3, iV v3), (4, iV v4)]) hC dX12_missed_130 rfl (by decide) rfl (Or.inl rfl) hF (fun x2 hx2 hF => ?_)
      refine x_sub [1, 2, 3, 4, 5, 0] rfl ?_
      exact WL_X12_missed_132 hC 100000  v1 hv1 v2 hv2 v3 hv3 v4 hv4 x2 (rg_01 hx2) m hm hF
    · refine x_aload_n hC dX12_missed_108 rfl 0 rfl ?_
      refine x_getR (t := 81) hC dX12_missed_109 rfl flX12_100 rfl (by decide) rfl rfl ?_
      refine x_iload hC dX12_missed_112 rfl 5 rfl ?_
      refine x_aload_n hC dX12_missed_114 rfl 0 rfl ?_
      refine x_iload_n hC dX12_missed_115 rfl 3 rfl ?_
      refine x_iload hC dX12_missed_116 rfl 5 rfl ?_
      refine x_iadd hC dX12_missed_118 rfl ?_
      refine x_callV1 (kc2 := 0) (ks2 := 0) (k := 54) (As := [iV (wr (v3 + v5))]) (rest := [iV v5, .ref (b.1 + 81)]) hC dX12_missed_119 rfl hm (fun _ _ h => T_X12_byteAt b _ m (wr (v3 + v5)) (rg_wr _) h) mlX12_327 vlX12_byteAt rfl (by decide) rfl rfl (Nat.le_of_ble_eq_true rfl) (by decide) (by decide) rfl rfl hF (fun r3 m4 hr3 hm4 hF => ?_)
      refine x_iast hC dX12_missed_122 rfl rfl (by decide) rfl hm4 hv5 hr3 hF (fun m5 hm5 hF => ?_)
      refine x_iinc (p := 5) (lv' := [(0, .ref (b.1 + 54)), (1, iV v1), (2, iV v2), (3, iV v3), (4, iV v4)]) hC dX12_missed_123 rfl rfl (by decide) rfl hF (fun x6 hx6 hF => ?_)
      refine x_goto (tgt := 102) hC dX12_missed_126 rfl ?_
      refine x_sub [1, 2, 3, 4, 5, 0] rfl ?_
      exact ih v1 hv1 v2 hv2 v3 hv3 v4 hv4 x6 hx6 m5 hm5 hF
set_option maxRecDepth 20000 in
set_option maxHeartbeats 4000000 in
theorem WL_X12_missed_74 {g : Gx} {b : Bs} {o : Mm} {Q : Int → Mm → Prop} (hC : Cok g b RX12 cX12_missed 10 6 (some .int)) : ∀ n : Nat, ∀ v1 : Int, inR v1 → ∀ v2 : Int, inR v2 → ∀ v3 : Int, inR v3 → ∀ v4 : Int, inR v4 → ∀ v5 : Int, inR v5 → ∀ m : Mm, Rg m → okR (L_X12_missed_74 n v1 v2 v3 v4 v5 m) Q → X g b (false, o) 10 (ZM g b (false, o) 1 Q) 74 [(0, .ref (b.1 + 54)), (1, iV v1), (2, iV v2), (3, iV v3), (4, iV v4), (5, iV v5)] [] m 0 0 := by
  intro n
  induction n with
  | zero => intro v1 hv1 v2 hv2 v3 hv3 v4 hv4 v5 hv5 m hm hF; exact absurd hF (fun z => z)
  | succ n ih =>
    intro v1 hv1 v2 hv2 v3 hv3 v4 hv4 v5 hv5 m hm hF
    have hF : okR (LB_X12_missed_74 (L_X12_missed_74 n) v1 v2 v3 v4 v5 m) Q := hF
    unfold LB_X12_missed_74 at hF
    refine x_iload hC dX12_missed_74 rfl 5 rfl ?_
    refine x_iload_n hC dX12_missed_76 rfl 3 rfl ?_
    refine x_icmp_ge (tgt := 99) hC dX12_missed_77 rfl rfl hv5 hv3 hF (fun hq1 hF => ?_) (fun hq1 hF => ?_)
    · refine x_iconst hC dX12_missed_99 rfl ?_
      refine x_istoreZ (lv' := [(0, .ref (b.1 + 54)), (1, iV v1), (2, iV v2), (3, iV v3), (4, iV v4)]) hC dX12_missed_100 rfl (by decide) rfl (Or.inl rfl) hF (fun x2 hx2 hF => ?_)
      refine x_sub [1, 2, 3, 4, 5, 0] rfl ?_
      exact WL_X12_missed_102 hC 100000  v1 hv1 v2 hv2 v3 hv3 v4 hv4 x2 (rg_01 hx2) m hm hF
    · refine x_aload_n hC dX12_missed_80 rfl 0 rfl ?_
      refine x_getR (t := 80) hC dX12_missed_81 rfl flX12_97 rfl (by decide) rfl rfl ?_
      refine x_iload hC dX12_missed_84 rfl 5 rfl ?_
      refine x_aload_n hC dX12_missed_86 rfl 0 rfl ?_
      refine x_iload hC dX12_missed_87 rfl 5 rfl ?_
      refine x_callV1 (kc2 := 0) (ks2 := 0) (k := 54) (As := [iV v5]) (rest := [iV v5, .ref (b.1 + 80)]) hC dX12_missed_89 rfl hm (fun _ _ h => T_X12_byteAt b _ m v5 hv5 h) mlX12_327 vlX12_byteAt rfl (by decide) rfl rfl (Nat.le_of_ble_eq_true rfl) (by decide) (by decide) rfl rfl hF (fun r3 m4 hr3 hm4 hF => ?_)
      refine x_iast hC dX12_missed_92 rfl rfl (by decide) rfl hm4 hv5 hr3 hF (fun m5 hm5 hF => ?_)
      refine x_iinc (p := 5) (lv' := [(0, .ref (b.1 + 54)), (1, iV v1), (2, iV v2), (3, iV v3), (4, iV v4)]) hC dX12_missed_93 rfl rfl (by decide) rfl hF (fun x6 hx6 hF => ?_)
      refine x_goto (tgt := 74) hC dX12_missed_96 rfl ?_
      refine x_sub [1, 2, 3, 4, 5, 0] rfl ?_
      exact ih v1 hv1 v2 hv2 v3 hv3 v4 hv4 x6 hx6 m5 hm5 hF
set_option maxRecDepth 20000 in
set_option maxHeartbeats 4000000 in
theorem T_X12_missed (b : Bs) (o : Mm) (m : Mm) (a1 : Int) (ha1 : inR a1) (a2 : Int) (ha2 : inR a2) (a3 : Int) (ha3 : inR a3) (a4 : Int) (ha4 : inR a4) {r : Int} {m' : Mm} (h : F_X12_missed a1 a2 a3 a4 m = some (r, m')) : Cn yX12_missed cX12_missed 10 (some .int) (6) 0 0 1 b (false, o) m [.ref (b.1 + 54), iV a1, iV a2, iV a3, iV a4] (F_X12_missed a1 a2 a3 a4 m) := by
  refine Cn_of rfl (Nat.le_of_ble_eq_true rfl) (fun g hC hm => ?_)
  have hF := okR_some h
  generalize hQ : (fun (r : Int) (m' : Mm) => F_X12_missed a1 a2 a3 a4 m = some (r, m')) = Q at hF ⊢
  clear hQ h
  replace hC : Cok g b RX12 cX12_missed 10 6 (some .int) := hC
  refine x_lv (lv' := [(0, .ref (b.1 + 54)), (1, iV a1), (2, iV a2), (3, iV a3), (4, iV a4)]) rfl ?_
  unfold F_X12_missed at hF
  refine x_aload_n hC dX12_missed_0 rfl 0 rfl ?_
  refine x_iload_n hC dX12_missed_1 rfl 1 rfl ?_
  refine x_callV3 (kc2 := 0) (ks2 := 0) (k := 54) (As := [iV a1]) (rest := []) hC dX12_missed_2 rfl hm (fun _ _ h => T_X12_isMouth b _ m a1 ha1 h) mlX12_322 vlX12_isMouth rfl (by decide) rfl rfl (Nat.le_of_ble_eq_true rfl) (by decide) (by decide) rfl rfl hF (fun r1 m2 hr1 hm2 hF => ?_)
  refine x_if_eq (tgt := 64) hC dX12_missed_5 rfl rfl (rg_01 hr1) hF (fun hq3 hF => ?_) (fun hq3 hF => ?_)
  · refine x_iconst hC dX12_missed_64 rfl ?_
    exact x_ireturn hC dX12_missed_65 hm2 (rgc (-1) rfl) hF
  · refine x_aload_n hC dX12_missed_8 rfl 0 rfl ?_
    refine x_iload_n hC dX12_missed_9 rfl 2 rfl ?_
    refine x_callV3 (kc2 := 0) (ks2 := 0) (k := 54) (As := [iV a2]) (rest := []) hC dX12_missed_10 rfl hm2 (fun _ _ h => T_X12_isMouth b _ m2 a2 ha2 h) mlX12_322 vlX12_isMouth rfl (by decide) rfl rfl (Nat.le_of_ble_eq_true rfl) (by decide) (by decide) rfl rfl hF (fun r4 m5 hr4 hm5 hF => ?_)
    refine x_if_eq (tgt := 64) hC dX12_missed_13 rfl rfl (rg_01 hr4) hF (fun hq6 hF => ?_) (fun hq6 hF => ?_)
    · refine x_iconst hC dX12_missed_64 rfl ?_
      exact x_ireturn hC dX12_missed_65 hm5 (rgc (-1) rfl) hF
    · refine x_aload_n hC dX12_missed_16 rfl 0 rfl ?_
      refine x_iload_n hC dX12_missed_17 rfl 1 rfl ?_
      refine x_iload_n hC dX12_missed_18 rfl 2 rfl ?_
      refine x_callV3 (kc2 := 0) (ks2 := 0) (k := 54) (As := [iV a1, iV a2]) (rest := []) hC dX12_missed_19 rfl hm5 (fun _ _ h => T_X12_isNear b _ m5 a1 ha1 a2 ha2 h) mlX12_350 vlX12_isNear rfl (by decide) rfl rfl (Nat.le_of_ble_eq_true rfl) (by decide) (by decide) rfl rfl hF (fun r7 m8 hr7 hm8 hF => ?_)
      refine x_if_eq (tgt := 64) hC dX12_missed_22 rfl rfl (rg_01 hr7) hF (fun hq9 hF => ?_) (fun hq9 hF => ?_)
      · refine x_iconst hC dX12_missed_64 rfl ?_
        exact x_ireturn hC dX12_missed_65 hm8 (rgc (-1) rfl) hF
      · refine x_iload_n hC dX12_missed_25 rfl 3 rfl ?_
        refine x_i2l hC dX12_missed_26 rfl ha3 ?_
        refine x_lconst (x := 1) hC dX12_missed_27 rfl rfl ?_
        refine x_ldc2 (x := 10) hC dX12_missed_28 rfl kwX12_402 ?_
        refine x_callS3 (kc2 := 0) (ks2 := 0) (As := [lV a3, lV 1, lV 10]) (rest := []) hC dX12_missed_31 rfl hm8 (fun _ _ h => T_X12_lies b _ m8 a3 (rg_RL ha3) 1 (rgcL 1 rfl) 10 (rgcL 10 rfl) h) mlX12_147 vsX12_lies rfl rfl (Nat.le_of_ble_eq_true rfl) (by decide) (by decide) rfl rfl hF (fun r10 m11 hr10 hm11 hF => ?_)
        refine x_if_eq (tgt := 64) hC dX12_missed_34 rfl rfl (rg_01 hr10) hF (fun hq12 hF => ?_) (fun hq12 hF => ?_)
        · refine x_iconst hC dX12_missed_64 rfl ?_
          exact x_ireturn hC dX12_missed_65 hm11 (rgc (-1) rfl) hF
        · refine x_iload hC dX12_missed_37 rfl 4 rfl ?_
          refine x_i2l hC dX12_missed_39 rfl ha4 ?_
          refine x_ldc2 (x := (-1)) hC dX12_missed_40 rfl kwX12_389 ?_
          refine x_ldc2 (x := 2) hC dX12_missed_43 rfl kwX12_376 ?_
          refine x_callS3 (kc2 := 0) (ks2 := 0) (As := [lV a4, lV (-1), lV 2]) (rest := []) hC dX12_missed_46 rfl hm11 (fun _ _ h => T_X12_lies b _ m11 a4 (rg_RL ha4) (-1) (rgcL (-1) rfl) 2 (rgcL 2 rfl) h) mlX12_147 vsX12_lies rfl rfl (Nat.le_of_ble_eq_true rfl) (by decide) (by decide) rfl rfl hF (fun r13 m14 hr13 hm14 hF => ?_)
          refine x_if_eq (tgt := 64) hC dX12_missed_49 rfl rfl (rg_01 hr13) hF (fun hq15 hF => ?_) (fun hq15 hF => ?_)
          · refine x_iconst hC dX12_missed_64 rfl ?_
            exact x_ireturn hC dX12_missed_65 hm14 (rgc (-1) rfl) hF
          · refine x_iconst hC dX12_missed_52 rfl ?_
            refine x_iload_n hC dX12_missed_53 rfl 3 rfl ?_
            refine x_imul hC dX12_missed_54 rfl ?_
            refine x_iconst hC dX12_missed_55 rfl ?_
            refine x_iadd hC dX12_missed_56 rfl ?_
            refine x_aload_n hC dX12_missed_57 rfl 0 rfl ?_
            refine x_getI hC dX12_missed_58 rfl flX12_161 rfl (by decide) rfl rfl ?_
            refine x_icmp_le (tgt := 66) hC dX12_missed_61 rfl rfl (rg_wr _) (hm14.i 54 1 rfl) hF (fun hq16 hF => ?_) (fun hq16 hF => ?_)
            · refine x_aload_n hC dX12_missed_66 rfl 0 rfl ?_
              refine x_iconst hC dX12_missed_67 rfl ?_
              refine x_putI hC dX12_missed_68 rfl fpX12_161 rfl (by decide) (by decide) rfl rfl hm14 (rgc 0 rfl) rfl hF (fun m17 hm17 hF => ?_)
              refine x_iconst hC dX12_missed_71 rfl ?_
              refine x_istoreZ (lv' := [(0, .ref (b.1 + 54)), (1, iV a1), (2, iV a2), (3, iV a3), (4, iV a4)]) hC dX12_missed_72 rfl (by decide) rfl (Or.inl rfl) hF (fun x18 hx18 hF => ?_)
              refine x_sub [1, 2, 3, 4, 5, 0] rfl ?_
              exact WL_X12_missed_74 hC 100000  a1 ha1 a2 ha2 a3 ha3 a4 ha4 x18 (rg_01 hx18) m17 hm17 hF
            · refine x_iconst hC dX12_missed_64 rfl ?_
              exact x_ireturn hC dX12_missed_65 hm14 (rgc (-1) rfl) hF
set_option maxRecDepth 20000 in
set_option maxHeartbeats 4000000 in
theorem T_X12_gapOf (b : Bs) (o : Mm) (m : Mm) (a1 : Int) (ha1 : inR a1) {r : Int} {m' : Mm} (h : F_X12_gapOf a1 m = some (r, m')) : Cn yX12_gapOf cX12_gapOf 1 (some .int) (0) 0 0 1 b (false, o) m [iV a1] (F_X12_gapOf a1 m) := by
  refine Cn_of rfl (Nat.le_of_ble_eq_true rfl) (fun g hC hm => ?_)
  have hF := okR_some h
  generalize hQ : (fun (r : Int) (m' : Mm) => F_X12_gapOf a1 m = some (r, m')) = Q at hF ⊢
  clear hQ h
  replace hC : Cok g b RX12 cX12_gapOf 1 0 (some .int) := hC
  refine x_lv (lv' := [(0, iV a1)]) rfl ?_
  unfold F_X12_gapOf at hF
  refine x_iload_n hC dX12_gapOf_0 rfl 0 rfl ?_
  refine x_bipush hC dX12_gapOf_1 rfl rfl ?_
  refine x_icmp_ne (tgt := 11) hC dX12_gapOf_3 rfl rfl ha1 (rgc 21 rfl) hF (fun hq1 hF => ?_) (fun hq1 hF => ?_)
  · refine x_iload_n hC dX12_gapOf_11 rfl 0 rfl ?_
    exact x_ireturn hC dX12_gapOf_12 hm ha1 hF
  · refine x_bipush hC dX12_gapOf_6 rfl rfl ?_
    refine x_goto (tgt := 12) hC dX12_gapOf_8 rfl ?_
    exact x_ireturn hC dX12_gapOf_12 hm (rgc 63 rfl) hF
set_option maxRecDepth 20000 in
set_option maxHeartbeats 4000000 in
theorem T_X12_meansPlace (b : Bs) (o : Mm) (m : Mm) (a1 : Int) (ha1 : inR a1) (a2 : Int) (ha2 : inR a2) (a3 : Int) (ha3 : inR a3) (a4 : Int) (ha4 : inR a4) {r : Int} {m' : Mm} (h : F_X12_meansPlace a1 a2 a3 a4 m = some (r, m')) : Cn yX12_meansPlace cX12_meansPlace 4 (some .int) (0) 0 0 1 b (false, o) m [iV a1, iV a2, iV a3, iV a4] (F_X12_meansPlace a1 a2 a3 a4 m) := by
  refine Cn_of rfl (Nat.le_of_ble_eq_true rfl) (fun g hC hm => ?_)
  have hF := okR_some h
  generalize hQ : (fun (r : Int) (m' : Mm) => F_X12_meansPlace a1 a2 a3 a4 m = some (r, m')) = Q at hF ⊢
  clear hQ h
  replace hC : Cok g b RX12 cX12_meansPlace 4 0 (some .int) := hC
  refine x_lv (lv' := [(0, iV a1), (1, iV a2), (2, iV a3), (3, iV a4)]) rfl ?_
  unfold F_X12_meansPlace at hF
  refine x_iload_n hC dX12_meansPlace_0 rfl 0 rfl ?_
  refine x_bipush hC dX12_meansPlace_1 rfl rfl ?_
  refine x_imul hC dX12_meansPlace_3 rfl ?_
  refine x_iload_n hC dX12_meansPlace_4 rfl 1 rfl ?_
  refine x_iadd hC dX12_meansPlace_5 rfl ?_
  refine x_iconst hC dX12_meansPlace_6 rfl ?_
  refine x_imul hC dX12_meansPlace_7 rfl ?_
  refine x_iload_n hC dX12_meansPlace_8 rfl 2 rfl ?_
  refine x_iadd hC dX12_meansPlace_9 rfl ?_
  refine x_bipush hC dX12_meansPlace_10 rfl rfl ?_
  refine x_imul hC dX12_meansPlace_12 rfl ?_
  refine x_iload_n hC dX12_meansPlace_13 rfl 3 rfl ?_
  refine x_iadd hC dX12_meansPlace_14 rfl ?_
  exact x_ireturn hC dX12_meansPlace_15 hm (rg_wr _) hF
set_option maxRecDepth 20000 in
set_option maxHeartbeats 4000000 in
theorem WJ_X12_laysCrowd_46 {g : Gx} {b : Bs} {o : Mm} {Q : Int → Mm → Prop} {k_7 : Int → Int → Mm → Rs} (hC : Cok g b RX12 cX12_laysCrowd 6 5 none) (hk_7 : ∀ v1 : Int, inR v1 → ∀ v2 : Int, inR v2 → ∀ m : Mm, Rg m → okR (k_7 v1 v2 m) Q → X g b (false, o) 6 (ZM g b (false, o) 0 Q) 7 [(0, .ref (b.1 + 54)), (1, iV v1), (2, iV v2)] [] m 0 0) (v1 : Int) (hv1 : inR v1) (v2 : Int) (hv2 : inR v2) (m : Mm) (hm : Rg m) (hF : okR (J_X12_laysCrowd_46 k_7 v1 v2 m) Q) : X g b (false, o) 6 (ZM g b (false, o) 0 Q) 46 [(0, .ref (b.1 + 54)), (1, iV v1), (2, iV v2)] [] m 0 0 := by
  unfold J_X12_laysCrowd_46 at hF
  refine x_iinc (p := 2) (lv' := [(0, .ref (b.1 + 54)), (1, iV v1)]) hC dX12_laysCrowd_46 rfl rfl (by decide) rfl hF (fun x1 hx1 hF => ?_)
  refine x_goto (tgt := 7) hC dX12_laysCrowd_49 rfl ?_
  refine x_sub [1, 2, 0] rfl ?_
  exact hk_7 v1 hv1 x1 hx1 m hm hF
set_option maxRecDepth 20000 in
set_option maxHeartbeats 4000000 in
theorem WJ_X12_laysCrowd_165 {g : Gx} {b : Bs} {o : Mm} {Q : Int → Mm → Prop} {k_54 : Int → Mm → Rs} {k_64 : Int → Int → Mm → Rs} {k_73 : Int → Int → Int → Mm → Rs} {k_82 : Int → Int → Int → Int → Mm → Rs} (hC : Cok g b RX12 cX12_laysCrowd 6 5 none) (hk_54 : ∀ v2 : Int, inR v2 → ∀ m : Mm, Rg m → okR (k_54 v2 m) Q → X g b (false, o) 6 (ZM g b (false, o) 0 Q) 54 [(0, .ref (b.1 + 54)), (2, iV v2)] [] m 0 0) (hk_64 : ∀ v2 : Int, inR v2 → ∀ v3 : Int, inR v3 → ∀ m : Mm, Rg m → okR (k_64 v2 v3 m) Q → X g b (false, o) 6 (ZM g b (false, o) 0 Q) 64 [(0, .ref (b.1 + 54)), (2, iV v2), (3, iV v3)] [] m 0 0) (hk_73 : ∀ v2 : Int, inR v2 → ∀ v3 : Int, inR v3 → ∀ v4 : Int, inR v4 → ∀ m : Mm, Rg m → okR (k_73 v2 v3 v4 m) Q → X g b (false, o) 6 (ZM g b (false, o) 0 Q) 73 [(0, .ref (b.1 + 54)), (2, iV v2), (3, iV v3), (4, iV v4)] [] m 0 0) (hk_82 : ∀ v2 : Int, inR v2 → ∀ v3 : Int, inR v3 → ∀ v4 : Int, inR v4 → ∀ v5 : Int, inR v5 → ∀ m : Mm, Rg m → okR (k_82 v2 v3 v4 v5 m) Q → X g b (false, o) 6 (ZM g b (false, o) 0 Q) 82 [(0, .ref (b.1 + 54)), (2, iV v2), (3, iV v3), (4, iV v4), (5, iV v5)] [] m 0 0) (v2 : Int) (hv2 : inR v2) (v3 : Int) (hv3 : inR v3) (v4 : Int) (hv4 : inR v4) (v5 : Int) (hv5 : inR v5) (m : Mm) (hm : Rg m) (hF : okR (J_X12_laysCrowd_165 k_54 k_64 k_73 k_82 v2 v3 v4 v5 m) Q) : X g b (false, o) 6 (ZM g b (false, o) 0 Q) 165 [(0, .ref (b.1 + 54)), (2, iV v2), (3, iV v3), (4, iV v4), (5, iV v5)] [] m 0 0 := by
  unfold J_X12_laysCrowd_165 at hF
  refine x_iinc (p := 4) (lv' := [(0, .ref (b.1 + 54)), (2, iV v2), (3, iV v3), (4, iV v4)]) hC dX12_laysCrowd_165 rfl rfl (by decide) rfl hF (fun x1 hx1 hF => ?_)
  refine x_goto (tgt := 82) hC dX12_laysCrowd_168 rfl ?_
  refine x_sub [1, 2, 3, 4, 0] rfl ?_
  exact hk_82 v2 hv2 v3 hv3 v4 hv4 x1 hx1 m hm hF
set_option maxRecDepth 20000 in
set_option maxHeartbeats 4000000 in
theorem WJ_X12_laysCrowd_107 {g : Gx} {b : Bs} {o : Mm} {Q : Int → Mm → Prop} {k_54 : Int → Mm → Rs} {k_64 : Int → Int → Mm → Rs} {k_73 : Int → Int → Int → Mm → Rs} {k_82 : Int → Int → Int → Int → Mm → Rs} (hC : Cok g b RX12 cX12_laysCrowd 6 5 none) (hk_54 : ∀ v2 : Int, inR v2 → ∀ m : Mm, Rg m → okR (k_54 v2 m) Q → X g b (false, o) 6 (ZM g b (false, o) 0 Q) 54 [(0, .ref (b.1 + 54)), (2, iV v2)] [] m 0 0) (hk_64 : ∀ v2 : Int, inR v2 → ∀ v3 : Int, inR v3 → ∀ m : Mm, Rg m → okR (k_64 v2 v3 m) Q → X g b (false, o) 6 (ZM g b (false, o) 0 Q) 64 [(0, .ref (b.1 + 54)), (2, iV v2), (3, iV v3)] [] m 0 0) (hk_73 : ∀ v2 : Int, inR v2 → ∀ v3 : Int, inR v3 → ∀ v4 : Int, inR v4 → ∀ m : Mm, Rg m → okR (k_73 v2 v3 v4 m) Q → X g b (false, o) 6 (ZM g b (false, o) 0 Q) 73 [(0, .ref (b.1 + 54)), (2, iV v2), (3, iV v3), (4, iV v4)] [] m 0 0) (hk_82 : ∀ v2 : Int, inR v2 → ∀ v3 : Int, inR v3 → ∀ v4 : Int, inR v4 → ∀ v5 : Int, inR v5 → ∀ m : Mm, Rg m → okR (k_82 v2 v3 v4 v5 m) Q → X g b (false, o) 6 (ZM g b (false, o) 0 Q) 82 [(0, .ref (b.1 + 54)), (2, iV v2), (3, iV v3), (4, iV v4), (5, iV v5)] [] m 0 0) (v2 : Int) (hv2 : inR v2) (v3 : Int) (hv3 : inR v3) (v4 : Int) (hv4 : inR v4) (v5 : Int) (hv5 : inR v5) (m : Mm) (hm : Rg m) (hF : okR (J_X12_laysCrowd_107 k_54 k_64 k_73 k_82 v2 v3 v4 v5 m) Q) : X g b (false, o) 6 (ZM g b (false, o) 0 Q) 107 [(0, .ref (b.1 + 54)), (2, iV v2), (3, iV v3), (4, iV v4), (5, iV v5)] [] m 0 0 := by
  unfold J_X12_laysCrowd_107 at hF
  refine x_aload_n hC dX12_laysCrowd_107 rfl 0 rfl ?_
  refine x_getR (t := 85) hC dX12_laysCrowd_108 rfl flX12_113 rfl (by decide) rfl rfl ?_
  refine x_iload_n hC dX12_laysCrowd_111 rfl 1 rfl ?_
  refine x_iload_n hC dX12_laysCrowd_112 rfl 2 rfl ?_
  refine x_iload hC dX12_laysCrowd_113 rfl 3 rfl ?_
  refine x_iload hC dX12_laysCrowd_115 rfl 4 rfl ?_
  refine x_callS1 (kc2 := 0) (ks2 := 0) (As := [iV v2, iV v3, iV v4, iV v5]) (rest := [.ref (b.1 + 85)]) hC dX12_laysCrowd_117 rfl hm (fun _ _ h => T_X12_meansPlace b _ m v2 hv2 v3 hv3 v4 hv4 v5 hv5 h) mlX12_414 vsX12_meansPlace rfl rfl (Nat.le_of_ble_eq_true rfl) (by decide) (by decide) rfl rfl hF (fun r1 m2 hr1 hm2 hF => ?_)
  refine x_aload_n hC dX12_laysCrowd_120 rfl 0 rfl ?_
  refine x_aload_n hC dX12_laysCrowd_121 rfl 0 rfl ?_
  refine x_getR (t := 84) hC dX12_laysCrowd_122 rfl flX12_110 rfl (by decide) rfl rfl ?_
  refine x_iload_n hC dX12_laysCrowd_125 rfl 1 rfl ?_
  refine x_iald hC dX12_laysCrowd_126 rfl rfl (by decide) rfl hm2 hv2 hF (fun x3 hx3 hF => ?_)
  refine x_iload_n hC dX12_laysCrowd_127 rfl 2 rfl ?_
  refine x_callS1 (kc2 := 0) (ks2 := 0) (As := [iV v3]) (rest := [iV x3, .ref (b.1 + 54), iV r1, .ref (b.1 + 85)]) hC dX12_laysCrowd_128 rfl hm2 (fun _ _ h => T_X12_gapOf b _ m2 v3 hv3 h) mlX12_418 vsX12_gapOf rfl rfl (Nat.le_of_ble_eq_true rfl) (by decide) (by decide) rfl rfl hF (fun r4 m5 hr4 hm5 hF => ?_)
  refine x_aload_n hC dX12_laysCrowd_131 rfl 0 rfl ?_
  refine x_getR (t := 84) hC dX12_laysCrowd_132 rfl flX12_110 rfl (by decide) rfl rfl ?_
  refine x_iload_n hC dX12_laysCrowd_135 rfl 1 rfl ?_
  refine x_iald hC dX12_laysCrowd_136 rfl rfl (by decide) rfl hm5 hv2 hF (fun x6 hx6 hF => ?_)
  refine x_iload hC dX12_laysCrowd_137 rfl 3 rfl ?_
  refine x_iconst hC dX12_laysCrowd_139 rfl ?_
  refine x_icmp_ne (tgt := 148) hC dX12_laysCrowd_140 rfl rfl hv4 (rgc 4 rfl) hF (fun hq7 hF => ?_) (fun hq7 hF => ?_)
  · refine x_aload_n hC dX12_laysCrowd_148 rfl 0 rfl ?_
    refine x_getR (t := 84) hC dX12_laysCrowd_149 rfl flX12_110 rfl (by decide) rfl rfl ?_
    refine x_iload hC dX12_laysCrowd_152 rfl 3 rfl ?_
    refine x_iald hC dX12_laysCrowd_154 rfl rfl (by decide) rfl hm5 hv4 hF (fun x8 hx8 hF => ?_)
    refine x_iload hC dX12_laysCrowd_155 rfl 4 rfl ?_
    refine x_callS1 (kc2 := 0) (ks2 := 0) (As := [iV v5]) (rest := [iV x8, iV x6, iV r4, iV x3, .ref (b.1 + 54), iV r1, .ref (b.1 + 85)]) hC dX12_laysCrowd_157 rfl hm5 (fun _ _ h => T_X12_gapOf b _ m5 v5 hv5 h) mlX12_418 vsX12_gapOf rfl rfl (Nat.le_of_ble_eq_true rfl) (by decide) (by decide) rfl rfl hF (fun r9 m10 hr9 hm10 hF => ?_)
    refine x_iconst hC dX12_laysCrowd_160 rfl ?_
    refine x_callV1 (kc2 := 0) (ks2 := 0) (k := 54) (As := [iV x3, iV r4, iV x6, iV x8, iV r9, iV 0]) (rest := [iV r1, .ref (b.1 + 85)]) hC dX12_laysCrowd_161 rfl hm10 (fun _ _ h => T_X12_means b _ m10 x3 hx3 r4 hr4 x6 hx6 x8 hx8 r9 hr9 0 (rgc 0 rfl) h) mlX12_360 vlX12_means rfl (by decide) rfl rfl (Nat.le_of_ble_eq_true rfl) (by decide) (by decide) rfl rfl hF (fun r11 m12 hr11 hm12 hF => ?_)
    refine x_iast hC dX12_laysCrowd_164 rfl rfl (by decide) rfl hm12 hr1 hr11 hF (fun m13 hm13 hF => ?_)
    exact WJ_X12_laysCrowd_165 hC hk_54 hk_64 hk_73 hk_82  v2 hv2 v3 hv3 v4 hv4 v5 hv5 m13 hm13 hF
  · refine x_bipush hC dX12_laysCrowd_143 rfl rfl ?_
    refine x_goto (tgt := 155) hC dX12_laysCrowd_145 rfl ?_
    refine x_iload hC dX12_laysCrowd_155 rfl 4 rfl ?_
    refine x_callS1 (kc2 := 0) (ks2 := 0) (As := [iV v5]) (rest := [iV 8, iV x6, iV r4, iV x3, .ref (b.1 + 54), iV r1, .ref (b.1 + 85)]) hC dX12_laysCrowd_157 rfl hm5 (fun _ _ h => T_X12_gapOf b _ m5 v5 hv5 h) mlX12_418 vsX12_gapOf rfl rfl (Nat.le_of_ble_eq_true rfl) (by decide) (by decide) rfl rfl hF (fun r14 m15 hr14 hm15 hF => ?_)
    refine x_iconst hC dX12_laysCrowd_160 rfl ?_
    refine x_callV1 (kc2 := 0) (ks2 := 0) (k := 54) (As := [iV x3, iV r4, iV x6, iV 8, iV r14, iV 0]) (rest := [iV r1, .ref (b.1 + 85)]) hC dX12_laysCrowd_161 rfl hm15 (fun _ _ h => T_X12_means b _ m15 x3 hx3 r4 hr4 x6 hx6 8 (rgc 8 rfl) r14 hr14 0 (rgc 0 rfl) h) mlX12_360 vlX12_means rfl (by decide) rfl rfl (Nat.le_of_ble_eq_true rfl) (by decide) (by decide) rfl rfl hF (fun r16 m17 hr16 hm17 hF => ?_)
    refine x_iast hC dX12_laysCrowd_164 rfl rfl (by decide) rfl hm17 hr1 hr16 hF (fun m18 hm18 hF => ?_)
    exact WJ_X12_laysCrowd_165 hC hk_54 hk_64 hk_73 hk_82  v2 hv2 v3 hv3 v4 hv4 v5 hv5 m18 hm18 hF
set_option maxRecDepth 20000 in
set_option maxHeartbeats 4000000 in
theorem WL_X12_laysCrowd_82 {g : Gx} {b : Bs} {o : Mm} {Q : Int → Mm → Prop} {k_54 : Int → Mm → Rs} {k_64 : Int → Int → Mm → Rs} {k_73 : Int → Int → Int → Mm → Rs} (hC : Cok g b RX12 cX12_laysCrowd 6 5 none) (hk_54 : ∀ v2 : Int, inR v2 → ∀ m : Mm, Rg m → okR (k_54 v2 m) Q → X g b (false, o) 6 (ZM g b (false, o) 0 Q) 54 [(0, .ref (b.1 + 54)), (2, iV v2)] [] m 0 0) (hk_64 : ∀ v2 : Int, inR v2 → ∀ v3 : Int, inR v3 → ∀ m : Mm, Rg m → okR (k_64 v2 v3 m) Q → X g b (false, o) 6 (ZM g b (false, o) 0 Q) 64 [(0, .ref (b.1 + 54)), (2, iV v2), (3, iV v3)] [] m 0 0) (hk_73 : ∀ v2 : Int, inR v2 → ∀ v3 : Int, inR v3 → ∀ v4 : Int, inR v4 → ∀ m : Mm, Rg m → okR (k_73 v2 v3 v4 m) Q → X g b (false, o) 6 (ZM g b (false, o) 0 Q) 73 [(0, .ref (b.1 + 54)), (2, iV v2), (3, iV v3), (4, iV v4)] [] m 0 0) : ∀ n : Nat, ∀ v2 : Int, inR v2 → ∀ v3 : Int, inR v3 → ∀ v4 : Int, inR v4 → ∀ v5 : Int, inR v5 → ∀ m : Mm, Rg m → okR (L_X12_laysCrowd_82 k_54 k_64 k_73 n v2 v3 v4 v5 m) Q → X g b (false, o) 6 (ZM g b (false, o) 0 Q) 82 [(0, .ref (b.1 + 54)), (2, iV v2), (3, iV v3), (4, iV v4), (5, iV v5)] [] m 0 0 := by
  intro n
  induction n with
  | zero => intro v2 hv2 v3 hv3 v4 hv4 v5 hv5 m hm hF; exact absurd hF (fun z => z)
  | succ n ih =>
    intro v2 hv2 v3 hv3 v4 hv4 v5 hv5 m hm hF
    have hF : okR (LB_X12_laysCrowd_82 k_54 k_64 k_73 (L_X12_laysCrowd_82 k_54 k_64 k_73 n) v2 v3 v4 v5 m) Q := hF
    unfold LB_X12_laysCrowd_82 at hF
    refine x_iload hC dX12_laysCrowd_82 rfl 4 rfl ?_
    refine x_bipush hC dX12_laysCrowd_84 rfl rfl ?_
    refine x_icmp_ge (tgt := 171) hC dX12_laysCrowd_86 rfl rfl hv5 (rgc 22 rfl) hF (fun hq1 hF => ?_) (fun hq1 hF => ?_)
    · refine x_iinc (p := 3) (lv' := [(0, .ref (b.1 + 54)), (2, iV v2), (3, iV v3), (5, iV v5)]) hC dX12_laysCrowd_171 rfl rfl (by decide) rfl hF (fun x2 hx2 hF => ?_)
      refine x_goto (tgt := 73) hC dX12_laysCrowd_174 rfl ?_
      refine x_sub [1, 2, 3, 0] rfl ?_
      exact hk_73 v2 hv2 v3 hv3 x2 hx2 m hm hF
    · refine x_iload hC dX12_laysCrowd_89 rfl 3 rfl ?_
      refine x_iconst hC dX12_laysCrowd_91 rfl ?_
      refine x_icmp_ge (tgt := 107) hC dX12_laysCrowd_92 rfl rfl hv4 (rgc 4 rfl) hF (fun hq3 hF => ?_) (fun hq3 hF => ?_)
      · exact WJ_X12_laysCrowd_107 hC hk_54 hk_64 hk_73 ih  v2 hv2 v3 hv3 v4 hv4 v5 hv5 m hm hF
      · refine x_iload hC dX12_laysCrowd_95 rfl 3 rfl ?_
        refine x_aload_n hC dX12_laysCrowd_97 rfl 0 rfl ?_
        refine x_getI hC dX12_laysCrowd_98 rfl flX12_408 rfl (by decide) rfl rfl ?_
        refine x_icmp_lt (tgt := 107) hC dX12_laysCrowd_101 rfl rfl hv4 (hm.i 54 57 rfl) hF (fun hq4 hF => ?_) (fun hq4 hF => ?_)
        · exact WJ_X12_laysCrowd_107 hC hk_54 hk_64 hk_73 ih  v2 hv2 v3 hv3 v4 hv4 v5 hv5 m hm hF
        · refine x_goto (tgt := 165) hC dX12_laysCrowd_104 rfl ?_
          exact WJ_X12_laysCrowd_165 hC hk_54 hk_64 hk_73 ih  v2 hv2 v3 hv3 v4 hv4 v5 hv5 m hm hF
set_option maxRecDepth 20000 in
set_option maxHeartbeats 4000000 in
theorem WL_X12_laysCrowd_73 {g : Gx} {b : Bs} {o : Mm} {Q : Int → Mm → Prop} {k_54 : Int → Mm → Rs} {k_64 : Int → Int → Mm → Rs} (hC : Cok g b RX12 cX12_laysCrowd 6 5 none) (hk_54 : ∀ v2 : Int, inR v2 → ∀ m : Mm, Rg m → okR (k_54 v2 m) Q → X g b (false, o) 6 (ZM g b (false, o) 0 Q) 54 [(0, .ref (b.1 + 54)), (2, iV v2)] [] m 0 0) (hk_64 : ∀ v2 : Int, inR v2 → ∀ v3 : Int, inR v3 → ∀ m : Mm, Rg m → okR (k_64 v2 v3 m) Q → X g b (false, o) 6 (ZM g b (false, o) 0 Q) 64 [(0, .ref (b.1 + 54)), (2, iV v2), (3, iV v3)] [] m 0 0) : ∀ n : Nat, ∀ v2 : Int, inR v2 → ∀ v3 : Int, inR v3 → ∀ v4 : Int, inR v4 → ∀ m : Mm, Rg m → okR (L_X12_laysCrowd_73 k_54 k_64 n v2 v3 v4 m) Q → X g b (false, o) 6 (ZM g b (false, o) 0 Q) 73 [(0, .ref (b.1 + 54)), (2, iV v2), (3, iV v3), (4, iV v4)] [] m 0 0 := by
  intro n
  induction n with
  | zero => intro v2 hv2 v3 hv3 v4 hv4 m hm hF; exact absurd hF (fun z => z)
  | succ n ih =>
    intro v2 hv2 v3 hv3 v4 hv4 m hm hF
    have hF : okR (LB_X12_laysCrowd_73 k_54 k_64 (L_X12_laysCrowd_73 k_54 k_64 n) v2 v3 v4 m) Q := hF
    unfold LB_X12_laysCrowd_73 at hF
    refine x_iload hC dX12_laysCrowd_73 rfl 3 rfl ?_
    refine x_iconst hC dX12_laysCrowd_75 rfl ?_
    refine x_icmp_ge (tgt := 177) hC dX12_laysCrowd_76 rfl rfl hv4 (rgc 5 rfl) hF (fun hq1 hF => ?_) (fun hq1 hF => ?_)
    · refine x_iinc (p := 2) (lv' := [(0, .ref (b.1 + 54)), (2, iV v2), (4, iV v4)]) hC dX12_laysCrowd_177 rfl rfl (by decide) rfl hF (fun x2 hx2 hF => ?_)
      refine x_goto (tgt := 64) hC dX12_laysCrowd_180 rfl ?_
      refine x_sub [1, 2, 0] rfl ?_
      exact hk_64 v2 hv2 x2 hx2 m hm hF
    · refine x_iconst hC dX12_laysCrowd_79 rfl ?_
      refine x_istoreZ (lv' := [(0, .ref (b.1 + 54)), (2, iV v2), (3, iV v3), (4, iV v4)]) hC dX12_laysCrowd_80 rfl (by decide) rfl (Or.inr rfl) hF (fun x3 hx3 hF => ?_)
      refine x_sub [1, 2, 3, 4, 0] rfl ?_
      exact WL_X12_laysCrowd_82 hC hk_54 hk_64 ih 100000  v2 hv2 v3 hv3 v4 hv4 x3 (rg_01 hx3) m hm hF
set_option maxRecDepth 20000 in
set_option maxHeartbeats 4000000 in
theorem WL_X12_laysCrowd_64 {g : Gx} {b : Bs} {o : Mm} {Q : Int → Mm → Prop} {k_54 : Int → Mm → Rs} (hC : Cok g b RX12 cX12_laysCrowd 6 5 none) (hk_54 : ∀ v2 : Int, inR v2 → ∀ m : Mm, Rg m → okR (k_54 v2 m) Q → X g b (false, o) 6 (ZM g b (false, o) 0 Q) 54 [(0, .ref (b.1 + 54)), (2, iV v2)] [] m 0 0) : ∀ n : Nat, ∀ v2 : Int, inR v2 → ∀ v3 : Int, inR v3 → ∀ m : Mm, Rg m → okR (L_X12_laysCrowd_64 k_54 n v2 v3 m) Q → X g b (false, o) 6 (ZM g b (false, o) 0 Q) 64 [(0, .ref (b.1 + 54)), (2, iV v2), (3, iV v3)] [] m 0 0 := by
  intro n
  induction n with
  | zero => intro v2 hv2 v3 hv3 m hm hF; exact absurd hF (fun z => z)
  | succ n ih =>
    intro v2 hv2 v3 hv3 m hm hF
    have hF : okR (LB_X12_laysCrowd_64 k_54 (L_X12_laysCrowd_64 k_54 n) v2 v3 m) Q := hF
    unfold LB_X12_laysCrowd_64 at hF
    refine x_iload_n hC dX12_laysCrowd_64 rfl 2 rfl ?_
    refine x_bipush hC dX12_laysCrowd_65 rfl rfl ?_
    refine x_icmp_ge (tgt := 183) hC dX12_laysCrowd_67 rfl rfl hv3 (rgc 22 rfl) hF (fun hq1 hF => ?_) (fun hq1 hF => ?_)
    · refine x_iinc (p := 1) (lv' := [(0, .ref (b.1 + 54)), (3, iV v3)]) hC dX12_laysCrowd_183 rfl rfl (by decide) rfl hF (fun x2 hx2 hF => ?_)
      refine x_goto (tgt := 54) hC dX12_laysCrowd_186 rfl ?_
      refine x_sub [1, 0] rfl ?_
      exact hk_54 x2 hx2 m hm hF
    · refine x_iconst hC dX12_laysCrowd_70 rfl ?_
      refine x_istoreZ (lv' := [(0, .ref (b.1 + 54)), (2, iV v2), (3, iV v3)]) hC dX12_laysCrowd_71 rfl (by decide) rfl (Or.inl rfl) hF (fun x3 hx3 hF => ?_)
      refine x_sub [1, 2, 3, 0] rfl ?_
      exact WL_X12_laysCrowd_73 hC hk_54 ih 100000  v2 hv2 v3 hv3 x3 (rg_01 hx3) m hm hF
set_option maxRecDepth 20000 in
set_option maxHeartbeats 4000000 in
theorem WL_X12_laysCrowd_54 {g : Gx} {b : Bs} {o : Mm} {Q : Int → Mm → Prop} (hC : Cok g b RX12 cX12_laysCrowd 6 5 none) : ∀ n : Nat, ∀ v2 : Int, inR v2 → ∀ m : Mm, Rg m → okR (L_X12_laysCrowd_54 n v2 m) Q → X g b (false, o) 6 (ZM g b (false, o) 0 Q) 54 [(0, .ref (b.1 + 54)), (2, iV v2)] [] m 0 0 := by
  intro n
  induction n with
  | zero => intro v2 hv2 m hm hF; exact absurd hF (fun z => z)
  | succ n ih =>
    intro v2 hv2 m hm hF
    have hF : okR (LB_X12_laysCrowd_54 (L_X12_laysCrowd_54 n) v2 m) Q := hF
    unfold LB_X12_laysCrowd_54 at hF
    refine x_iload_n hC dX12_laysCrowd_54 rfl 1 rfl ?_
    refine x_aload_n hC dX12_laysCrowd_55 rfl 0 rfl ?_
    refine x_getI hC dX12_laysCrowd_56 rfl flX12_408 rfl (by decide) rfl rfl ?_
    refine x_icmp_ge (tgt := 189) hC dX12_laysCrowd_59 rfl rfl hv2 (hm.i 54 57 rfl) hF (fun hq1 hF => ?_) (fun hq1 hF => ?_)
    · exact x_return hC dX12_laysCrowd_189 hm hF
    · refine x_iconst hC dX12_laysCrowd_62 rfl ?_
      refine x_istore_nZ (lv' := [(0, .ref (b.1 + 54)), (2, iV v2)]) hC dX12_laysCrowd_63 rfl rfl (by decide) rfl (Or.inr rfl) hF (fun x2 hx2 hF => ?_)
      refine x_sub [1, 2, 0] rfl ?_
      exact WL_X12_laysCrowd_64 hC ih 100000  v2 hv2 x2 (rg_01 hx2) m hm hF
set_option maxRecDepth 20000 in
set_option maxHeartbeats 4000000 in
theorem WL_X12_laysCrowd_7 {g : Gx} {b : Bs} {o : Mm} {Q : Int → Mm → Prop} (hC : Cok g b RX12 cX12_laysCrowd 6 5 none) : ∀ n : Nat, ∀ v1 : Int, inR v1 → ∀ v2 : Int, inR v2 → ∀ m : Mm, Rg m → okR (L_X12_laysCrowd_7 n v1 v2 m) Q → X g b (false, o) 6 (ZM g b (false, o) 0 Q) 7 [(0, .ref (b.1 + 54)), (1, iV v1), (2, iV v2)] [] m 0 0 := by
  intro n
  induction n with
  | zero => intro v1 hv1 v2 hv2 m hm hF; exact absurd hF (fun z => z)
  | succ n ih =>
    intro v1 hv1 v2 hv2 m hm hF
    have hF : okR (LB_X12_laysCrowd_7 (L_X12_laysCrowd_7 n) v1 v2 m) Q := hF
    unfold LB_X12_laysCrowd_7 at hF
    refine x_iload_n hC dX12_laysCrowd_7 rfl 2 rfl ?_
    refine x_aload_n hC dX12_laysCrowd_8 rfl 0 rfl ?_
    refine x_getI hC dX12_laysCrowd_9 rfl flX12_144 rfl (by decide) rfl rfl ?_
    refine x_icmp_ge (tgt := 52) hC dX12_laysCrowd_12 rfl rfl hv2 (hm.i 54 2 rfl) hF (fun hq1 hF => ?_) (fun hq1 hF => ?_)
    · refine x_iconst hC dX12_laysCrowd_52 rfl ?_
      refine x_istore_nZ (lv' := [(0, .ref (b.1 + 54)), (1, iV v1)]) hC dX12_laysCrowd_53 rfl rfl (by decide) rfl (Or.inl rfl) hF (fun x2 hx2 hF => ?_)
      refine x_sub [1, 0] rfl ?_
      exact WL_X12_laysCrowd_54 hC 100000  x2 (rg_01 hx2) m hm hF
    · refine x_iload_n hC dX12_laysCrowd_15 rfl 1 rfl ?_
      refine x_iload_n hC dX12_laysCrowd_16 rfl 2 rfl ?_
      refine x_callS3 (kc2 := 0) (ks2 := 0) (As := [iV v1, iV v2]) (rest := []) hC dX12_laysCrowd_17 rfl hm (fun _ _ h => T_X12_has b _ m v1 hv1 v2 hv2 h) mlX12_411 vsX12_has rfl rfl (Nat.le_of_ble_eq_true rfl) (by decide) (by decide) rfl rfl hF (fun r3 m4 hr3 hm4 hF => ?_)
      refine x_if_ne (tgt := 26) hC dX12_laysCrowd_20 rfl rfl (rg_01 hr3) hF (fun hq5 hF => ?_) (fun hq5 hF => ?_)
      · refine x_aload_n hC dX12_laysCrowd_26 rfl 0 rfl ?_
        refine x_getR (t := 84) hC dX12_laysCrowd_27 rfl flX12_110 rfl (by decide) rfl rfl ?_
        refine x_aload_n hC dX12_laysCrowd_30 rfl 0 rfl ?_
        refine x_getI hC dX12_laysCrowd_31 rfl flX12_408 rfl (by decide) rfl rfl ?_
        refine x_iload_n hC dX12_laysCrowd_34 rfl 2 rfl ?_
        refine x_iast hC dX12_laysCrowd_35 rfl rfl (by decide) rfl hm4 (hm4.i 54 57 rfl) hv2 hF (fun m6 hm6 hF => ?_)
        refine x_aload_n hC dX12_laysCrowd_36 rfl 0 rfl ?_
        refine x_dup hC dX12_laysCrowd_37 rfl rfl ?_
        refine x_getI hC dX12_laysCrowd_38 rfl flX12_408 rfl (by decide) rfl rfl ?_
        refine x_iconst hC dX12_laysCrowd_41 rfl ?_
        refine x_iadd hC dX12_laysCrowd_42 rfl ?_
        refine x_putI hC dX12_laysCrowd_43 rfl fpX12_408 rfl (by decide) (by decide) rfl rfl hm6 (rg_wr _) rfl hF (fun m7 hm7 hF => ?_)
        exact WJ_X12_laysCrowd_46 hC ih  v1 hv1 v2 hv2 m7 hm7 hF
      · refine x_goto (tgt := 46) hC dX12_laysCrowd_23 rfl ?_
        exact WJ_X12_laysCrowd_46 hC ih  v1 hv1 v2 hv2 m4 hm4 hF
set_option maxRecDepth 20000 in
set_option maxHeartbeats 4000000 in
theorem T_X12_laysCrowd (b : Bs) (o : Mm) (m : Mm) (a1 : Int) (ha1 : inR a1) {r : Int} {m' : Mm} (h : F_X12_laysCrowd a1 m = some (r, m')) : Cn yX12_laysCrowd cX12_laysCrowd 6 none (5) 0 0 0 b (false, o) m [.ref (b.1 + 54), iV a1] (F_X12_laysCrowd a1 m) := by
  refine Cn_of rfl (Nat.le_of_ble_eq_true rfl) (fun g hC hm => ?_)
  have hF := okR_some h
  generalize hQ : (fun (r : Int) (m' : Mm) => F_X12_laysCrowd a1 m = some (r, m')) = Q at hF ⊢
  clear hQ h
  replace hC : Cok g b RX12 cX12_laysCrowd 6 5 none := hC
  refine x_lv (lv' := [(0, .ref (b.1 + 54)), (1, iV a1)]) rfl ?_
  unfold F_X12_laysCrowd at hF
  refine x_aload_n hC dX12_laysCrowd_0 rfl 0 rfl ?_
  refine x_iconst hC dX12_laysCrowd_1 rfl ?_
  refine x_putI hC dX12_laysCrowd_2 rfl fpX12_408 rfl (by decide) (by decide) rfl rfl hm (rgc 0 rfl) rfl hF (fun m1 hm1 hF => ?_)
  refine x_iconst hC dX12_laysCrowd_5 rfl ?_
  refine x_istore_nZ (lv' := [(0, .ref (b.1 + 54)), (1, iV a1)]) hC dX12_laysCrowd_6 rfl rfl (by decide) rfl (Or.inl rfl) hF (fun x2 hx2 hF => ?_)
  refine x_sub [1, 2, 0] rfl ?_
  exact WL_X12_laysCrowd_7 hC 100000  a1 ha1 x2 (rg_01 hx2) m1 hm1 hF
set_option maxRecDepth 20000 in
set_option maxHeartbeats 4000000 in
theorem WL_X12_saidBy_4 {g : Gx} {b : Bs} {o : Mm} {Q : Int → Mm → Prop} (hC : Cok g b RX12 cX12_saidBy 4 0 (some .int)) : ∀ n : Nat, ∀ v1 : Int, inR v1 → ∀ v2 : Int, inR v2 → ∀ v3 : Int, inR v3 → ∀ m : Mm, Rg m → okR (L_X12_saidBy_4 n v1 v2 v3 m) Q → X g b (false, o) 4 (ZM g b (false, o) 1 Q) 4 [(1, iV v1), (2, iV v2), (3, iV v3)] [] m 0 0 := by
  intro n
  induction n with
  | zero => intro v1 hv1 v2 hv2 v3 hv3 m hm hF; exact absurd hF (fun z => z)
  | succ n ih =>
    intro v1 hv1 v2 hv2 v3 hv3 m hm hF
    have hF : okR (LB_X12_saidBy_4 (L_X12_saidBy_4 n) v1 v2 v3 m) Q := hF
    unfold LB_X12_saidBy_4 at hF
    refine x_iload_n hC dX12_saidBy_4 rfl 2 rfl ?_
    refine x_iload_n hC dX12_saidBy_5 rfl 0 rfl ?_
    refine x_icmp_ge (tgt := 19) hC dX12_saidBy_6 rfl rfl hv3 hv1 hF (fun hq1 hF => ?_) (fun hq1 hF => ?_)
    · refine x_iload_n hC dX12_saidBy_19 rfl 1 rfl ?_
      refine x_iconst hC dX12_saidBy_20 rfl ?_
      refine x_irem hC dX12_saidBy_21 rfl hv2 (rgc 5 rfl) hF (fun hz2 hF => ?_)
      exact x_ireturn hC dX12_saidBy_22 hm (rg_wr _) hF
    · refine x_iload_n hC dX12_saidBy_9 rfl 1 rfl ?_
      refine x_iconst hC dX12_saidBy_10 rfl ?_
      refine x_idiv hC dX12_saidBy_11 rfl hv2 (rgc 5 rfl) hF (fun hz3 hF => ?_)
      refine x_istore_n (lv' := [(1, iV v1), (3, iV v3)]) hC dX12_saidBy_12 rfl rfl (by decide) rfl (rg_wr _) hF (fun x4 hx4 hF => ?_)
      refine x_iinc (p := 2) (lv' := [(2, iV x4), (1, iV v1)]) hC dX12_saidBy_13 rfl rfl (by decide) rfl hF (fun x5 hx5 hF => ?_)
      refine x_goto (tgt := 4) hC dX12_saidBy_16 rfl ?_
      refine x_sub [2, 1, 0] rfl ?_
      exact ih v1 hv1 x4 hx4 x5 hx5 m hm hF
set_option maxRecDepth 20000 in
set_option maxHeartbeats 4000000 in
theorem T_X12_saidBy (b : Bs) (o : Mm) (m : Mm) (a1 : Int) (ha1 : inR a1) (a2 : Int) (ha2 : inR a2) {r : Int} {m' : Mm} (h : F_X12_saidBy a1 a2 m = some (r, m')) : Cn yX12_saidBy cX12_saidBy 4 (some .int) (0) 0 0 1 b (false, o) m [iV a1, iV a2] (F_X12_saidBy a1 a2 m) := by
  refine Cn_of rfl (Nat.le_of_ble_eq_true rfl) (fun g hC hm => ?_)
  have hF := okR_some h
  generalize hQ : (fun (r : Int) (m' : Mm) => F_X12_saidBy a1 a2 m = some (r, m')) = Q at hF ⊢
  clear hQ h
  replace hC : Cok g b RX12 cX12_saidBy 4 0 (some .int) := hC
  refine x_lv (lv' := [(0, iV a1), (1, iV a2)]) rfl ?_
  unfold F_X12_saidBy at hF
  refine x_iload_n hC dX12_saidBy_0 rfl 0 rfl ?_
  refine x_istore_n (lv' := [(0, iV a1), (1, iV a2)]) hC dX12_saidBy_1 rfl rfl (by decide) rfl ha1 hF (fun x1 hx1 hF => ?_)
  refine x_iconst hC dX12_saidBy_2 rfl ?_
  refine x_istore_nZ (lv' := [(2, iV x1), (0, iV a1), (1, iV a2)]) hC dX12_saidBy_3 rfl rfl (by decide) rfl (Or.inl rfl) hF (fun x2 hx2 hF => ?_)
  refine x_sub [3, 1, 0] rfl ?_
  exact WL_X12_saidBy_4 hC 100000  a2 ha2 x1 hx1 x2 (rg_01 hx2) m hm hF
set_option maxRecDepth 20000 in
set_option maxHeartbeats 4000000 in
theorem T_X12_fives (b : Bs) (o : Mm) (m : Mm) (a1 : Int) (ha1 : inR a1) {r : Int} {m' : Mm} (h : F_X12_fives a1 m = some (r, m')) : Cn yX12_fives cX12_fives 1 (some .int) (0) 0 0 1 b (false, o) m [iV a1] (F_X12_fives a1 m) := by
  refine Cn_of rfl (Nat.le_of_ble_eq_true rfl) (fun g hC hm => ?_)
  have hF := okR_some h
  generalize hQ : (fun (r : Int) (m' : Mm) => F_X12_fives a1 m = some (r, m')) = Q at hF ⊢
  clear hQ h
  replace hC : Cok g b RX12 cX12_fives 1 0 (some .int) := hC
  refine x_lv (lv' := [(0, iV a1)]) rfl ?_
  unfold F_X12_fives at hF
  refine x_iload_n hC dX12_fives_0 rfl 0 rfl ?_
  refine x_if_ne (tgt := 8) hC dX12_fives_1 rfl rfl ha1 hF (fun hq1 hF => ?_) (fun hq1 hF => ?_)
  · refine x_iload_n hC dX12_fives_8 rfl 0 rfl ?_
    refine x_iconst hC dX12_fives_9 rfl ?_
    refine x_icmp_ne (tgt := 17) hC dX12_fives_10 rfl rfl ha1 (rgc 1 rfl) hF (fun hq2 hF => ?_) (fun hq2 hF => ?_)
    · refine x_iload_n hC dX12_fives_17 rfl 0 rfl ?_
      refine x_iconst hC dX12_fives_18 rfl ?_
      refine x_icmp_ne (tgt := 27) hC dX12_fives_19 rfl rfl ha1 (rgc 2 rfl) hF (fun hq3 hF => ?_) (fun hq3 hF => ?_)
      · refine x_bipush hC dX12_fives_27 rfl rfl ?_
        exact x_ireturn hC dX12_fives_29 hm (rgc 125 rfl) hF
      · refine x_bipush hC dX12_fives_22 rfl rfl ?_
        refine x_goto (tgt := 29) hC dX12_fives_24 rfl ?_
        exact x_ireturn hC dX12_fives_29 hm (rgc 25 rfl) hF
    · refine x_iconst hC dX12_fives_13 rfl ?_
      refine x_goto (tgt := 29) hC dX12_fives_14 rfl ?_
      exact x_ireturn hC dX12_fives_29 hm (rgc 5 rfl) hF
  · refine x_iconst hC dX12_fives_4 rfl ?_
    refine x_goto (tgt := 29) hC dX12_fives_5 rfl ?_
    exact x_ireturn hC dX12_fives_29 hm (rgc 1 rfl) hF
set_option maxRecDepth 20000 in
set_option maxHeartbeats 4000000 in
theorem WL_X12_isDone_2 {g : Gx} {b : Bs} {o : Mm} {Q : Int → Mm → Prop} (hC : Cok g b RX12 cX12_isDone 3 1 (some .boolean)) : ∀ n : Nat, ∀ v1 : Int, inR v1 → ∀ v2 : Int, inR v2 → ∀ m : Mm, Rg m → okR (L_X12_isDone_2 n v1 v2 m) Q → X g b (false, o) 3 (ZM g b (false, o) 3 Q) 2 [(0, .ref (b.1 + 54)), (1, iV v1), (2, iV v2)] [] m 0 0 := by
  intro n
  induction n with
  | zero => intro v1 hv1 v2 hv2 m hm hF; exact absurd hF (fun z => z)
  | succ n ih =>
    intro v1 hv1 v2 hv2 m hm hF
    have hF : okR (LB_X12_isDone_2 (L_X12_isDone_2 n) v1 v2 m) Q := hF
    unfold LB_X12_isDone_2 at hF
    refine x_iload_n hC dX12_isDone_2 rfl 2 rfl ?_
    refine x_aload_n hC dX12_isDone_3 rfl 0 rfl ?_
    refine x_getI hC dX12_isDone_4 rfl flX12_408 rfl (by decide) rfl rfl ?_
    refine x_icmp_ge (tgt := 37) hC dX12_isDone_7 rfl rfl hv2 (hm.i 54 57 rfl) hF (fun hq1 hF => ?_) (fun hq1 hF => ?_)
    · refine x_iconst hC dX12_isDone_37 rfl ?_
      exact x_zreturn hC dX12_isDone_38 hm (Or.inr rfl) hF
    · refine x_iload_n hC dX12_isDone_10 rfl 1 rfl ?_
      refine x_iload_n hC dX12_isDone_11 rfl 2 rfl ?_
      refine x_callS1 (kc2 := 0) (ks2 := 0) (As := [iV v1, iV v2]) (rest := []) hC dX12_isDone_12 rfl hm (fun _ _ h => T_X12_saidBy b _ m v1 hv1 v2 hv2 h) mlX12_421 vsX12_saidBy rfl rfl (Nat.le_of_ble_eq_true rfl) (by decide) (by decide) rfl rfl hF (fun r2 m3 hr2 hm3 hF => ?_)
      refine x_aload_n hC dX12_isDone_15 rfl 0 rfl ?_
      refine x_getR (t := 59) hC dX12_isDone_16 rfl flX12_33 rfl (by decide) rfl rfl ?_
      refine x_aload_n hC dX12_isDone_19 rfl 0 rfl ?_
      refine x_getR (t := 84) hC dX12_isDone_20 rfl flX12_110 rfl (by decide) rfl rfl ?_
      refine x_iload_n hC dX12_isDone_23 rfl 2 rfl ?_
      refine x_iald hC dX12_isDone_24 rfl rfl (by decide) rfl hm3 hv2 hF (fun x4 hx4 hF => ?_)
      refine x_iald hC dX12_isDone_25 rfl rfl (by decide) rfl hm3 hx4 hF (fun x5 hx5 hF => ?_)
      refine x_icmp_eq (tgt := 31) hC dX12_isDone_26 rfl rfl hr2 hx5 hF (fun hq6 hF => ?_) (fun hq6 hF => ?_)
      · refine x_iinc (p := 2) (lv' := [(0, .ref (b.1 + 54)), (1, iV v1)]) hC dX12_isDone_31 rfl rfl (by decide) rfl hF (fun x7 hx7 hF => ?_)
        refine x_goto (tgt := 2) hC dX12_isDone_34 rfl ?_
        refine x_sub [1, 2, 0] rfl ?_
        exact ih v1 hv1 x7 hx7 m3 hm3 hF
      · refine x_iconst hC dX12_isDone_29 rfl ?_
        exact x_zreturn hC dX12_isDone_30 hm3 (Or.inl rfl) hF
set_option maxRecDepth 20000 in
set_option maxHeartbeats 4000000 in
theorem T_X12_isDone (b : Bs) (o : Mm) (m : Mm) (a1 : Int) (ha1 : inR a1) {r : Int} {m' : Mm} (h : F_X12_isDone a1 m = some (r, m')) : Cn yX12_isDone cX12_isDone 3 (some .boolean) (1) 0 0 3 b (false, o) m [.ref (b.1 + 54), iV a1] (F_X12_isDone a1 m) := by
  refine Cn_of rfl (Nat.le_of_ble_eq_true rfl) (fun g hC hm => ?_)
  have hF := okR_some h
  generalize hQ : (fun (r : Int) (m' : Mm) => F_X12_isDone a1 m = some (r, m')) = Q at hF ⊢
  clear hQ h
  replace hC : Cok g b RX12 cX12_isDone 3 1 (some .boolean) := hC
  refine x_lv (lv' := [(0, .ref (b.1 + 54)), (1, iV a1)]) rfl ?_
  unfold F_X12_isDone at hF
  refine x_iconst hC dX12_isDone_0 rfl ?_
  refine x_istore_nZ (lv' := [(0, .ref (b.1 + 54)), (1, iV a1)]) hC dX12_isDone_1 rfl rfl (by decide) rfl (Or.inl rfl) hF (fun x1 hx1 hF => ?_)
  refine x_sub [1, 2, 0] rfl ?_
  exact WL_X12_isDone_2 hC 100000  a1 ha1 x1 (rg_01 hx1) m hm hF
set_option maxRecDepth 20000 in
set_option maxHeartbeats 4000000 in
theorem WJ_X12_isState_40 {g : Gx} {b : Bs} {o : Mm} {Q : Int → Mm → Prop} {k_2 : Int → Int → Mm → Rs} (hC : Cok g b RX12 cX12_isState 3 1 (some .boolean)) (hk_2 : ∀ v1 : Int, inR v1 → ∀ v2 : Int, inR v2 → ∀ m : Mm, Rg m → okR (k_2 v1 v2 m) Q → X g b (false, o) 3 (ZM g b (false, o) 3 Q) 2 [(0, .ref (b.1 + 54)), (1, iV v1), (2, iV v2)] [] m 0 0) (v1 : Int) (hv1 : inR v1) (v2 : Int) (hv2 : inR v2) (m : Mm) (hm : Rg m) (hF : okR (J_X12_isState_40 k_2 v1 v2 m) Q) : X g b (false, o) 3 (ZM g b (false, o) 3 Q) 40 [(0, .ref (b.1 + 54)), (1, iV v1), (2, iV v2)] [] m 0 0 := by
  unfold J_X12_isState_40 at hF
  refine x_iinc (p := 2) (lv' := [(0, .ref (b.1 + 54)), (1, iV v1)]) hC dX12_isState_40 rfl rfl (by decide) rfl hF (fun x1 hx1 hF => ?_)
  refine x_goto (tgt := 2) hC dX12_isState_43 rfl ?_
  refine x_sub [1, 2, 0] rfl ?_
  exact hk_2 v1 hv1 x1 hx1 m hm hF
set_option maxRecDepth 20000 in
set_option maxHeartbeats 4000000 in
theorem WL_X12_isState_2 {g : Gx} {b : Bs} {o : Mm} {Q : Int → Mm → Prop} (hC : Cok g b RX12 cX12_isState 3 1 (some .boolean)) : ∀ n : Nat, ∀ v1 : Int, inR v1 → ∀ v2 : Int, inR v2 → ∀ m : Mm, Rg m → okR (L_X12_isState_2 n v1 v2 m) Q → X g b (false, o) 3 (ZM g b (false, o) 3 Q) 2 [(0, .ref (b.1 + 54)), (1, iV v1), (2, iV v2)] [] m 0 0 := by
  intro n
  induction n with
  | zero => intro v1 hv1 v2 hv2 m hm hF; exact absurd hF (fun z => z)
  | succ n ih =>
    intro v1 hv1 v2 hv2 m hm hF
    have hF : okR (LB_X12_isState_2 (L_X12_isState_2 n) v1 v2 m) Q := hF
    unfold LB_X12_isState_2 at hF
    refine x_iload_n hC dX12_isState_2 rfl 2 rfl ?_
    refine x_iconst hC dX12_isState_3 rfl ?_
    refine x_icmp_ge (tgt := 46) hC dX12_isState_4 rfl rfl hv2 (rgc 4 rfl) hF (fun hq1 hF => ?_) (fun hq1 hF => ?_)
    · refine x_iconst hC dX12_isState_46 rfl ?_
      exact x_zreturn hC dX12_isState_47 hm (Or.inr rfl) hF
    · refine x_iload_n hC dX12_isState_7 rfl 1 rfl ?_
      refine x_iload_n hC dX12_isState_8 rfl 2 rfl ?_
      refine x_callS1 (kc2 := 0) (ks2 := 0) (As := [iV v1, iV v2]) (rest := []) hC dX12_isState_9 rfl hm (fun _ _ h => T_X12_saidBy b _ m v1 hv1 v2 hv2 h) mlX12_421 vsX12_saidBy rfl rfl (Nat.le_of_ble_eq_true rfl) (by decide) (by decide) rfl rfl hF (fun r2 m3 hr2 hm3 hF => ?_)
      refine x_iload_n hC dX12_isState_12 rfl 2 rfl ?_
      refine x_aload_n hC dX12_isState_13 rfl 0 rfl ?_
      refine x_getI hC dX12_isState_14 rfl flX12_408 rfl (by decide) rfl rfl ?_
      refine x_icmp_ge (tgt := 34) hC dX12_isState_17 rfl rfl hv2 (hm3.i 54 57 rfl) hF (fun hq4 hF => ?_) (fun hq4 hF => ?_)
      · refine x_iconst hC dX12_isState_34 rfl ?_
        refine x_icmp_le (tgt := 40) hC dX12_isState_35 rfl rfl hr2 (rgc 0 rfl) hF (fun hq5 hF => ?_) (fun hq5 hF => ?_)
        · exact WJ_X12_isState_40 hC ih  v1 hv1 v2 hv2 m3 hm3 hF
        · refine x_iconst hC dX12_isState_38 rfl ?_
          exact x_zreturn hC dX12_isState_39 hm3 (Or.inl rfl) hF
      · refine x_aload_n hC dX12_isState_20 rfl 0 rfl ?_
        refine x_getR (t := 59) hC dX12_isState_21 rfl flX12_33 rfl (by decide) rfl rfl ?_
        refine x_aload_n hC dX12_isState_24 rfl 0 rfl ?_
        refine x_getR (t := 84) hC dX12_isState_25 rfl flX12_110 rfl (by decide) rfl rfl ?_
        refine x_iload_n hC dX12_isState_28 rfl 2 rfl ?_
        refine x_iald hC dX12_isState_29 rfl rfl (by decide) rfl hm3 hv2 hF (fun x6 hx6 hF => ?_)
        refine x_iald hC dX12_isState_30 rfl rfl (by decide) rfl hm3 hx6 hF (fun x7 hx7 hF => ?_)
        refine x_goto (tgt := 35) hC dX12_isState_31 rfl ?_
        refine x_icmp_le (tgt := 40) hC dX12_isState_35 rfl rfl hr2 hx7 hF (fun hq8 hF => ?_) (fun hq8 hF => ?_)
        · exact WJ_X12_isState_40 hC ih  v1 hv1 v2 hv2 m3 hm3 hF
        · refine x_iconst hC dX12_isState_38 rfl ?_
          exact x_zreturn hC dX12_isState_39 hm3 (Or.inl rfl) hF
set_option maxRecDepth 20000 in
set_option maxHeartbeats 4000000 in
theorem T_X12_isState (b : Bs) (o : Mm) (m : Mm) (a1 : Int) (ha1 : inR a1) {r : Int} {m' : Mm} (h : F_X12_isState a1 m = some (r, m')) : Cn yX12_isState cX12_isState 3 (some .boolean) (1) 0 0 3 b (false, o) m [.ref (b.1 + 54), iV a1] (F_X12_isState a1 m) := by
  refine Cn_of rfl (Nat.le_of_ble_eq_true rfl) (fun g hC hm => ?_)
  have hF := okR_some h
  generalize hQ : (fun (r : Int) (m' : Mm) => F_X12_isState a1 m = some (r, m')) = Q at hF ⊢
  clear hQ h
  replace hC : Cok g b RX12 cX12_isState 3 1 (some .boolean) := hC
  refine x_lv (lv' := [(0, .ref (b.1 + 54)), (1, iV a1)]) rfl ?_
  unfold F_X12_isState at hF
  refine x_iconst hC dX12_isState_0 rfl ?_
  refine x_istore_nZ (lv' := [(0, .ref (b.1 + 54)), (1, iV a1)]) hC dX12_isState_1 rfl rfl (by decide) rfl (Or.inl rfl) hF (fun x1 hx1 hF => ?_)
  refine x_sub [1, 2, 0] rfl ?_
  exact WL_X12_isState_2 hC 100000  a1 ha1 x1 (rg_01 hx1) m hm hF
set_option maxRecDepth 20000 in
set_option maxHeartbeats 4000000 in
theorem T_X12_soonPlace (b : Bs) (o : Mm) (m : Mm) (a1 : Int) (ha1 : inR a1) (a2 : Int) (ha2 : inR a2) (a3 : Int) (ha3 : inR a3) {r : Int} {m' : Mm} (h : F_X12_soonPlace a1 a2 a3 m = some (r, m')) : Cn yX12_soonPlace cX12_soonPlace 3 (some .int) (0) 0 0 1 b (false, o) m [iV a1, iV a2, iV a3] (F_X12_soonPlace a1 a2 a3 m) := by
  refine Cn_of rfl (Nat.le_of_ble_eq_true rfl) (fun g hC hm => ?_)
  have hF := okR_some h
  generalize hQ : (fun (r : Int) (m' : Mm) => F_X12_soonPlace a1 a2 a3 m = some (r, m')) = Q at hF ⊢
  clear hQ h
  replace hC : Cok g b RX12 cX12_soonPlace 3 0 (some .int) := hC
  refine x_lv (lv' := [(0, iV a1), (1, iV a2), (2, iV a3)]) rfl ?_
  unfold F_X12_soonPlace at hF
  refine x_iload_n hC dX12_soonPlace_0 rfl 0 rfl ?_
  refine x_iconst hC dX12_soonPlace_1 rfl ?_
  refine x_imul hC dX12_soonPlace_2 rfl ?_
  refine x_iload_n hC dX12_soonPlace_3 rfl 1 rfl ?_
  refine x_iadd hC dX12_soonPlace_4 rfl ?_
  refine x_bipush hC dX12_soonPlace_5 rfl rfl ?_
  refine x_imul hC dX12_soonPlace_7 rfl ?_
  refine x_iload_n hC dX12_soonPlace_8 rfl 2 rfl ?_
  refine x_iadd hC dX12_soonPlace_9 rfl ?_
  exact x_ireturn hC dX12_soonPlace_10 hm (rg_wr _) hF
set_option maxRecDepth 20000 in
set_option maxHeartbeats 4000000 in
theorem T_X12_says (b : Bs) (o : Mm) (m : Mm) (a1 : Int) (ha1 : inR a1) (a2 : Int) (ha2 : inR a2) (a3 : Int) (ha3 : inR a3) (a4 : Int) (ha4 : inR a4) (a5 : Int) (ha5 : inR a5) {r : Int} {m' : Mm} (h : F_X12_says a1 a2 a3 a4 a5 m = some (r, m')) : Cn yX12_says cX12_says 7 (some .boolean) (1) 0 0 3 b (false, o) m [.ref (b.1 + 54), iV a1, iV a2, iV a3, iV a4, iV a5] (F_X12_says a1 a2 a3 a4 a5 m) := by
  refine Cn_of rfl (Nat.le_of_ble_eq_true rfl) (fun g hC hm => ?_)
  have hF := okR_some h
  generalize hQ : (fun (r : Int) (m' : Mm) => F_X12_says a1 a2 a3 a4 a5 m = some (r, m')) = Q at hF ⊢
  clear hQ h
  replace hC : Cok g b RX12 cX12_says 7 1 (some .boolean) := hC
  refine x_lv (lv' := [(0, .ref (b.1 + 54)), (1, iV a1), (2, iV a2), (3, iV a3), (4, iV a4), (5, iV a5)]) rfl ?_
  unfold F_X12_says at hF
  refine x_iload_n hC dX12_says_0 rfl 1 rfl ?_
  refine x_iload hC dX12_says_1 rfl 4 rfl ?_
  refine x_callS1 (kc2 := 0) (ks2 := 0) (As := [iV a1, iV a4]) (rest := []) hC dX12_says_3 rfl hm (fun _ _ h => T_X12_saidBy b _ m a1 ha1 a4 ha4 h) mlX12_421 vsX12_saidBy rfl rfl (Nat.le_of_ble_eq_true rfl) (by decide) (by decide) rfl rfl hF (fun r1 m2 hr1 hm2 hF => ?_)
  refine x_istore (lv' := [(0, .ref (b.1 + 54)), (1, iV a1), (2, iV a2), (3, iV a3), (4, iV a4), (5, iV a5)]) hC dX12_says_6 rfl (by decide) rfl hr1 hF (fun x3 hx3 hF => ?_)
  refine x_iload hC dX12_says_8 rfl 0 rfl ?_
  refine x_aload_n hC dX12_says_10 rfl 1 rfl ?_
  refine x_getR (t := 59) hC dX12_says_11 rfl flX12_33 rfl (by decide) rfl rfl ?_
  refine x_aload_n hC dX12_says_14 rfl 1 rfl ?_
  refine x_getR (t := 84) hC dX12_says_15 rfl flX12_110 rfl (by decide) rfl rfl ?_
  refine x_iload hC dX12_says_18 rfl 5 rfl ?_
  refine x_iald hC dX12_says_20 rfl rfl (by decide) rfl hm2 ha4 hF (fun x4 hx4 hF => ?_)
  refine x_iald hC dX12_says_21 rfl rfl (by decide) rfl hm2 hx4 hF (fun x5 hx5 hF => ?_)
  refine x_icmp_ge (tgt := 63) hC dX12_says_22 rfl rfl hx3 hx5 hF (fun hq6 hF => ?_) (fun hq6 hF => ?_)
  · refine x_iconst hC dX12_says_63 rfl ?_
    exact x_zreturn hC dX12_says_64 hm2 (Or.inl rfl) hF
  · refine x_aload_n hC dX12_says_25 rfl 1 rfl ?_
    refine x_getR (t := 85) hC dX12_says_26 rfl flX12_113 rfl (by decide) rfl rfl ?_
    refine x_iload hC dX12_says_29 rfl 5 rfl ?_
    refine x_iload hC dX12_says_31 rfl 6 rfl ?_
    refine x_iload_n hC dX12_says_33 rfl 3 rfl ?_
    refine x_iload_n hC dX12_says_34 rfl 4 rfl ?_
    refine x_callS1 (kc2 := 0) (ks2 := 0) (As := [iV a4, iV a5, iV a2, iV a3]) (rest := [.ref (b.1 + 85)]) hC dX12_says_35 rfl hm2 (fun _ _ h => T_X12_meansPlace b _ m2 a4 ha4 a5 ha5 a2 ha2 a3 ha3 h) mlX12_414 vsX12_meansPlace rfl rfl (Nat.le_of_ble_eq_true rfl) (by decide) (by decide) rfl rfl hF (fun r7 m8 hr7 hm8 hF => ?_)
    refine x_iald hC dX12_says_38 rfl rfl (by decide) rfl hm8 hr7 hF (fun x9 hx9 hF => ?_)
    refine x_aload_n hC dX12_says_39 rfl 1 rfl ?_
    refine x_getR (t := 60) hC dX12_says_40 rfl flX12_36 rfl (by decide) rfl rfl ?_
    refine x_iconst hC dX12_says_43 rfl ?_
    refine x_aload_n hC dX12_says_44 rfl 1 rfl ?_
    refine x_getR (t := 84) hC dX12_says_45 rfl flX12_110 rfl (by decide) rfl rfl ?_
    refine x_iload hC dX12_says_48 rfl 5 rfl ?_
    refine x_iald hC dX12_says_50 rfl rfl (by decide) rfl hm8 ha4 hF (fun x10 hx10 hF => ?_)
    refine x_imul hC dX12_says_51 rfl ?_
    refine x_iload hC dX12_says_52 rfl 0 rfl ?_
    refine x_iadd hC dX12_says_54 rfl ?_
    refine x_iald hC dX12_says_55 rfl rfl (by decide) rfl hm8 (rg_wr _) hF (fun x11 hx11 hF => ?_)
    refine x_icmp_ne (tgt := 63) hC dX12_says_56 rfl rfl hx9 hx11 hF (fun hq12 hF => ?_) (fun hq12 hF => ?_)
    · refine x_iconst hC dX12_says_63 rfl ?_
      exact x_zreturn hC dX12_says_64 hm8 (Or.inl rfl) hF
    · refine x_iconst hC dX12_says_59 rfl ?_
      refine x_goto (tgt := 64) hC dX12_says_60 rfl ?_
      exact x_zreturn hC dX12_says_64 hm8 (Or.inr rfl) hF
set_option maxRecDepth 20000 in
set_option maxHeartbeats 4000000 in
theorem T_X12_costOf (b : Bs) (o : Mm) (m : Mm) (a1 : Int) (ha1 : inR a1) {r : Int} {m' : Mm} (h : F_X12_costOf a1 m = some (r, m')) : Cn yX12_costOf cX12_costOf 1 (some .int) (0) 0 0 1 b (false, o) m [iV a1] (F_X12_costOf a1 m) := by
  refine Cn_of rfl (Nat.le_of_ble_eq_true rfl) (fun g hC hm => ?_)
  have hF := okR_some h
  generalize hQ : (fun (r : Int) (m' : Mm) => F_X12_costOf a1 m = some (r, m')) = Q at hF ⊢
  clear hQ h
  replace hC : Cok g b RX12 cX12_costOf 1 0 (some .int) := hC
  refine x_lv (lv' := [(0, iV a1)]) rfl ?_
  unfold F_X12_costOf at hF
  refine x_iload_n hC dX12_costOf_0 rfl 0 rfl ?_
  refine x_bipush hC dX12_costOf_1 rfl rfl ?_
  refine x_icmp_ne (tgt := 10) hC dX12_costOf_3 rfl rfl ha1 (rgc 21 rfl) hF (fun hq1 hF => ?_) (fun hq1 hF => ?_)
  · refine x_iload_n hC dX12_costOf_10 rfl 0 rfl ?_
    exact x_ireturn hC dX12_costOf_11 hm ha1 hF
  · refine x_iconst hC dX12_costOf_6 rfl ?_
    refine x_goto (tgt := 11) hC dX12_costOf_7 rfl ?_
    exact x_ireturn hC dX12_costOf_11 hm (rgc 0 rfl) hF

set_option maxRecDepth 20000 in
set_option maxHeartbeats 4000000 in
theorem WJ_X12_laysSoon_196 {g : Gx} {b : Bs} {o : Mm} {Q : Int → Mm → Prop} {k_4 : Int → Mm → Rs} {k_27 : Int → Int → Int → Mm → Rs} {k_35 : Int → Int → Int → Int → Mm → Rs} {k_87 : Int → Int → Int → Int → Int → Int → Int → Mm → Rs} {k_109 : Int → Int → Int → Int → Int → Int → Int → Int → Mm → Rs} (hC : Cok g b RX12 cX12_laysSoon 10 2 none) (hk_4 : ∀ v1 : Int, inR v1 → ∀ m : Mm, Rg m → okR (k_4 v1 m) Q → X g b (false, o) 10 (ZM g b (false, o) 0 Q) 4 [(0, .ref (b.1 + 54)), (1, iV v1)] [] m 0 0) (hk_27 : ∀ v1 : Int, inR v1 → ∀ v2 : Int, (v2 = 0 ∨ v2 = 1) → ∀ v3 : Int, inR v3 → ∀ m : Mm, Rg m → okR (k_27 v1 v2 v3 m) Q → X g b (false, o) 10 (ZM g b (false, o) 0 Q) 27 [(0, .ref (b.1 + 54)), (1, iV v1), (2, iV v2), (3, iV v3)] [] m 0 0) (hk_35 : ∀ v1 : Int, inR v1 → ∀ v2 : Int, (v2 = 0 ∨ v2 = 1) → ∀ v3 : Int, inR v3 → ∀ v4 : Int, inR v4 → ∀ m : Mm, Rg m → okR (k_35 v1 v2 v3 v4 m) Q → X g b (false, o) 10 (ZM g b (false, o) 0 Q) 35 [(0, .ref (b.1 + 54)), (1, iV v1), (2, iV v2), (3, iV v3), (4, iV v4)] [] m 0 0) (hk_87 : ∀ v1 : Int, inR v1 → ∀ v2 : Int, (v2 = 0 ∨ v2 = 1) → ∀ v3 : Int, inR v3 → ∀ v4 : Int, inR v4 → ∀ v5 : Int, inR v5 → ∀ v6 : Int, (v6 = 0 ∨ v6 = 1) → ∀ v7 : Int, inR v7 → ∀ m : Mm, Rg m → okR (k_87 v1 v2 v3 v4 v5 v6 v7 m) Q → X g b (false, o) 10 (ZM g b (false, o) 0 Q) 87 [(0, .ref (b.1 + 54)), (1, iV v1), (2, iV v2), (3, iV v3), (4, iV v4), (5, iV v5), (6, iV v6), (7, iV v7)] [] m 0 0) (hk_109 : ∀ v1 : Int, inR v1 → ∀ v2 : Int, (v2 = 0 ∨ v2 = 1) → ∀ v3 : Int, inR v3 → ∀ v4 : Int, inR v4 → ∀ v5 : Int, inR v5 → ∀ v6 : Int, (v6 = 0 ∨ v6 = 1) → ∀ v7 : Int, inR v7 → ∀ v8 : Int, inR v8 → ∀ m : Mm, Rg m → okR (k_109 v1 v2 v3 v4 v5 v6 v7 v8 m) Q → X g b (false, o) 10 (ZM g b (false, o) 0 Q) 109 [(0, .ref (b.1 + 54)), (1, iV v1), (2, iV v2), (3, iV v3), (4, iV v4), (5, iV v5), (6, iV v6), (7, iV v7), (8, iV v8)] [] m 0 0) (v1 : Int) (hv1 : inR v1) (v2 : Int) (hv2 : (v2 = 0 ∨ v2 = 1)) (v3 : Int) (hv3 : inR v3) (v4 : Int) (hv4 : inR v4) (v5 : Int) (hv5 : inR v5) (v6 : Int) (hv6 : (v6 = 0 ∨ v6 = 1)) (v7 : Int) (hv7 : inR v7) (v8 : Int) (hv8 : inR v8) (m : Mm) (hm : Rg m) (hF : okR (J_X12_laysSoon_196 k_4 k_27 k_35 k_87 k_109 v1 v2 v3 v4 v5 v6 v7 v8 m) Q) : X g b (false, o) 10 (ZM g b (false, o) 0 Q) 196 [(0, .ref (b.1 + 54)), (1, iV v1), (2, iV v2), (3, iV v3), (4, iV v4), (5, iV v5), (6, iV v6), (7, iV v7), (8, iV v8)] [] m 0 0 := by
  unfold J_X12_laysSoon_196 at hF
  refine x_iinc (p := 8) (lv' := [(0, .ref (b.1 + 54)), (1, iV v1), (2, iV v2), (3, iV v3), (4, iV v4), (5, iV v5), (6, iV v6), (7, iV v7)]) hC dX12_laysSoon_196 rfl rfl (by decide) rfl hF (fun x1 hx1 hF => ?_)
  refine x_goto (tgt := 109) hC dX12_laysSoon_199 rfl ?_
  refine x_sub [1, 2, 3, 4, 5, 6, 7, 8, 0] rfl ?_
  exact hk_109 v1 hv1 v2 hv2 v3 hv3 v4 hv4 v5 hv5 v6 hv6 v7 hv7 x1 hx1 m hm hF
set_option maxRecDepth 20000 in
set_option maxHeartbeats 4000000 in
theorem WJ_X12_laysSoon_126 {g : Gx} {b : Bs} {o : Mm} {Q : Int → Mm → Prop} {k_4 : Int → Mm → Rs} {k_27 : Int → Int → Int → Mm → Rs} {k_35 : Int → Int → Int → Int → Mm → Rs} {k_87 : Int → Int → Int → Int → Int → Int → Int → Mm → Rs} {k_109 : Int → Int → Int → Int → Int → Int → Int → Int → Mm → Rs} (hC : Cok g b RX12 cX12_laysSoon 10 2 none) (hk_4 : ∀ v1 : Int, inR v1 → ∀ m : Mm, Rg m → okR (k_4 v1 m) Q → X g b (false, o) 10 (ZM g b (false, o) 0 Q) 4 [(0, .ref (b.1 + 54)), (1, iV v1)] [] m 0 0) (hk_27 : ∀ v1 : Int, inR v1 → ∀ v2 : Int, (v2 = 0 ∨ v2 = 1) → ∀ v3 : Int, inR v3 → ∀ m : Mm, Rg m → okR (k_27 v1 v2 v3 m) Q → X g b (false, o) 10 (ZM g b (false, o) 0 Q) 27 [(0, .ref (b.1 + 54)), (1, iV v1), (2, iV v2), (3, iV v3)] [] m 0 0) (hk_35 : ∀ v1 : Int, inR v1 → ∀ v2 : Int, (v2 = 0 ∨ v2 = 1) → ∀ v3 : Int, inR v3 → ∀ v4 : Int, inR v4 → ∀ m : Mm, Rg m → okR (k_35 v1 v2 v3 v4 m) Q → X g b (false, o) 10 (ZM g b (false, o) 0 Q) 35 [(0, .ref (b.1 + 54)), (1, iV v1), (2, iV v2), (3, iV v3), (4, iV v4)] [] m 0 0) (hk_87 : ∀ v1 : Int, inR v1 → ∀ v2 : Int, (v2 = 0 ∨ v2 = 1) → ∀ v3 : Int, inR v3 → ∀ v4 : Int, inR v4 → ∀ v5 : Int, inR v5 → ∀ v6 : Int, (v6 = 0 ∨ v6 = 1) → ∀ v7 : Int, inR v7 → ∀ m : Mm, Rg m → okR (k_87 v1 v2 v3 v4 v5 v6 v7 m) Q → X g b (false, o) 10 (ZM g b (false, o) 0 Q) 87 [(0, .ref (b.1 + 54)), (1, iV v1), (2, iV v2), (3, iV v3), (4, iV v4), (5, iV v5), (6, iV v6), (7, iV v7)] [] m 0 0) (hk_109 : ∀ v1 : Int, inR v1 → ∀ v2 : Int, (v2 = 0 ∨ v2 = 1) → ∀ v3 : Int, inR v3 → ∀ v4 : Int, inR v4 → ∀ v5 : Int, inR v5 → ∀ v6 : Int, (v6 = 0 ∨ v6 = 1) → ∀ v7 : Int, inR v7 → ∀ v8 : Int, inR v8 → ∀ m : Mm, Rg m → okR (k_109 v1 v2 v3 v4 v5 v6 v7 v8 m) Q → X g b (false, o) 10 (ZM g b (false, o) 0 Q) 109 [(0, .ref (b.1 + 54)), (1, iV v1), (2, iV v2), (3, iV v3), (4, iV v4), (5, iV v5), (6, iV v6), (7, iV v7), (8, iV v8)] [] m 0 0) (v1 : Int) (hv1 : inR v1) (v2 : Int) (hv2 : (v2 = 0 ∨ v2 = 1)) (v3 : Int) (hv3 : inR v3) (v4 : Int) (hv4 : inR v4) (v5 : Int) (hv5 : inR v5) (v6 : Int) (hv6 : (v6 = 0 ∨ v6 = 1)) (v7 : Int) (hv7 : inR v7) (v8 : Int) (hv8 : inR v8) (m : Mm) (hm : Rg m) (hF : okR (J_X12_laysSoon_126 k_4 k_27 k_35 k_87 k_109 v1 v2 v3 v4 v5 v6 v7 v8 m) Q) : X g b (false, o) 10 (ZM g b (false, o) 0 Q) 126 [(0, .ref (b.1 + 54)), (1, iV v1), (2, iV v2), (3, iV v3), (4, iV v4), (5, iV v5), (6, iV v6), (7, iV v7), (8, iV v8)] [] m 0 0 := by
  unfold J_X12_laysSoon_126 at hF
  refine x_aload_n hC dX12_laysSoon_126 rfl 0 rfl ?_
  refine x_iload_n hC dX12_laysSoon_127 rfl 1 rfl ?_
  refine x_iload_n hC dX12_laysSoon_128 rfl 3 rfl ?_
  refine x_iload hC dX12_laysSoon_129 rfl 4 rfl ?_
  refine x_iload hC dX12_laysSoon_131 rfl 7 rfl ?_
  refine x_iload hC dX12_laysSoon_133 rfl 8 rfl ?_
  refine x_callV3 (kc2 := 0) (ks2 := 0) (k := 54) (As := [iV v1, iV v3, iV v4, iV v7, iV v8]) (rest := []) hC dX12_laysSoon_135 rfl hm (fun _ _ h => T_X12_says b _ m v1 hv1 v3 hv3 v4 hv4 v7 hv7 v8 hv8 h) mlX12_431 vlX12_says rfl (by decide) rfl rfl (Nat.le_of_ble_eq_true rfl) (by decide) (by decide) rfl rfl hF (fun r1 m2 hr1 hm2 hF => ?_)
  refine x_if_ne (tgt := 144) hC dX12_laysSoon_138 rfl rfl (rg_01 hr1) hF (fun hq3 hF => ?_) (fun hq3 hF => ?_)
  · refine x_aload_n hC dX12_laysSoon_144 rfl 0 rfl ?_
    refine x_getR (t := 86) hC dX12_laysSoon_145 rfl flX12_117 rfl (by decide) rfl rfl ?_
    refine x_iload_n hC dX12_laysSoon_148 rfl 1 rfl ?_
    refine x_iload hC dX12_laysSoon_149 rfl 7 rfl ?_
    refine x_callS1 (kc2 := 0) (ks2 := 0) (As := [iV v7]) (rest := [iV v1, .ref (b.1 + 86)]) hC dX12_laysSoon_151 rfl hm2 (fun _ _ h => T_X12_fives b _ m2 v7 hv7 h) mlX12_435 vsX12_fives rfl rfl (Nat.le_of_ble_eq_true rfl) (by decide) (by decide) rfl rfl hF (fun r4 m5 hr4 hm5 hF => ?_)
    refine x_iadd hC dX12_laysSoon_154 rfl ?_
    refine x_iload hC dX12_laysSoon_155 rfl 7 rfl ?_
    refine x_iload hC dX12_laysSoon_157 rfl 8 rfl ?_
    refine x_callS1 (kc2 := 0) (ks2 := 0) (As := [iV (wr (v1 + r4)), iV v7, iV v8]) (rest := [.ref (b.1 + 86)]) hC dX12_laysSoon_159 rfl hm5 (fun _ _ h => T_X12_soonPlace b _ m5 (wr (v1 + r4)) (rg_wr _) v7 hv7 v8 hv8 h) mlX12_438 vsX12_soonPlace rfl rfl (Nat.le_of_ble_eq_true rfl) (by decide) (by decide) rfl rfl hF (fun r6 m7 hr6 hm7 hF => ?_)
    refine x_iald hC dX12_laysSoon_162 rfl rfl (by decide) rfl hm7 hr6 hF (fun x8 hx8 hF => ?_)
    refine x_istore (lv' := [(0, .ref (b.1 + 54)), (1, iV v1), (2, iV v2), (3, iV v3), (4, iV v4), (5, iV v5), (6, iV v6), (7, iV v7), (8, iV v8)]) hC dX12_laysSoon_163 rfl (by decide) rfl hx8 hF (fun x9 hx9 hF => ?_)
    refine x_iload hC dX12_laysSoon_165 rfl 0 rfl ?_
    refine x_ldc_w (x := 1000000000) hC dX12_laysSoon_167 rfl kwX12_430 ?_
    refine x_icmp_ge (tgt := 196) hC dX12_laysSoon_170 rfl rfl hx9 (rgc 1000000000 rfl) hF (fun hq10 hF => ?_) (fun hq10 hF => ?_)
    · refine x_sub [1, 2, 3, 4, 5, 6, 7, 8, 9] rfl ?_
      exact WJ_X12_laysSoon_196 hC hk_4 hk_27 hk_35 hk_87 hk_109  v1 hv1 v2 hv2 v3 hv3 v4 hv4 v5 hv5 v6 hv6 v7 hv7 v8 hv8 m7 hm7 hF
    · refine x_iload hC dX12_laysSoon_173 rfl 9 rfl ?_
      refine x_callS1 (kc2 := 0) (ks2 := 0) (As := [iV v8]) (rest := []) hC dX12_laysSoon_175 rfl hm7 (fun _ _ h => T_X12_costOf b _ m7 v8 hv8 h) mlX12_441 vsX12_costOf rfl rfl (Nat.le_of_ble_eq_true rfl) (by decide) (by decide) rfl rfl hF (fun r11 m12 hr11 hm12 hF => ?_)
      refine x_iload hC dX12_laysSoon_178 rfl 0 rfl ?_
      refine x_iadd hC dX12_laysSoon_180 rfl ?_
      refine x_iload hC dX12_laysSoon_181 rfl 6 rfl ?_
      refine x_icmp_ge (tgt := 196) hC dX12_laysSoon_183 rfl rfl (rg_wr _) hv5 hF (fun hq13 hF => ?_) (fun hq13 hF => ?_)
      · refine x_sub [1, 2, 3, 4, 5, 6, 7, 8, 9] rfl ?_
        exact WJ_X12_laysSoon_196 hC hk_4 hk_27 hk_35 hk_87 hk_109  v1 hv1 v2 hv2 v3 hv3 v4 hv4 v5 hv5 v6 hv6 v7 hv7 v8 hv8 m12 hm12 hF
      · refine x_iload hC dX12_laysSoon_186 rfl 9 rfl ?_
        refine x_callS1 (kc2 := 0) (ks2 := 0) (As := [iV v8]) (rest := []) hC dX12_laysSoon_188 rfl hm12 (fun _ _ h => T_X12_costOf b _ m12 v8 hv8 h) mlX12_441 vsX12_costOf rfl rfl (Nat.le_of_ble_eq_true rfl) (by decide) (by decide) rfl rfl hF (fun r14 m15 hr14 hm15 hF => ?_)
        refine x_iload hC dX12_laysSoon_191 rfl 0 rfl ?_
        refine x_iadd hC dX12_laysSoon_193 rfl ?_
        refine x_istore (lv' := [(9, iV x9), (0, .ref (b.1 + 54)), (1, iV v1), (2, iV v2), (3, iV v3), (4, iV v4), (6, iV v6), (7, iV v7), (8, iV v8)]) hC dX12_laysSoon_194 rfl (by decide) rfl (rg_wr _) hF (fun x16 hx16 hF => ?_)
        refine x_sub [2, 3, 4, 5, 6, 0, 7, 8, 9] rfl ?_
        exact WJ_X12_laysSoon_196 hC hk_4 hk_27 hk_35 hk_87 hk_109  v1 hv1 v2 hv2 v3 hv3 v4 hv4 x16 hx16 v6 hv6 v7 hv7 v8 hv8 m15 hm15 hF
  · refine x_goto (tgt := 196) hC dX12_laysSoon_141 rfl ?_
    exact WJ_X12_laysSoon_196 hC hk_4 hk_27 hk_35 hk_87 hk_109  v1 hv1 v2 hv2 v3 hv3 v4 hv4 v5 hv5 v6 hv6 v7 hv7 v8 hv8 m2 hm2 hF
set_option maxRecDepth 20000 in
set_option maxHeartbeats 4000000 in
theorem WJ_X12_laysSoon_202 {g : Gx} {b : Bs} {o : Mm} {Q : Int → Mm → Prop} {k_4 : Int → Mm → Rs} {k_27 : Int → Int → Int → Mm → Rs} {k_35 : Int → Int → Int → Int → Mm → Rs} {k_87 : Int → Int → Int → Int → Int → Int → Int → Mm → Rs} (hC : Cok g b RX12 cX12_laysSoon 10 2 none) (hk_4 : ∀ v1 : Int, inR v1 → ∀ m : Mm, Rg m → okR (k_4 v1 m) Q → X g b (false, o) 10 (ZM g b (false, o) 0 Q) 4 [(0, .ref (b.1 + 54)), (1, iV v1)] [] m 0 0) (hk_27 : ∀ v1 : Int, inR v1 → ∀ v2 : Int, (v2 = 0 ∨ v2 = 1) → ∀ v3 : Int, inR v3 → ∀ m : Mm, Rg m → okR (k_27 v1 v2 v3 m) Q → X g b (false, o) 10 (ZM g b (false, o) 0 Q) 27 [(0, .ref (b.1 + 54)), (1, iV v1), (2, iV v2), (3, iV v3)] [] m 0 0) (hk_35 : ∀ v1 : Int, inR v1 → ∀ v2 : Int, (v2 = 0 ∨ v2 = 1) → ∀ v3 : Int, inR v3 → ∀ v4 : Int, inR v4 → ∀ m : Mm, Rg m → okR (k_35 v1 v2 v3 v4 m) Q → X g b (false, o) 10 (ZM g b (false, o) 0 Q) 35 [(0, .ref (b.1 + 54)), (1, iV v1), (2, iV v2), (3, iV v3), (4, iV v4)] [] m 0 0) (hk_87 : ∀ v1 : Int, inR v1 → ∀ v2 : Int, (v2 = 0 ∨ v2 = 1) → ∀ v3 : Int, inR v3 → ∀ v4 : Int, inR v4 → ∀ v5 : Int, inR v5 → ∀ v6 : Int, (v6 = 0 ∨ v6 = 1) → ∀ v7 : Int, inR v7 → ∀ m : Mm, Rg m → okR (k_87 v1 v2 v3 v4 v5 v6 v7 m) Q → X g b (false, o) 10 (ZM g b (false, o) 0 Q) 87 [(0, .ref (b.1 + 54)), (1, iV v1), (2, iV v2), (3, iV v3), (4, iV v4), (5, iV v5), (6, iV v6), (7, iV v7)] [] m 0 0) (v1 : Int) (hv1 : inR v1) (v2 : Int) (hv2 : (v2 = 0 ∨ v2 = 1)) (v3 : Int) (hv3 : inR v3) (v4 : Int) (hv4 : inR v4) (v5 : Int) (hv5 : inR v5) (v6 : Int) (hv6 : (v6 = 0 ∨ v6 = 1)) (v7 : Int) (hv7 : inR v7) (m : Mm) (hm : Rg m) (hF : okR (J_X12_laysSoon_202 k_4 k_27 k_35 k_87 v1 v2 v3 v4 v5 v6 v7 m) Q) : X g b (false, o) 10 (ZM g b (false, o) 0 Q) 202 [(0, .ref (b.1 + 54)), (1, iV v1), (2, iV v2), (3, iV v3), (4, iV v4), (5, iV v5), (6, iV v6), (7, iV v7)] [] m 0 0 := by
  unfold J_X12_laysSoon_202 at hF
  refine x_iinc (p := 7) (lv' := [(0, .ref (b.1 + 54)), (1, iV v1), (2, iV v2), (3, iV v3), (4, iV v4), (5, iV v5), (6, iV v6)]) hC dX12_laysSoon_202 rfl rfl (by decide) rfl hF (fun x1 hx1 hF => ?_)
  refine x_goto (tgt := 87) hC dX12_laysSoon_205 rfl ?_
  refine x_sub [1, 2, 3, 4, 5, 6, 7, 0] rfl ?_
  exact hk_87 v1 hv1 v2 hv2 v3 hv3 v4 hv4 v5 hv5 v6 hv6 x1 hx1 m hm hF
set_option maxRecDepth 20000 in
set_option maxHeartbeats 4000000 in
theorem WL_X12_laysSoon_109 {g : Gx} {b : Bs} {o : Mm} {Q : Int → Mm → Prop} {k_4 : Int → Mm → Rs} {k_27 : Int → Int → Int → Mm → Rs} {k_35 : Int → Int → Int → Int → Mm → Rs} {k_87 : Int → Int → Int → Int → Int → Int → Int → Mm → Rs} (hC : Cok g b RX12 cX12_laysSoon 10 2 none) (hk_4 : ∀ v1 : Int, inR v1 → ∀ m : Mm, Rg m → okR (k_4 v1 m) Q → X g b (false, o) 10 (ZM g b (false, o) 0 Q) 4 [(0, .ref (b.1 + 54)), (1, iV v1)] [] m 0 0) (hk_27 : ∀ v1 : Int, inR v1 → ∀ v2 : Int, (v2 = 0 ∨ v2 = 1) → ∀ v3 : Int, inR v3 → ∀ m : Mm, Rg m → okR (k_27 v1 v2 v3 m) Q → X g b (false, o) 10 (ZM g b (false, o) 0 Q) 27 [(0, .ref (b.1 + 54)), (1, iV v1), (2, iV v2), (3, iV v3)] [] m 0 0) (hk_35 : ∀ v1 : Int, inR v1 → ∀ v2 : Int, (v2 = 0 ∨ v2 = 1) → ∀ v3 : Int, inR v3 → ∀ v4 : Int, inR v4 → ∀ m : Mm, Rg m → okR (k_35 v1 v2 v3 v4 m) Q → X g b (false, o) 10 (ZM g b (false, o) 0 Q) 35 [(0, .ref (b.1 + 54)), (1, iV v1), (2, iV v2), (3, iV v3), (4, iV v4)] [] m 0 0) (hk_87 : ∀ v1 : Int, inR v1 → ∀ v2 : Int, (v2 = 0 ∨ v2 = 1) → ∀ v3 : Int, inR v3 → ∀ v4 : Int, inR v4 → ∀ v5 : Int, inR v5 → ∀ v6 : Int, (v6 = 0 ∨ v6 = 1) → ∀ v7 : Int, inR v7 → ∀ m : Mm, Rg m → okR (k_87 v1 v2 v3 v4 v5 v6 v7 m) Q → X g b (false, o) 10 (ZM g b (false, o) 0 Q) 87 [(0, .ref (b.1 + 54)), (1, iV v1), (2, iV v2), (3, iV v3), (4, iV v4), (5, iV v5), (6, iV v6), (7, iV v7)] [] m 0 0) : ∀ n : Nat, ∀ v1 : Int, inR v1 → ∀ v2 : Int, (v2 = 0 ∨ v2 = 1) → ∀ v3 : Int, inR v3 → ∀ v4 : Int, inR v4 → ∀ v5 : Int, inR v5 → ∀ v6 : Int, (v6 = 0 ∨ v6 = 1) → ∀ v7 : Int, inR v7 → ∀ v8 : Int, inR v8 → ∀ m : Mm, Rg m → okR (L_X12_laysSoon_109 k_4 k_27 k_35 k_87 n v1 v2 v3 v4 v5 v6 v7 v8 m) Q → X g b (false, o) 10 (ZM g b (false, o) 0 Q) 109 [(0, .ref (b.1 + 54)), (1, iV v1), (2, iV v2), (3, iV v3), (4, iV v4), (5, iV v5), (6, iV v6), (7, iV v7), (8, iV v8)] [] m 0 0 := by
  intro n
  induction n with
  | zero => intro v1 hv1 v2 hv2 v3 hv3 v4 hv4 v5 hv5 v6 hv6 v7 hv7 v8 hv8 m hm hF; exact absurd hF (fun z => z)
  | succ n ih =>
    intro v1 hv1 v2 hv2 v3 hv3 v4 hv4 v5 hv5 v6 hv6 v7 hv7 v8 hv8 m hm hF
    have hF : okR (LB_X12_laysSoon_109 k_4 k_27 k_35 k_87 (L_X12_laysSoon_109 k_4 k_27 k_35 k_87 n) v1 v2 v3 v4 v5 v6 v7 v8 m) Q := hF
    unfold LB_X12_laysSoon_109 at hF
    refine x_iload hC dX12_laysSoon_109 rfl 8 rfl ?_
    refine x_iload hC dX12_laysSoon_111 rfl 6 rfl ?_
    refine x_if_eq (tgt := 121) hC dX12_laysSoon_113 rfl rfl (rg_01 hv6) hF (fun hq1 hF => ?_) (fun hq1 hF => ?_)
    · refine x_bipush hC dX12_laysSoon_121 rfl rfl ?_
      refine x_icmp_ge (tgt := 202) hC dX12_laysSoon_123 rfl rfl hv8 (rgc 21 rfl) hF (fun hq2 hF => ?_) (fun hq2 hF => ?_)
      · refine x_sub [0, 1, 2, 3, 4, 5, 6, 7] rfl ?_
        exact WJ_X12_laysSoon_202 hC hk_4 hk_27 hk_35 hk_87  v1 hv1 v2 hv2 v3 hv3 v4 hv4 v5 hv5 v6 hv6 v7 hv7 m hm hF
      · exact WJ_X12_laysSoon_126 hC hk_4 hk_27 hk_35 hk_87 ih  v1 hv1 v2 hv2 v3 hv3 v4 hv4 v5 hv5 v6 hv6 v7 hv7 v8 hv8 m hm hF
    · refine x_bipush hC dX12_laysSoon_116 rfl rfl ?_
      refine x_goto (tgt := 123) hC dX12_laysSoon_118 rfl ?_
      refine x_icmp_ge (tgt := 202) hC dX12_laysSoon_123 rfl rfl hv8 (rgc 22 rfl) hF (fun hq3 hF => ?_) (fun hq3 hF => ?_)
      · refine x_sub [0, 1, 2, 3, 4, 5, 6, 7] rfl ?_
        exact WJ_X12_laysSoon_202 hC hk_4 hk_27 hk_35 hk_87  v1 hv1 v2 hv2 v3 hv3 v4 hv4 v5 hv5 v6 hv6 v7 hv7 m hm hF
      · exact WJ_X12_laysSoon_126 hC hk_4 hk_27 hk_35 hk_87 ih  v1 hv1 v2 hv2 v3 hv3 v4 hv4 v5 hv5 v6 hv6 v7 hv7 v8 hv8 m hm hF
set_option maxRecDepth 20000 in
set_option maxHeartbeats 4000000 in
theorem WJ_X12_laysSoon_208 {g : Gx} {b : Bs} {o : Mm} {Q : Int → Mm → Prop} {k_4 : Int → Mm → Rs} {k_27 : Int → Int → Int → Mm → Rs} {k_35 : Int → Int → Int → Int → Mm → Rs} (hC : Cok g b RX12 cX12_laysSoon 10 2 none) (hk_4 : ∀ v1 : Int, inR v1 → ∀ m : Mm, Rg m → okR (k_4 v1 m) Q → X g b (false, o) 10 (ZM g b (false, o) 0 Q) 4 [(0, .ref (b.1 + 54)), (1, iV v1)] [] m 0 0) (hk_27 : ∀ v1 : Int, inR v1 → ∀ v2 : Int, (v2 = 0 ∨ v2 = 1) → ∀ v3 : Int, inR v3 → ∀ m : Mm, Rg m → okR (k_27 v1 v2 v3 m) Q → X g b (false, o) 10 (ZM g b (false, o) 0 Q) 27 [(0, .ref (b.1 + 54)), (1, iV v1), (2, iV v2), (3, iV v3)] [] m 0 0) (hk_35 : ∀ v1 : Int, inR v1 → ∀ v2 : Int, (v2 = 0 ∨ v2 = 1) → ∀ v3 : Int, inR v3 → ∀ v4 : Int, inR v4 → ∀ m : Mm, Rg m → okR (k_35 v1 v2 v3 v4 m) Q → X g b (false, o) 10 (ZM g b (false, o) 0 Q) 35 [(0, .ref (b.1 + 54)), (1, iV v1), (2, iV v2), (3, iV v3), (4, iV v4)] [] m 0 0) (v1 : Int) (hv1 : inR v1) (v2 : Int) (hv2 : (v2 = 0 ∨ v2 = 1)) (v3 : Int) (hv3 : inR v3) (v4 : Int) (hv4 : inR v4) (v5 : Int) (hv5 : inR v5) (m : Mm) (hm : Rg m) (hF : okR (J_X12_laysSoon_208 k_4 k_27 k_35 v1 v2 v3 v4 v5 m) Q) : X g b (false, o) 10 (ZM g b (false, o) 0 Q) 208 [(0, .ref (b.1 + 54)), (1, iV v1), (2, iV v2), (3, iV v3), (4, iV v4), (5, iV v5)] [] m 0 0 := by
  unfold J_X12_laysSoon_208 at hF
  refine x_aload_n hC dX12_laysSoon_208 rfl 0 rfl ?_
  refine x_getR (t := 86) hC dX12_laysSoon_209 rfl flX12_117 rfl (by decide) rfl rfl ?_
  refine x_iload_n hC dX12_laysSoon_212 rfl 1 rfl ?_
  refine x_iload_n hC dX12_laysSoon_213 rfl 3 rfl ?_
  refine x_iload hC dX12_laysSoon_214 rfl 4 rfl ?_
  refine x_callS1 (kc2 := 0) (ks2 := 0) (As := [iV v1, iV v3, iV v4]) (rest := [.ref (b.1 + 86)]) hC dX12_laysSoon_216 rfl hm (fun _ _ h => T_X12_soonPlace b _ m v1 hv1 v3 hv3 v4 hv4 h) mlX12_438 vsX12_soonPlace rfl rfl (Nat.le_of_ble_eq_true rfl) (by decide) (by decide) rfl rfl hF (fun r1 m2 hr1 hm2 hF => ?_)
  refine x_iload hC dX12_laysSoon_219 rfl 5 rfl ?_
  refine x_iast hC dX12_laysSoon_221 rfl rfl (by decide) rfl hm2 hr1 hv5 hF (fun m3 hm3 hF => ?_)
  refine x_iinc (p := 4) (lv' := [(0, .ref (b.1 + 54)), (1, iV v1), (2, iV v2), (3, iV v3), (5, iV v5)]) hC dX12_laysSoon_222 rfl rfl (by decide) rfl hF (fun x4 hx4 hF => ?_)
  refine x_goto (tgt := 35) hC dX12_laysSoon_225 rfl ?_
  refine x_sub [1, 2, 3, 4, 0] rfl ?_
  exact hk_35 v1 hv1 v2 hv2 v3 hv3 x4 hx4 m3 hm3 hF
set_option maxRecDepth 20000 in
set_option maxHeartbeats 4000000 in
theorem WL_X12_laysSoon_87 {g : Gx} {b : Bs} {o : Mm} {Q : Int → Mm → Prop} {k_4 : Int → Mm → Rs} {k_27 : Int → Int → Int → Mm → Rs} {k_35 : Int → Int → Int → Int → Mm → Rs} (hC : Cok g b RX12 cX12_laysSoon 10 2 none) (hk_4 : ∀ v1 : Int, inR v1 → ∀ m : Mm, Rg m → okR (k_4 v1 m) Q → X g b (false, o) 10 (ZM g b (false, o) 0 Q) 4 [(0, .ref (b.1 + 54)), (1, iV v1)] [] m 0 0) (hk_27 : ∀ v1 : Int, inR v1 → ∀ v2 : Int, (v2 = 0 ∨ v2 = 1) → ∀ v3 : Int, inR v3 → ∀ m : Mm, Rg m → okR (k_27 v1 v2 v3 m) Q → X g b (false, o) 10 (ZM g b (false, o) 0 Q) 27 [(0, .ref (b.1 + 54)), (1, iV v1), (2, iV v2), (3, iV v3)] [] m 0 0) (hk_35 : ∀ v1 : Int, inR v1 → ∀ v2 : Int, (v2 = 0 ∨ v2 = 1) → ∀ v3 : Int, inR v3 → ∀ v4 : Int, inR v4 → ∀ m : Mm, Rg m → okR (k_35 v1 v2 v3 v4 m) Q → X g b (false, o) 10 (ZM g b (false, o) 0 Q) 35 [(0, .ref (b.1 + 54)), (1, iV v1), (2, iV v2), (3, iV v3), (4, iV v4)] [] m 0 0) : ∀ n : Nat, ∀ v1 : Int, inR v1 → ∀ v2 : Int, (v2 = 0 ∨ v2 = 1) → ∀ v3 : Int, inR v3 → ∀ v4 : Int, inR v4 → ∀ v5 : Int, inR v5 → ∀ v6 : Int, (v6 = 0 ∨ v6 = 1) → ∀ v7 : Int, inR v7 → ∀ m : Mm, Rg m → okR (L_X12_laysSoon_87 k_4 k_27 k_35 n v1 v2 v3 v4 v5 v6 v7 m) Q → X g b (false, o) 10 (ZM g b (false, o) 0 Q) 87 [(0, .ref (b.1 + 54)), (1, iV v1), (2, iV v2), (3, iV v3), (4, iV v4), (5, iV v5), (6, iV v6), (7, iV v7)] [] m 0 0 := by
  intro n
  induction n with
  | zero => intro v1 hv1 v2 hv2 v3 hv3 v4 hv4 v5 hv5 v6 hv6 v7 hv7 m hm hF; exact absurd hF (fun z => z)
  | succ n ih =>
    intro v1 hv1 v2 hv2 v3 hv3 v4 hv4 v5 hv5 v6 hv6 v7 hv7 m hm hF
    have hF : okR (LB_X12_laysSoon_87 k_4 k_27 k_35 (L_X12_laysSoon_87 k_4 k_27 k_35 n) v1 v2 v3 v4 v5 v6 v7 m) Q := hF
    unfold LB_X12_laysSoon_87 at hF
    refine x_iload hC dX12_laysSoon_87 rfl 7 rfl ?_
    refine x_aload_n hC dX12_laysSoon_89 rfl 0 rfl ?_
    refine x_getI hC dX12_laysSoon_90 rfl flX12_408 rfl (by decide) rfl rfl ?_
    refine x_icmp_ge (tgt := 208) hC dX12_laysSoon_93 rfl rfl hv7 (hm.i 54 57 rfl) hF (fun hq1 hF => ?_) (fun hq1 hF => ?_)
    · refine x_sub [0, 1, 2, 3, 4, 5] rfl ?_
      exact WJ_X12_laysSoon_208 hC hk_4 hk_27 hk_35  v1 hv1 v2 hv2 v3 hv3 v4 hv4 v5 hv5 m hm hF
    · refine x_iload hC dX12_laysSoon_96 rfl 6 rfl ?_
      refine x_if_eq (tgt := 106) hC dX12_laysSoon_98 rfl rfl (rg_01 hv6) hF (fun hq2 hF => ?_) (fun hq2 hF => ?_)
      · refine x_iconst hC dX12_laysSoon_106 rfl ?_
        refine x_istoreZ (lv' := [(0, .ref (b.1 + 54)), (1, iV v1), (2, iV v2), (3, iV v3), (4, iV v4), (5, iV v5), (6, iV v6), (7, iV v7)]) hC dX12_laysSoon_107 rfl (by decide) rfl (Or.inr rfl) hF (fun x3 hx3 hF => ?_)
        refine x_sub [1, 2, 3, 4, 5, 6, 7, 8, 0] rfl ?_
        exact WL_X12_laysSoon_109 hC hk_4 hk_27 hk_35 ih 100000  v1 hv1 v2 hv2 v3 hv3 v4 hv4 v5 hv5 v6 hv6 v7 hv7 x3 (rg_01 hx3) m hm hF
      · refine x_bipush hC dX12_laysSoon_101 rfl rfl ?_
        refine x_goto (tgt := 107) hC dX12_laysSoon_103 rfl ?_
        refine x_istore (lv' := [(0, .ref (b.1 + 54)), (1, iV v1), (2, iV v2), (3, iV v3), (4, iV v4), (5, iV v5), (6, iV v6), (7, iV v7)]) hC dX12_laysSoon_107 rfl (by decide) rfl (rgc 21 rfl) hF (fun x4 hx4 hF => ?_)
        refine x_sub [1, 2, 3, 4, 5, 6, 7, 8, 0] rfl ?_
        exact WL_X12_laysSoon_109 hC hk_4 hk_27 hk_35 ih 100000  v1 hv1 v2 hv2 v3 hv3 v4 hv4 v5 hv5 v6 hv6 v7 hv7 x4 hx4 m hm hF
set_option maxRecDepth 20000 in
set_option maxHeartbeats 4000000 in
theorem WJ_X12_laysSoon_84 {g : Gx} {b : Bs} {o : Mm} {Q : Int → Mm → Prop} {k_4 : Int → Mm → Rs} {k_27 : Int → Int → Int → Mm → Rs} {k_35 : Int → Int → Int → Int → Mm → Rs} (hC : Cok g b RX12 cX12_laysSoon 10 2 none) (hk_4 : ∀ v1 : Int, inR v1 → ∀ m : Mm, Rg m → okR (k_4 v1 m) Q → X g b (false, o) 10 (ZM g b (false, o) 0 Q) 4 [(0, .ref (b.1 + 54)), (1, iV v1)] [] m 0 0) (hk_27 : ∀ v1 : Int, inR v1 → ∀ v2 : Int, (v2 = 0 ∨ v2 = 1) → ∀ v3 : Int, inR v3 → ∀ m : Mm, Rg m → okR (k_27 v1 v2 v3 m) Q → X g b (false, o) 10 (ZM g b (false, o) 0 Q) 27 [(0, .ref (b.1 + 54)), (1, iV v1), (2, iV v2), (3, iV v3)] [] m 0 0) (hk_35 : ∀ v1 : Int, inR v1 → ∀ v2 : Int, (v2 = 0 ∨ v2 = 1) → ∀ v3 : Int, inR v3 → ∀ v4 : Int, inR v4 → ∀ m : Mm, Rg m → okR (k_35 v1 v2 v3 v4 m) Q → X g b (false, o) 10 (ZM g b (false, o) 0 Q) 35 [(0, .ref (b.1 + 54)), (1, iV v1), (2, iV v2), (3, iV v3), (4, iV v4)] [] m 0 0) (v1 : Int) (hv1 : inR v1) (v2 : Int) (hv2 : (v2 = 0 ∨ v2 = 1)) (v3 : Int) (hv3 : inR v3) (v4 : Int) (hv4 : inR v4) (v5 : Int) (hv5 : inR v5) (v6 : Int) (hv6 : (v6 = 0 ∨ v6 = 1)) (m : Mm) (hm : Rg m) (hF : okR (J_X12_laysSoon_84 k_4 k_27 k_35 v1 v2 v3 v4 v5 v6 m) Q) : X g b (false, o) 10 (ZM g b (false, o) 0 Q) 84 [(0, .ref (b.1 + 54)), (1, iV v1), (2, iV v2), (3, iV v3), (4, iV v4), (5, iV v5), (6, iV v6)] [] m 0 0 := by
  unfold J_X12_laysSoon_84 at hF
  refine x_iconst hC dX12_laysSoon_84 rfl ?_
  refine x_istoreZ (lv' := [(0, .ref (b.1 + 54)), (1, iV v1), (2, iV v2), (3, iV v3), (4, iV v4), (5, iV v5), (6, iV v6)]) hC dX12_laysSoon_85 rfl (by decide) rfl (Or.inl rfl) hF (fun x1 hx1 hF => ?_)
  refine x_sub [1, 2, 3, 4, 5, 6, 7, 0] rfl ?_
  exact WL_X12_laysSoon_87 hC hk_4 hk_27 hk_35 100000  v1 hv1 v2 hv2 v3 hv3 v4 hv4 v5 hv5 v6 hv6 x1 (rg_01 hx1) m hm hF
set_option maxRecDepth 20000 in
set_option maxHeartbeats 4000000 in
theorem WJ_X12_laysSoon_66 {g : Gx} {b : Bs} {o : Mm} {Q : Int → Mm → Prop} {k_4 : Int → Mm → Rs} {k_27 : Int → Int → Int → Mm → Rs} {k_35 : Int → Int → Int → Int → Mm → Rs} (hC : Cok g b RX12 cX12_laysSoon 10 2 none) (hk_4 : ∀ v1 : Int, inR v1 → ∀ m : Mm, Rg m → okR (k_4 v1 m) Q → X g b (false, o) 10 (ZM g b (false, o) 0 Q) 4 [(0, .ref (b.1 + 54)), (1, iV v1)] [] m 0 0) (hk_27 : ∀ v1 : Int, inR v1 → ∀ v2 : Int, (v2 = 0 ∨ v2 = 1) → ∀ v3 : Int, inR v3 → ∀ m : Mm, Rg m → okR (k_27 v1 v2 v3 m) Q → X g b (false, o) 10 (ZM g b (false, o) 0 Q) 27 [(0, .ref (b.1 + 54)), (1, iV v1), (2, iV v2), (3, iV v3)] [] m 0 0) (hk_35 : ∀ v1 : Int, inR v1 → ∀ v2 : Int, (v2 = 0 ∨ v2 = 1) → ∀ v3 : Int, inR v3 → ∀ v4 : Int, inR v4 → ∀ m : Mm, Rg m → okR (k_35 v1 v2 v3 v4 m) Q → X g b (false, o) 10 (ZM g b (false, o) 0 Q) 35 [(0, .ref (b.1 + 54)), (1, iV v1), (2, iV v2), (3, iV v3), (4, iV v4)] [] m 0 0) (v1 : Int) (hv1 : inR v1) (v2 : Int) (hv2 : (v2 = 0 ∨ v2 = 1)) (v3 : Int) (hv3 : inR v3) (v4 : Int) (hv4 : inR v4) (v5 : Int) (hv5 : inR v5) (v6 : Int) (hv6 : (v6 = 0 ∨ v6 = 1)) (m : Mm) (hm : Rg m) (hF : okR (J_X12_laysSoon_66 k_4 k_27 k_35 v1 v2 v3 v4 v5 v6 m) Q) : X g b (false, o) 10 (ZM g b (false, o) 0 Q) 66 [(0, .ref (b.1 + 54)), (1, iV v1), (2, iV v2), (3, iV v3), (4, iV v4), (5, iV v5), (6, iV v6)] [] m 0 0 := by
  unfold J_X12_laysSoon_66 at hF
  refine x_iload_n hC dX12_laysSoon_66 rfl 3 rfl ?_
  refine x_aload_n hC dX12_laysSoon_67 rfl 0 rfl ?_
  refine x_getI hC dX12_laysSoon_68 rfl flX12_408 rfl (by decide) rfl rfl ?_
  refine x_icmp_lt (tgt := 84) hC dX12_laysSoon_71 rfl rfl hv3 (hm.i 54 57 rfl) hF (fun hq1 hF => ?_) (fun hq1 hF => ?_)
  · exact WJ_X12_laysSoon_84 hC hk_4 hk_27 hk_35  v1 hv1 v2 hv2 v3 hv3 v4 hv4 v5 hv5 v6 hv6 m hm hF
  · refine x_iload_n hC dX12_laysSoon_74 rfl 3 rfl ?_
    refine x_iconst hC dX12_laysSoon_75 rfl ?_
    refine x_icmp_ne (tgt := 208) hC dX12_laysSoon_76 rfl rfl hv3 (rgc 4 rfl) hF (fun hq2 hF => ?_) (fun hq2 hF => ?_)
    · refine x_sub [0, 1, 2, 3, 4, 5] rfl ?_
      exact WJ_X12_laysSoon_208 hC hk_4 hk_27 hk_35  v1 hv1 v2 hv2 v3 hv3 v4 hv4 v5 hv5 m hm hF
    · refine x_iload hC dX12_laysSoon_79 rfl 6 rfl ?_
      refine x_if_eq (tgt := 208) hC dX12_laysSoon_81 rfl rfl (rg_01 hv6) hF (fun hq3 hF => ?_) (fun hq3 hF => ?_)
      · refine x_sub [0, 1, 2, 3, 4, 5] rfl ?_
        exact WJ_X12_laysSoon_208 hC hk_4 hk_27 hk_35  v1 hv1 v2 hv2 v3 hv3 v4 hv4 v5 hv5 m hm hF
      · exact WJ_X12_laysSoon_84 hC hk_4 hk_27 hk_35  v1 hv1 v2 hv2 v3 hv3 v4 hv4 v5 hv5 v6 hv6 m hm hF
set_option maxRecDepth 20000 in
set_option maxHeartbeats 4000000 in
theorem WJ_X12_laysSoon_55 {g : Gx} {b : Bs} {o : Mm} {Q : Int → Mm → Prop} {k_4 : Int → Mm → Rs} {k_27 : Int → Int → Int → Mm → Rs} {k_35 : Int → Int → Int → Int → Mm → Rs} (hC : Cok g b RX12 cX12_laysSoon 10 2 none) (hk_4 : ∀ v1 : Int, inR v1 → ∀ m : Mm, Rg m → okR (k_4 v1 m) Q → X g b (false, o) 10 (ZM g b (false, o) 0 Q) 4 [(0, .ref (b.1 + 54)), (1, iV v1)] [] m 0 0) (hk_27 : ∀ v1 : Int, inR v1 → ∀ v2 : Int, (v2 = 0 ∨ v2 = 1) → ∀ v3 : Int, inR v3 → ∀ m : Mm, Rg m → okR (k_27 v1 v2 v3 m) Q → X g b (false, o) 10 (ZM g b (false, o) 0 Q) 27 [(0, .ref (b.1 + 54)), (1, iV v1), (2, iV v2), (3, iV v3)] [] m 0 0) (hk_35 : ∀ v1 : Int, inR v1 → ∀ v2 : Int, (v2 = 0 ∨ v2 = 1) → ∀ v3 : Int, inR v3 → ∀ v4 : Int, inR v4 → ∀ m : Mm, Rg m → okR (k_35 v1 v2 v3 v4 m) Q → X g b (false, o) 10 (ZM g b (false, o) 0 Q) 35 [(0, .ref (b.1 + 54)), (1, iV v1), (2, iV v2), (3, iV v3), (4, iV v4)] [] m 0 0) (v1 : Int) (hv1 : inR v1) (v2 : Int) (hv2 : (v2 = 0 ∨ v2 = 1)) (v3 : Int) (hv3 : inR v3) (v4 : Int) (hv4 : inR v4) (v5 : Int) (hv5 : inR v5) (m : Mm) (hm : Rg m) (hF : okR (J_X12_laysSoon_55 k_4 k_27 k_35 v1 v2 v3 v4 v5 m) Q) : X g b (false, o) 10 (ZM g b (false, o) 0 Q) 55 [(0, .ref (b.1 + 54)), (1, iV v1), (2, iV v2), (3, iV v3), (4, iV v4), (5, iV v5)] [] m 0 0 := by
  unfold J_X12_laysSoon_55 at hF
  refine x_iload_n hC dX12_laysSoon_55 rfl 1 rfl ?_
  refine x_if_ne (tgt := 63) hC dX12_laysSoon_56 rfl rfl hv1 hF (fun hq1 hF => ?_) (fun hq1 hF => ?_)
  · refine x_iconst hC dX12_laysSoon_63 rfl ?_
    refine x_istoreZ (lv' := [(0, .ref (b.1 + 54)), (1, iV v1), (2, iV v2), (3, iV v3), (4, iV v4), (5, iV v5)]) hC dX12_laysSoon_64 rfl (by decide) rfl (Or.inl rfl) hF (fun x2 hx2 hF => ?_)
    refine x_sub [1, 2, 3, 4, 5, 6, 0] rfl ?_
    exact WJ_X12_laysSoon_66 hC hk_4 hk_27 hk_35  v1 hv1 v2 hv2 v3 hv3 v4 hv4 v5 hv5 x2 hx2 m hm hF
  · refine x_iconst hC dX12_laysSoon_59 rfl ?_
    refine x_goto (tgt := 64) hC dX12_laysSoon_60 rfl ?_
    refine x_istoreZ (lv' := [(0, .ref (b.1 + 54)), (1, iV v1), (2, iV v2), (3, iV v3), (4, iV v4), (5, iV v5)]) hC dX12_laysSoon_64 rfl (by decide) rfl (Or.inr rfl) hF (fun x3 hx3 hF => ?_)
    refine x_sub [1, 2, 3, 4, 5, 6, 0] rfl ?_
    exact WJ_X12_laysSoon_66 hC hk_4 hk_27 hk_35  v1 hv1 v2 hv2 v3 hv3 v4 hv4 v5 hv5 x3 hx3 m hm hF
set_option maxRecDepth 20000 in
set_option maxHeartbeats 4000000 in
theorem WL_X12_laysSoon_35 {g : Gx} {b : Bs} {o : Mm} {Q : Int → Mm → Prop} {k_4 : Int → Mm → Rs} {k_27 : Int → Int → Int → Mm → Rs} (hC : Cok g b RX12 cX12_laysSoon 10 2 none) (hk_4 : ∀ v1 : Int, inR v1 → ∀ m : Mm, Rg m → okR (k_4 v1 m) Q → X g b (false, o) 10 (ZM g b (false, o) 0 Q) 4 [(0, .ref (b.1 + 54)), (1, iV v1)] [] m 0 0) (hk_27 : ∀ v1 : Int, inR v1 → ∀ v2 : Int, (v2 = 0 ∨ v2 = 1) → ∀ v3 : Int, inR v3 → ∀ m : Mm, Rg m → okR (k_27 v1 v2 v3 m) Q → X g b (false, o) 10 (ZM g b (false, o) 0 Q) 27 [(0, .ref (b.1 + 54)), (1, iV v1), (2, iV v2), (3, iV v3)] [] m 0 0) : ∀ n : Nat, ∀ v1 : Int, inR v1 → ∀ v2 : Int, (v2 = 0 ∨ v2 = 1) → ∀ v3 : Int, inR v3 → ∀ v4 : Int, inR v4 → ∀ m : Mm, Rg m → okR (L_X12_laysSoon_35 k_4 k_27 n v1 v2 v3 v4 m) Q → X g b (false, o) 10 (ZM g b (false, o) 0 Q) 35 [(0, .ref (b.1 + 54)), (1, iV v1), (2, iV v2), (3, iV v3), (4, iV v4)] [] m 0 0 := by
  intro n
  induction n with
  | zero => intro v1 hv1 v2 hv2 v3 hv3 v4 hv4 m hm hF; exact absurd hF (fun z => z)
  | succ n ih =>
    intro v1 hv1 v2 hv2 v3 hv3 v4 hv4 m hm hF
    have hF : okR (LB_X12_laysSoon_35 k_4 k_27 (L_X12_laysSoon_35 k_4 k_27 n) v1 v2 v3 v4 m) Q := hF
    unfold LB_X12_laysSoon_35 at hF
    refine x_iload hC dX12_laysSoon_35 rfl 4 rfl ?_
    refine x_bipush hC dX12_laysSoon_37 rfl rfl ?_
    refine x_icmp_ge (tgt := 228) hC dX12_laysSoon_39 rfl rfl hv4 (rgc 22 rfl) hF (fun hq1 hF => ?_) (fun hq1 hF => ?_)
    · refine x_iinc (p := 3) (lv' := [(0, .ref (b.1 + 54)), (1, iV v1), (2, iV v2), (4, iV v4)]) hC dX12_laysSoon_228 rfl rfl (by decide) rfl hF (fun x2 hx2 hF => ?_)
      refine x_goto (tgt := 27) hC dX12_laysSoon_231 rfl ?_
      refine x_sub [1, 2, 3, 0] rfl ?_
      exact hk_27 v1 hv1 v2 hv2 x2 hx2 m hm hF
    · refine x_iload_n hC dX12_laysSoon_42 rfl 2 rfl ?_
      refine x_if_eq (tgt := 50) hC dX12_laysSoon_43 rfl rfl (rg_01 hv2) hF (fun hq3 hF => ?_) (fun hq3 hF => ?_)
      · refine x_ldc_w (x := 1000000000) hC dX12_laysSoon_50 rfl kwX12_430 ?_
        refine x_istore (lv' := [(0, .ref (b.1 + 54)), (1, iV v1), (2, iV v2), (3, iV v3), (4, iV v4)]) hC dX12_laysSoon_53 rfl (by decide) rfl (rgc 1000000000 rfl) hF (fun x4 hx4 hF => ?_)
        refine x_sub [1, 2, 3, 4, 5, 0] rfl ?_
        exact WJ_X12_laysSoon_55 hC hk_4 hk_27 ih  v1 hv1 v2 hv2 v3 hv3 v4 hv4 x4 hx4 m hm hF
      · refine x_iconst hC dX12_laysSoon_46 rfl ?_
        refine x_goto (tgt := 53) hC dX12_laysSoon_47 rfl ?_
        refine x_istoreZ (lv' := [(0, .ref (b.1 + 54)), (1, iV v1), (2, iV v2), (3, iV v3), (4, iV v4)]) hC dX12_laysSoon_53 rfl (by decide) rfl (Or.inl rfl) hF (fun x5 hx5 hF => ?_)
        refine x_sub [1, 2, 3, 4, 5, 0] rfl ?_
        exact WJ_X12_laysSoon_55 hC hk_4 hk_27 ih  v1 hv1 v2 hv2 v3 hv3 v4 hv4 x5 (rg_01 hx5) m hm hF
set_option maxRecDepth 20000 in
set_option maxHeartbeats 4000000 in
theorem WJ_X12_laysSoon_234 {g : Gx} {b : Bs} {o : Mm} {Q : Int → Mm → Prop} {k_4 : Int → Mm → Rs} (hC : Cok g b RX12 cX12_laysSoon 10 2 none) (hk_4 : ∀ v1 : Int, inR v1 → ∀ m : Mm, Rg m → okR (k_4 v1 m) Q → X g b (false, o) 10 (ZM g b (false, o) 0 Q) 4 [(0, .ref (b.1 + 54)), (1, iV v1)] [] m 0 0) (v1 : Int) (hv1 : inR v1) (m : Mm) (hm : Rg m) (hF : okR (J_X12_laysSoon_234 k_4 v1 m) Q) : X g b (false, o) 10 (ZM g b (false, o) 0 Q) 234 [(0, .ref (b.1 + 54)), (1, iV v1)] [] m 0 0 := by
  unfold J_X12_laysSoon_234 at hF
  refine x_iinc (p := 1) (lv' := [(0, .ref (b.1 + 54))]) hC dX12_laysSoon_234 rfl rfl (by decide) rfl hF (fun x1 hx1 hF => ?_)
  refine x_goto (tgt := 4) hC dX12_laysSoon_237 rfl ?_
  refine x_sub [1, 0] rfl ?_
  exact hk_4 x1 hx1 m hm hF
set_option maxRecDepth 20000 in
set_option maxHeartbeats 4000000 in
theorem WL_X12_laysSoon_27 {g : Gx} {b : Bs} {o : Mm} {Q : Int → Mm → Prop} {k_4 : Int → Mm → Rs} (hC : Cok g b RX12 cX12_laysSoon 10 2 none) (hk_4 : ∀ v1 : Int, inR v1 → ∀ m : Mm, Rg m → okR (k_4 v1 m) Q → X g b (false, o) 10 (ZM g b (false, o) 0 Q) 4 [(0, .ref (b.1 + 54)), (1, iV v1)] [] m 0 0) : ∀ n : Nat, ∀ v1 : Int, inR v1 → ∀ v2 : Int, (v2 = 0 ∨ v2 = 1) → ∀ v3 : Int, inR v3 → ∀ m : Mm, Rg m → okR (L_X12_laysSoon_27 k_4 n v1 v2 v3 m) Q → X g b (false, o) 10 (ZM g b (false, o) 0 Q) 27 [(0, .ref (b.1 + 54)), (1, iV v1), (2, iV v2), (3, iV v3)] [] m 0 0 := by
  intro n
  induction n with
  | zero => intro v1 hv1 v2 hv2 v3 hv3 m hm hF; exact absurd hF (fun z => z)
  | succ n ih =>
    intro v1 hv1 v2 hv2 v3 hv3 m hm hF
    have hF : okR (LB_X12_laysSoon_27 k_4 (L_X12_laysSoon_27 k_4 n) v1 v2 v3 m) Q := hF
    unfold LB_X12_laysSoon_27 at hF
    refine x_iload_n hC dX12_laysSoon_27 rfl 3 rfl ?_
    refine x_iconst hC dX12_laysSoon_28 rfl ?_
    refine x_icmp_ge (tgt := 234) hC dX12_laysSoon_29 rfl rfl hv3 (rgc 5 rfl) hF (fun hq1 hF => ?_) (fun hq1 hF => ?_)
    · refine x_sub [0, 1] rfl ?_
      exact WJ_X12_laysSoon_234 hC hk_4  v1 hv1 m hm hF
    · refine x_iconst hC dX12_laysSoon_32 rfl ?_
      refine x_istoreZ (lv' := [(0, .ref (b.1 + 54)), (1, iV v1), (2, iV v2), (3, iV v3)]) hC dX12_laysSoon_33 rfl (by decide) rfl (Or.inr rfl) hF (fun x2 hx2 hF => ?_)
      refine x_sub [1, 2, 3, 4, 0] rfl ?_
      exact WL_X12_laysSoon_35 hC hk_4 ih 100000  v1 hv1 v2 hv2 v3 hv3 x2 (rg_01 hx2) m hm hF
set_option maxRecDepth 20000 in
set_option maxHeartbeats 4000000 in
theorem WL_X12_laysSoon_4 {g : Gx} {b : Bs} {o : Mm} {Q : Int → Mm → Prop} (hC : Cok g b RX12 cX12_laysSoon 10 2 none) : ∀ n : Nat, ∀ v1 : Int, inR v1 → ∀ m : Mm, Rg m → okR (L_X12_laysSoon_4 n v1 m) Q → X g b (false, o) 10 (ZM g b (false, o) 0 Q) 4 [(0, .ref (b.1 + 54)), (1, iV v1)] [] m 0 0 := by
  intro n
  induction n with
  | zero => intro v1 hv1 m hm hF; exact absurd hF (fun z => z)
  | succ n ih =>
    intro v1 hv1 m hm hF
    have hF : okR (LB_X12_laysSoon_4 (L_X12_laysSoon_4 n) v1 m) Q := hF
    unfold LB_X12_laysSoon_4 at hF
    refine x_iload_n hC dX12_laysSoon_4 rfl 1 rfl ?_
    refine x_if_lt (tgt := 240) hC dX12_laysSoon_5 rfl rfl hv1 hF (fun hq1 hF => ?_) (fun hq1 hF => ?_)
    · exact x_return hC dX12_laysSoon_240 hm hF
    · refine x_aload_n hC dX12_laysSoon_8 rfl 0 rfl ?_
      refine x_iload_n hC dX12_laysSoon_9 rfl 1 rfl ?_
      refine x_callV3 (kc2 := 0) (ks2 := 0) (k := 54) (As := [iV v1]) (rest := []) hC dX12_laysSoon_10 rfl hm (fun _ _ h => T_X12_isState b _ m v1 hv1 h) mlX12_424 vlX12_isState rfl (by decide) rfl rfl (Nat.le_of_ble_eq_true rfl) (by decide) (by decide) rfl rfl hF (fun r2 m3 hr2 hm3 hF => ?_)
      refine x_if_ne (tgt := 19) hC dX12_laysSoon_13 rfl rfl (rg_01 hr2) hF (fun hq4 hF => ?_) (fun hq4 hF => ?_)
      · refine x_aload_n hC dX12_laysSoon_19 rfl 0 rfl ?_
        refine x_iload_n hC dX12_laysSoon_20 rfl 1 rfl ?_
        refine x_callV3 (kc2 := 0) (ks2 := 0) (k := 54) (As := [iV v1]) (rest := []) hC dX12_laysSoon_21 rfl hm3 (fun _ _ h => T_X12_isDone b _ m3 v1 hv1 h) mlX12_427 vlX12_isDone rfl (by decide) rfl rfl (Nat.le_of_ble_eq_true rfl) (by decide) (by decide) rfl rfl hF (fun r5 m6 hr5 hm6 hF => ?_)
        refine x_istore_nZ (lv' := [(0, .ref (b.1 + 54)), (1, iV v1)]) hC dX12_laysSoon_24 rfl rfl (by decide) rfl hr5 hF (fun x7 hx7 hF => ?_)
        refine x_iconst hC dX12_laysSoon_25 rfl ?_
        refine x_istore_nZ (lv' := [(2, iV x7), (0, .ref (b.1 + 54)), (1, iV v1)]) hC dX12_laysSoon_26 rfl rfl (by decide) rfl (Or.inl rfl) hF (fun x8 hx8 hF => ?_)
        refine x_sub [2, 3, 1, 0] rfl ?_
        exact WL_X12_laysSoon_27 hC ih 100000  v1 hv1 x7 hx7 x8 (rg_01 hx8) m6 hm6 hF
      · refine x_goto (tgt := 234) hC dX12_laysSoon_16 rfl ?_
        exact WJ_X12_laysSoon_234 hC ih  v1 hv1 m3 hm3 hF
set_option maxRecDepth 20000 in
set_option maxHeartbeats 4000000 in
theorem T_X12_laysSoon (b : Bs) (o : Mm) (m : Mm) {r : Int} {m' : Mm} (h : F_X12_laysSoon  m = some (r, m')) : Cn yX12_laysSoon cX12_laysSoon 10 none (2) 0 0 0 b (false, o) m [.ref (b.1 + 54)] (F_X12_laysSoon  m) := by
  refine Cn_of rfl (Nat.le_of_ble_eq_true rfl) (fun g hC hm => ?_)
  have hF := okR_some h
  generalize hQ : (fun (r : Int) (m' : Mm) => F_X12_laysSoon  m = some (r, m')) = Q at hF ⊢
  clear hQ h
  replace hC : Cok g b RX12 cX12_laysSoon 10 2 none := hC
  refine x_lv (lv' := [(0, .ref (b.1 + 54))]) rfl ?_
  unfold F_X12_laysSoon at hF
  refine x_sipush hC dX12_laysSoon_0 rfl rfl ?_
  refine x_istore_n (lv' := [(0, .ref (b.1 + 54))]) hC dX12_laysSoon_3 rfl rfl (by decide) rfl (rgc 624 rfl) hF (fun x1 hx1 hF => ?_)
  refine x_sub [1, 0] rfl ?_
  exact WL_X12_laysSoon_4 hC 100000  x1 hx1 m hm hF
set_option maxRecDepth 20000 in
set_option maxHeartbeats 4000000 in
theorem WJ_X12_goesBy_159 {g : Gx} {b : Bs} {o : Mm} {Q : Int → Mm → Prop} {k_6 : Int → Int → Int → Int → Int → Int → Mm → Rs} {k_46 : Int → Int → Int → Int → Int → Int → Int → Mm → Rs} (hC : Cok g b RX12 cX12_goesBy 9 2 (some .boolean)) (hk_6 : ∀ v1 : Int, inR v1 → ∀ v2 : Int, inR v2 → ∀ v3 : Int, inR v3 → ∀ v4 : Int, (v4 = 0 ∨ v4 = 1) → ∀ v5 : Int, (v5 = 0 ∨ v5 = 1) → ∀ v6 : Int, inR v6 → ∀ m : Mm, Rg m → okR (k_6 v1 v2 v3 v4 v5 v6 m) Q → X g b (false, o) 9 (ZM g b (false, o) 3 Q) 6 [(0, .ref (b.1 + 54)), (1, iV v1), (2, iV v2), (3, iV v3), (4, iV v4), (5, iV v5), (6, iV v6)] [] m 0 0) (hk_46 : ∀ v1 : Int, inR v1 → ∀ v2 : Int, inR v2 → ∀ v3 : Int, inR v3 → ∀ v4 : Int, (v4 = 0 ∨ v4 = 1) → ∀ v5 : Int, (v5 = 0 ∨ v5 = 1) → ∀ v6 : Int, inR v6 → ∀ v7 : Int, inR v7 → ∀ m : Mm, Rg m → okR (k_46 v1 v2 v3 v4 v5 v6 v7 m) Q → X g b (false, o) 9 (ZM g b (false, o) 3 Q) 46 [(0, .ref (b.1 + 54)), (1, iV v1), (2, iV v2), (3, iV v3), (4, iV v4), (5, iV v5), (6, iV v6), (7, iV v7)] [] m 0 0) (v1 : Int) (hv1 : inR v1) (v2 : Int) (hv2 : inR v2) (v3 : Int) (hv3 : inR v3) (v4 : Int) (hv4 : (v4 = 0 ∨ v4 = 1)) (v5 : Int) (hv5 : (v5 = 0 ∨ v5 = 1)) (v6 : Int) (hv6 : inR v6) (v7 : Int) (hv7 : inR v7) (m : Mm) (hm : Rg m) (hF : okR (J_X12_goesBy_159 k_6 k_46 v1 v2 v3 v4 v5 v6 v7 m) Q) : X g b (false, o) 9 (ZM g b (false, o) 3 Q) 159 [(0, .ref (b.1 + 54)), (1, iV v1), (2, iV v2), (3, iV v3), (4, iV v4), (5, iV v5), (6, iV v6), (7, iV v7)] [] m 0 0 := by
  unfold J_X12_goesBy_159 at hF
  refine x_iinc (p := 7) (lv' := [(0, .ref (b.1 + 54)), (1, iV v1), (2, iV v2), (3, iV v3), (4, iV v4), (5, iV v5), (6, iV v6)]) hC dX12_goesBy_159 rfl rfl (by decide) rfl hF (fun x1 hx1 hF => ?_)
  refine x_goto (tgt := 46) hC dX12_goesBy_162 rfl ?_
  refine x_sub [1, 2, 3, 4, 5, 6, 7, 0] rfl ?_
  exact hk_46 v1 hv1 v2 hv2 v3 hv3 v4 hv4 v5 hv5 v6 hv6 x1 hx1 m hm hF
set_option maxRecDepth 20000 in
set_option maxHeartbeats 4000000 in
theorem WJ_X12_goesBy_62 {g : Gx} {b : Bs} {o : Mm} {Q : Int → Mm → Prop} {k_6 : Int → Int → Int → Int → Int → Int → Mm → Rs} {k_46 : Int → Int → Int → Int → Int → Int → Int → Mm → Rs} (hC : Cok g b RX12 cX12_goesBy 9 2 (some .boolean)) (hk_6 : ∀ v1 : Int, inR v1 → ∀ v2 : Int, inR v2 → ∀ v3 : Int, inR v3 → ∀ v4 : Int, (v4 = 0 ∨ v4 = 1) → ∀ v5 : Int, (v5 = 0 ∨ v5 = 1) → ∀ v6 : Int, inR v6 → ∀ m : Mm, Rg m → okR (k_6 v1 v2 v3 v4 v5 v6 m) Q → X g b (false, o) 9 (ZM g b (false, o) 3 Q) 6 [(0, .ref (b.1 + 54)), (1, iV v1), (2, iV v2), (3, iV v3), (4, iV v4), (5, iV v5), (6, iV v6)] [] m 0 0) (hk_46 : ∀ v1 : Int, inR v1 → ∀ v2 : Int, inR v2 → ∀ v3 : Int, inR v3 → ∀ v4 : Int, (v4 = 0 ∨ v4 = 1) → ∀ v5 : Int, (v5 = 0 ∨ v5 = 1) → ∀ v6 : Int, inR v6 → ∀ v7 : Int, inR v7 → ∀ m : Mm, Rg m → okR (k_46 v1 v2 v3 v4 v5 v6 v7 m) Q → X g b (false, o) 9 (ZM g b (false, o) 3 Q) 46 [(0, .ref (b.1 + 54)), (1, iV v1), (2, iV v2), (3, iV v3), (4, iV v4), (5, iV v5), (6, iV v6), (7, iV v7)] [] m 0 0) (v1 : Int) (hv1 : inR v1) (v2 : Int) (hv2 : inR v2) (v3 : Int) (hv3 : inR v3) (v4 : Int) (hv4 : (v4 = 0 ∨ v4 = 1)) (v5 : Int) (hv5 : (v5 = 0 ∨ v5 = 1)) (v6 : Int) (hv6 : inR v6) (v7 : Int) (hv7 : inR v7) (m : Mm) (hm : Rg m) (hF : okR (J_X12_goesBy_62 k_6 k_46 v1 v2 v3 v4 v5 v6 v7 m) Q) : X g b (false, o) 9 (ZM g b (false, o) 3 Q) 62 [(0, .ref (b.1 + 54)), (1, iV v1), (2, iV v2), (3, iV v3), (4, iV v4), (5, iV v5), (6, iV v6), (7, iV v7)] [] m 0 0 := by
  unfold J_X12_goesBy_62 at hF
  refine x_aload_n hC dX12_goesBy_62 rfl 0 rfl ?_
  refine x_iload_n hC dX12_goesBy_63 rfl 1 rfl ?_
  refine x_iload_n hC dX12_goesBy_64 rfl 2 rfl ?_
  refine x_iload hC dX12_goesBy_65 rfl 6 rfl ?_
  refine x_iload_n hC dX12_goesBy_67 rfl 3 rfl ?_
  refine x_iload hC dX12_goesBy_68 rfl 7 rfl ?_
  refine x_callV3 (kc2 := 0) (ks2 := 0) (k := 54) (As := [iV v1, iV v2, iV v6, iV v3, iV v7]) (rest := []) hC dX12_goesBy_70 rfl hm (fun _ _ h => T_X12_says b _ m v1 hv1 v2 hv2 v6 hv6 v3 hv3 v7 hv7 h) mlX12_431 vlX12_says rfl (by decide) rfl rfl (Nat.le_of_ble_eq_true rfl) (by decide) (by decide) rfl rfl hF (fun r1 m2 hr1 hm2 hF => ?_)
  refine x_if_ne (tgt := 79) hC dX12_goesBy_73 rfl rfl (rg_01 hr1) hF (fun hq3 hF => ?_) (fun hq3 hF => ?_)
  · refine x_aload_n hC dX12_goesBy_79 rfl 0 rfl ?_
    refine x_getR (t := 86) hC dX12_goesBy_80 rfl flX12_117 rfl (by decide) rfl rfl ?_
    refine x_iload_n hC dX12_goesBy_83 rfl 1 rfl ?_
    refine x_iload_n hC dX12_goesBy_84 rfl 3 rfl ?_
    refine x_callS1 (kc2 := 0) (ks2 := 0) (As := [iV v3]) (rest := [iV v1, .ref (b.1 + 86)]) hC dX12_goesBy_85 rfl hm2 (fun _ _ h => T_X12_fives b _ m2 v3 hv3 h) mlX12_435 vsX12_fives rfl rfl (Nat.le_of_ble_eq_true rfl) (by decide) (by decide) rfl rfl hF (fun r4 m5 hr4 hm5 hF => ?_)
    refine x_iadd hC dX12_goesBy_88 rfl ?_
    refine x_iload_n hC dX12_goesBy_89 rfl 3 rfl ?_
    refine x_iload hC dX12_goesBy_90 rfl 7 rfl ?_
    refine x_callS1 (kc2 := 0) (ks2 := 0) (As := [iV (wr (v1 + r4)), iV v3, iV v7]) (rest := [.ref (b.1 + 86)]) hC dX12_goesBy_92 rfl hm5 (fun _ _ h => T_X12_soonPlace b _ m5 (wr (v1 + r4)) (rg_wr _) v3 hv3 v7 hv7 h) mlX12_438 vsX12_soonPlace rfl rfl (Nat.le_of_ble_eq_true rfl) (by decide) (by decide) rfl rfl hF (fun r6 m7 hr6 hm7 hF => ?_)
    refine x_iald hC dX12_goesBy_95 rfl rfl (by decide) rfl hm7 hr6 hF (fun x8 hx8 hF => ?_)
    refine x_istore (lv' := [(0, .ref (b.1 + 54)), (1, iV v1), (2, iV v2), (3, iV v3), (4, iV v4), (5, iV v5), (6, iV v6), (7, iV v7)]) hC dX12_goesBy_96 rfl (by decide) rfl hx8 hF (fun x9 hx9 hF => ?_)
    refine x_iload hC dX12_goesBy_98 rfl 0 rfl ?_
    refine x_ldc_w (x := 1000000000) hC dX12_goesBy_100 rfl kwX12_430 ?_
    refine x_icmp_ge (tgt := 159) hC dX12_goesBy_103 rfl rfl hx9 (rgc 1000000000 rfl) hF (fun hq10 hF => ?_) (fun hq10 hF => ?_)
    · refine x_sub [1, 2, 3, 4, 5, 6, 7, 8] rfl ?_
      exact WJ_X12_goesBy_159 hC hk_6 hk_46  v1 hv1 v2 hv2 v3 hv3 v4 hv4 v5 hv5 v6 hv6 v7 hv7 m7 hm7 hF
    · refine x_iload hC dX12_goesBy_106 rfl 8 rfl ?_
      refine x_callS1 (kc2 := 0) (ks2 := 0) (As := [iV v7]) (rest := []) hC dX12_goesBy_108 rfl hm7 (fun _ _ h => T_X12_costOf b _ m7 v7 hv7 h) mlX12_441 vsX12_costOf rfl rfl (Nat.le_of_ble_eq_true rfl) (by decide) (by decide) rfl rfl hF (fun r11 m12 hr11 hm12 hF => ?_)
      refine x_iload hC dX12_goesBy_111 rfl 0 rfl ?_
      refine x_iadd hC dX12_goesBy_113 rfl ?_
      refine x_aload_n hC dX12_goesBy_114 rfl 1 rfl ?_
      refine x_getR (t := 86) hC dX12_goesBy_115 rfl flX12_117 rfl (by decide) rfl rfl ?_
      refine x_iload_n hC dX12_goesBy_118 rfl 2 rfl ?_
      refine x_iload_n hC dX12_goesBy_119 rfl 3 rfl ?_
      refine x_iload hC dX12_goesBy_120 rfl 7 rfl ?_
      refine x_callS1 (kc2 := 0) (ks2 := 0) (As := [iV v1, iV v2, iV v6]) (rest := [.ref (b.1 + 86), iV (wr (r11 + x9))]) hC dX12_goesBy_122 rfl hm12 (fun _ _ h => T_X12_soonPlace b _ m12 v1 hv1 v2 hv2 v6 hv6 h) mlX12_438 vsX12_soonPlace rfl rfl (Nat.le_of_ble_eq_true rfl) (by decide) (by decide) rfl rfl hF (fun r13 m14 hr13 hm14 hF => ?_)
      refine x_iald hC dX12_goesBy_125 rfl rfl (by decide) rfl hm14 hr13 hF (fun x15 hx15 hF => ?_)
      refine x_icmp_eq (tgt := 132) hC dX12_goesBy_126 rfl rfl (rg_wr _) hx15 hF (fun hq16 hF => ?_) (fun hq16 hF => ?_)
      · refine x_iconst hC dX12_goesBy_132 rfl ?_
        refine x_istoreZ (lv' := [(8, iV x9), (0, .ref (b.1 + 54)), (1, iV v1), (2, iV v2), (3, iV v3), (4, iV v4), (6, iV v6), (7, iV v7)]) hC dX12_goesBy_133 rfl (by decide) rfl (Or.inr rfl) hF (fun x17 hx17 hF => ?_)
        refine x_iload hC dX12_goesBy_135 rfl 6 rfl ?_
        refine x_if_eq (tgt := 159) hC dX12_goesBy_137 rfl rfl (rg_01 hv4) hF (fun hq18 hF => ?_) (fun hq18 hF => ?_)
        · refine x_sub [2, 3, 4, 5, 6, 0, 7, 8] rfl ?_
          exact WJ_X12_goesBy_159 hC hk_6 hk_46  v1 hv1 v2 hv2 v3 hv3 v4 hv4 x17 hx17 v6 hv6 v7 hv7 m14 hm14 hF
        · refine x_aload_n hC dX12_goesBy_140 rfl 2 rfl ?_
          refine x_getR (t := 89) hC dX12_goesBy_141 rfl flX12_126 rfl (by decide) rfl rfl ?_
          refine x_bipush hC dX12_goesBy_144 rfl rfl ?_
          refine x_aload_n hC dX12_goesBy_146 rfl 2 rfl ?_
          refine x_getI hC dX12_goesBy_147 rfl flX12_444 rfl (by decide) rfl rfl ?_
          refine x_imul hC dX12_goesBy_150 rfl ?_
          refine x_bipush hC dX12_goesBy_151 rfl rfl ?_
          refine x_iadd hC dX12_goesBy_153 rfl ?_
          refine x_iload hC dX12_goesBy_154 rfl 8 rfl ?_
          refine x_iadd hC dX12_goesBy_156 rfl ?_
          refine x_iconst hC dX12_goesBy_157 rfl ?_
          refine x_zast hC dX12_goesBy_158 rfl rfl (by decide) rfl hm14 (rg_wr _) (Or.inr rfl) hF (fun m19 hm19 hF => ?_)
          refine x_sub [2, 3, 4, 5, 6, 0, 7, 8] rfl ?_
          exact WJ_X12_goesBy_159 hC hk_6 hk_46  v1 hv1 v2 hv2 v3 hv3 v4 hv4 x17 hx17 v6 hv6 v7 hv7 m19 hm19 hF
      · refine x_goto (tgt := 159) hC dX12_goesBy_129 rfl ?_
        refine x_sub [1, 2, 3, 4, 5, 6, 7, 8] rfl ?_
        exact WJ_X12_goesBy_159 hC hk_6 hk_46  v1 hv1 v2 hv2 v3 hv3 v4 hv4 v5 hv5 v6 hv6 v7 hv7 m14 hm14 hF
  · refine x_goto (tgt := 159) hC dX12_goesBy_76 rfl ?_
    exact WJ_X12_goesBy_159 hC hk_6 hk_46  v1 hv1 v2 hv2 v3 hv3 v4 hv4 v5 hv5 v6 hv6 v7 hv7 m2 hm2 hF
set_option maxRecDepth 20000 in
set_option maxHeartbeats 4000000 in
theorem WJ_X12_goesBy_165 {g : Gx} {b : Bs} {o : Mm} {Q : Int → Mm → Prop} {k_6 : Int → Int → Int → Int → Int → Int → Mm → Rs} (hC : Cok g b RX12 cX12_goesBy 9 2 (some .boolean)) (hk_6 : ∀ v1 : Int, inR v1 → ∀ v2 : Int, inR v2 → ∀ v3 : Int, inR v3 → ∀ v4 : Int, (v4 = 0 ∨ v4 = 1) → ∀ v5 : Int, (v5 = 0 ∨ v5 = 1) → ∀ v6 : Int, inR v6 → ∀ m : Mm, Rg m → okR (k_6 v1 v2 v3 v4 v5 v6 m) Q → X g b (false, o) 9 (ZM g b (false, o) 3 Q) 6 [(0, .ref (b.1 + 54)), (1, iV v1), (2, iV v2), (3, iV v3), (4, iV v4), (5, iV v5), (6, iV v6)] [] m 0 0) (v1 : Int) (hv1 : inR v1) (v2 : Int) (hv2 : inR v2) (v3 : Int) (hv3 : inR v3) (v4 : Int) (hv4 : (v4 = 0 ∨ v4 = 1)) (v5 : Int) (hv5 : (v5 = 0 ∨ v5 = 1)) (v6 : Int) (hv6 : inR v6) (m : Mm) (hm : Rg m) (hF : okR (J_X12_goesBy_165 k_6 v1 v2 v3 v4 v5 v6 m) Q) : X g b (false, o) 9 (ZM g b (false, o) 3 Q) 165 [(0, .ref (b.1 + 54)), (1, iV v1), (2, iV v2), (3, iV v3), (4, iV v4), (5, iV v5), (6, iV v6)] [] m 0 0 := by
  unfold J_X12_goesBy_165 at hF
  refine x_iinc (p := 6) (lv' := [(0, .ref (b.1 + 54)), (1, iV v1), (2, iV v2), (3, iV v3), (4, iV v4), (5, iV v5)]) hC dX12_goesBy_165 rfl rfl (by decide) rfl hF (fun x1 hx1 hF => ?_)
  refine x_goto (tgt := 6) hC dX12_goesBy_168 rfl ?_
  refine x_sub [1, 2, 3, 4, 5, 6, 0] rfl ?_
  exact hk_6 v1 hv1 v2 hv2 v3 hv3 v4 hv4 v5 hv5 x1 hx1 m hm hF
set_option maxRecDepth 20000 in
set_option maxHeartbeats 4000000 in
theorem WL_X12_goesBy_46 {g : Gx} {b : Bs} {o : Mm} {Q : Int → Mm → Prop} {k_6 : Int → Int → Int → Int → Int → Int → Mm → Rs} (hC : Cok g b RX12 cX12_goesBy 9 2 (some .boolean)) (hk_6 : ∀ v1 : Int, inR v1 → ∀ v2 : Int, inR v2 → ∀ v3 : Int, inR v3 → ∀ v4 : Int, (v4 = 0 ∨ v4 = 1) → ∀ v5 : Int, (v5 = 0 ∨ v5 = 1) → ∀ v6 : Int, inR v6 → ∀ m : Mm, Rg m → okR (k_6 v1 v2 v3 v4 v5 v6 m) Q → X g b (false, o) 9 (ZM g b (false, o) 3 Q) 6 [(0, .ref (b.1 + 54)), (1, iV v1), (2, iV v2), (3, iV v3), (4, iV v4), (5, iV v5), (6, iV v6)] [] m 0 0) : ∀ n : Nat, ∀ v1 : Int, inR v1 → ∀ v2 : Int, inR v2 → ∀ v3 : Int, inR v3 → ∀ v4 : Int, (v4 = 0 ∨ v4 = 1) → ∀ v5 : Int, (v5 = 0 ∨ v5 = 1) → ∀ v6 : Int, inR v6 → ∀ v7 : Int, inR v7 → ∀ m : Mm, Rg m → okR (L_X12_goesBy_46 k_6 n v1 v2 v3 v4 v5 v6 v7 m) Q → X g b (false, o) 9 (ZM g b (false, o) 3 Q) 46 [(0, .ref (b.1 + 54)), (1, iV v1), (2, iV v2), (3, iV v3), (4, iV v4), (5, iV v5), (6, iV v6), (7, iV v7)] [] m 0 0 := by
  intro n
  induction n with
  | zero => intro v1 hv1 v2 hv2 v3 hv3 v4 hv4 v5 hv5 v6 hv6 v7 hv7 m hm hF; exact absurd hF (fun z => z)
  | succ n ih =>
    intro v1 hv1 v2 hv2 v3 hv3 v4 hv4 v5 hv5 v6 hv6 v7 hv7 m hm hF
    have hF : okR (LB_X12_goesBy_46 k_6 (L_X12_goesBy_46 k_6 n) v1 v2 v3 v4 v5 v6 v7 m) Q := hF
    unfold LB_X12_goesBy_46 at hF
    refine x_iload hC dX12_goesBy_46 rfl 7 rfl ?_
    refine x_iload_n hC dX12_goesBy_48 rfl 1 rfl ?_
    refine x_if_ne (tgt := 57) hC dX12_goesBy_49 rfl rfl hv1 hF (fun hq1 hF => ?_) (fun hq1 hF => ?_)
    · refine x_bipush hC dX12_goesBy_57 rfl rfl ?_
      refine x_icmp_ge (tgt := 165) hC dX12_goesBy_59 rfl rfl hv7 (rgc 21 rfl) hF (fun hq2 hF => ?_) (fun hq2 hF => ?_)
      · refine x_sub [0, 1, 2, 3, 4, 5, 6] rfl ?_
        exact WJ_X12_goesBy_165 hC hk_6  v1 hv1 v2 hv2 v3 hv3 v4 hv4 v5 hv5 v6 hv6 m hm hF
      · exact WJ_X12_goesBy_62 hC hk_6 ih  v1 hv1 v2 hv2 v3 hv3 v4 hv4 v5 hv5 v6 hv6 v7 hv7 m hm hF
    · refine x_bipush hC dX12_goesBy_52 rfl rfl ?_
      refine x_goto (tgt := 59) hC dX12_goesBy_54 rfl ?_
      refine x_icmp_ge (tgt := 165) hC dX12_goesBy_59 rfl rfl hv7 (rgc 22 rfl) hF (fun hq3 hF => ?_) (fun hq3 hF => ?_)
      · refine x_sub [0, 1, 2, 3, 4, 5, 6] rfl ?_
        exact WJ_X12_goesBy_165 hC hk_6  v1 hv1 v2 hv2 v3 hv3 v4 hv4 v5 hv5 v6 hv6 m hm hF
      · exact WJ_X12_goesBy_62 hC hk_6 ih  v1 hv1 v2 hv2 v3 hv3 v4 hv4 v5 hv5 v6 hv6 v7 hv7 m hm hF
set_option maxRecDepth 20000 in
set_option maxHeartbeats 4000000 in
theorem WL_X12_goesBy_6 {g : Gx} {b : Bs} {o : Mm} {Q : Int → Mm → Prop} (hC : Cok g b RX12 cX12_goesBy 9 2 (some .boolean)) : ∀ n : Nat, ∀ v1 : Int, inR v1 → ∀ v2 : Int, inR v2 → ∀ v3 : Int, inR v3 → ∀ v4 : Int, (v4 = 0 ∨ v4 = 1) → ∀ v5 : Int, (v5 = 0 ∨ v5 = 1) → ∀ v6 : Int, inR v6 → ∀ m : Mm, Rg m → okR (L_X12_goesBy_6 n v1 v2 v3 v4 v5 v6 m) Q → X g b (false, o) 9 (ZM g b (false, o) 3 Q) 6 [(0, .ref (b.1 + 54)), (1, iV v1), (2, iV v2), (3, iV v3), (4, iV v4), (5, iV v5), (6, iV v6)] [] m 0 0 := by
  intro n
  induction n with
  | zero => intro v1 hv1 v2 hv2 v3 hv3 v4 hv4 v5 hv5 v6 hv6 m hm hF; exact absurd hF (fun z => z)
  | succ n ih =>
    intro v1 hv1 v2 hv2 v3 hv3 v4 hv4 v5 hv5 v6 hv6 m hm hF
    have hF : okR (LB_X12_goesBy_6 (L_X12_goesBy_6 n) v1 v2 v3 v4 v5 v6 m) Q := hF
    unfold LB_X12_goesBy_6 at hF
    refine x_iload hC dX12_goesBy_6 rfl 6 rfl ?_
    refine x_bipush hC dX12_goesBy_8 rfl rfl ?_
    refine x_icmp_ge (tgt := 171) hC dX12_goesBy_10 rfl rfl hv6 (rgc 22 rfl) hF (fun hq1 hF => ?_) (fun hq1 hF => ?_)
    · refine x_iload hC dX12_goesBy_171 rfl 5 rfl ?_
      exact x_zreturn hC dX12_goesBy_173 hm hv5 hF
    · refine x_aload_n hC dX12_goesBy_13 rfl 0 rfl ?_
      refine x_getR (t := 89) hC dX12_goesBy_14 rfl flX12_126 rfl (by decide) rfl rfl ?_
      refine x_bipush hC dX12_goesBy_17 rfl rfl ?_
      refine x_aload_n hC dX12_goesBy_19 rfl 0 rfl ?_
      refine x_getI hC dX12_goesBy_20 rfl flX12_444 rfl (by decide) rfl rfl ?_
      refine x_imul hC dX12_goesBy_23 rfl ?_
      refine x_iload hC dX12_goesBy_24 rfl 6 rfl ?_
      refine x_iadd hC dX12_goesBy_26 rfl ?_
      refine x_zald hC dX12_goesBy_27 rfl rfl (by decide) rfl hm (rg_wr _) hF (fun x2 hx2 hF => ?_)
      refine x_if_ne (tgt := 34) hC dX12_goesBy_28 rfl rfl (rg_01 hx2) hF (fun hq3 hF => ?_) (fun hq3 hF => ?_)
      · refine x_iload_n hC dX12_goesBy_34 rfl 1 rfl ?_
        refine x_if_ne (tgt := 43) hC dX12_goesBy_35 rfl rfl hv1 hF (fun hq4 hF => ?_) (fun hq4 hF => ?_)
        · refine x_iconst hC dX12_goesBy_43 rfl ?_
          refine x_istoreZ (lv' := [(0, .ref (b.1 + 54)), (1, iV v1), (2, iV v2), (3, iV v3), (4, iV v4), (5, iV v5), (6, iV v6)]) hC dX12_goesBy_44 rfl (by decide) rfl (Or.inr rfl) hF (fun x5 hx5 hF => ?_)
          refine x_sub [1, 2, 3, 4, 5, 6, 7, 0] rfl ?_
          exact WL_X12_goesBy_46 hC ih 100000  v1 hv1 v2 hv2 v3 hv3 v4 hv4 v5 hv5 v6 hv6 x5 (rg_01 hx5) m hm hF
        · refine x_bipush hC dX12_goesBy_38 rfl rfl ?_
          refine x_goto (tgt := 44) hC dX12_goesBy_40 rfl ?_
          refine x_istore (lv' := [(0, .ref (b.1 + 54)), (1, iV v1), (2, iV v2), (3, iV v3), (4, iV v4), (5, iV v5), (6, iV v6)]) hC dX12_goesBy_44 rfl (by decide) rfl (rgc 21 rfl) hF (fun x6 hx6 hF => ?_)
          refine x_sub [1, 2, 3, 4, 5, 6, 7, 0] rfl ?_
          exact WL_X12_goesBy_46 hC ih 100000  v1 hv1 v2 hv2 v3 hv3 v4 hv4 v5 hv5 v6 hv6 x6 hx6 m hm hF
      · refine x_goto (tgt := 165) hC dX12_goesBy_31 rfl ?_
        exact WJ_X12_goesBy_165 hC ih  v1 hv1 v2 hv2 v3 hv3 v4 hv4 v5 hv5 v6 hv6 m hm hF
set_option maxRecDepth 20000 in
set_option maxHeartbeats 4000000 in
theorem T_X12_goesBy (b : Bs) (o : Mm) (m : Mm) (a1 : Int) (ha1 : inR a1) (a2 : Int) (ha2 : inR a2) (a3 : Int) (ha3 : inR a3) (a4 : Int) (ha4 : (a4 = 0 ∨ a4 = 1)) {r : Int} {m' : Mm} (h : F_X12_goesBy a1 a2 a3 a4 m = some (r, m')) : Cn yX12_goesBy cX12_goesBy 9 (some .boolean) (2) 0 0 3 b (false, o) m [.ref (b.1 + 54), iV a1, iV a2, iV a3, iV a4] (F_X12_goesBy a1 a2 a3 a4 m) := by
  refine Cn_of rfl (Nat.le_of_ble_eq_true rfl) (fun g hC hm => ?_)
  have hF := okR_some h
  generalize hQ : (fun (r : Int) (m' : Mm) => F_X12_goesBy a1 a2 a3 a4 m = some (r, m')) = Q at hF ⊢
  clear hQ h
  replace hC : Cok g b RX12 cX12_goesBy 9 2 (some .boolean) := hC
  refine x_lv (lv' := [(0, .ref (b.1 + 54)), (1, iV a1), (2, iV a2), (3, iV a3), (4, iV a4)]) rfl ?_
  unfold F_X12_goesBy at hF
  refine x_iconst hC dX12_goesBy_0 rfl ?_
  refine x_istoreZ (lv' := [(0, .ref (b.1 + 54)), (1, iV a1), (2, iV a2), (3, iV a3), (4, iV a4)]) hC dX12_goesBy_1 rfl (by decide) rfl (Or.inl rfl) hF (fun x1 hx1 hF => ?_)
  refine x_iconst hC dX12_goesBy_3 rfl ?_
  refine x_istoreZ (lv' := [(5, iV x1), (0, .ref (b.1 + 54)), (1, iV a1), (2, iV a2), (3, iV a3), (4, iV a4)]) hC dX12_goesBy_4 rfl (by decide) rfl (Or.inr rfl) hF (fun x2 hx2 hF => ?_)
  refine x_sub [2, 3, 4, 5, 6, 1, 0] rfl ?_
  exact WL_X12_goesBy_6 hC 100000  a1 ha1 a2 ha2 a3 ha3 a4 ha4 x1 hx1 x2 (rg_01 hx2) m hm hF
set_option maxRecDepth 20000 in
set_option maxHeartbeats 4000000 in
theorem WL_X12_findsWho_49 {g : Gx} {b : Bs} {o : Mm} {Q : Int → Mm → Prop} {k_39 : Int → Int → Mm → Rs} (hC : Cok g b RX12 cX12_findsWho 5 3 none) (hk_39 : ∀ v1 : Int, inR v1 → ∀ v2 : Int, inR v2 → ∀ m : Mm, Rg m → okR (k_39 v1 v2 m) Q → X g b (false, o) 5 (ZM g b (false, o) 0 Q) 39 [(0, .ref (b.1 + 54)), (1, iV v1), (2, iV v2)] [] m 0 0) : ∀ n : Nat, ∀ v1 : Int, inR v1 → ∀ v2 : Int, inR v2 → ∀ v3 : Int, inR v3 → ∀ m : Mm, Rg m → okR (L_X12_findsWho_49 k_39 n v1 v2 v3 m) Q → X g b (false, o) 5 (ZM g b (false, o) 0 Q) 49 [(0, .ref (b.1 + 54)), (1, iV v1), (2, iV v2), (3, iV v3)] [] m 0 0 := by
  intro n
  induction n with
  | zero => intro v1 hv1 v2 hv2 v3 hv3 m hm hF; exact absurd hF (fun z => z)
  | succ n ih =>
    intro v1 hv1 v2 hv2 v3 hv3 m hm hF
    have hF : okR (LB_X12_findsWho_49 k_39 (L_X12_findsWho_49 k_39 n) v1 v2 v3 m) Q := hF
    unfold LB_X12_findsWho_49 at hF
    refine x_aload_n hC dX12_findsWho_49 rfl 0 rfl ?_
    refine x_iload_n hC dX12_findsWho_50 rfl 1 rfl ?_
    refine x_iload_n hC dX12_findsWho_51 rfl 2 rfl ?_
    refine x_iload_n hC dX12_findsWho_52 rfl 3 rfl ?_
    refine x_iconst hC dX12_findsWho_53 rfl ?_
    refine x_callV3 (kc2 := 0) (ks2 := 0) (k := 54) (As := [iV v1, iV v2, iV v3, iV 0]) (rest := []) hC dX12_findsWho_54 rfl hm (fun _ _ h => T_X12_goesBy b _ m v1 hv1 v2 hv2 v3 hv3 0 (Or.inl rfl) h) mlX12_447 vlX12_goesBy rfl (by decide) rfl rfl (Nat.le_of_ble_eq_true rfl) (by decide) (by decide) rfl rfl hF (fun r1 m2 hr1 hm2 hF => ?_)
    refine x_if_ne (tgt := 66) hC dX12_findsWho_57 rfl rfl (rg_01 hr1) hF (fun hq3 hF => ?_) (fun hq3 hF => ?_)
    · refine x_aload_n hC dX12_findsWho_66 rfl 0 rfl ?_
      refine x_iload_n hC dX12_findsWho_67 rfl 1 rfl ?_
      refine x_iload_n hC dX12_findsWho_68 rfl 2 rfl ?_
      refine x_iload_n hC dX12_findsWho_69 rfl 3 rfl ?_
      refine x_iconst hC dX12_findsWho_70 rfl ?_
      refine x_callV3 (kc2 := 0) (ks2 := 0) (k := 54) (As := [iV v1, iV v2, iV v3, iV 1]) (rest := []) hC dX12_findsWho_71 rfl hm2 (fun _ _ h => T_X12_goesBy b _ m2 v1 hv1 v2 hv2 v3 hv3 1 (Or.inr rfl) h) mlX12_447 vlX12_goesBy rfl (by decide) rfl rfl (Nat.le_of_ble_eq_true rfl) (by decide) (by decide) rfl rfl hF (fun r4 m5 hr4 hm5 hF => ?_)
      refine x_istoreZ (lv' := [(0, .ref (b.1 + 54)), (1, iV v1), (2, iV v2), (3, iV v3)]) hC dX12_findsWho_74 rfl (by decide) rfl hr4 hF (fun x6 hx6 hF => ?_)
      refine x_aload_n hC dX12_findsWho_76 rfl 1 rfl ?_
      refine x_getR (t := 87) hC dX12_findsWho_77 rfl flX12_120 rfl (by decide) rfl rfl ?_
      refine x_aload_n hC dX12_findsWho_80 rfl 1 rfl ?_
      refine x_getI hC dX12_findsWho_81 rfl flX12_444 rfl (by decide) rfl rfl ?_
      refine x_iload_n hC dX12_findsWho_84 rfl 4 rfl ?_
      refine x_iast hC dX12_findsWho_85 rfl rfl (by decide) rfl hm5 (hm5.i 54 63 rfl) hv3 hF (fun m7 hm7 hF => ?_)
      refine x_aload_n hC dX12_findsWho_86 rfl 1 rfl ?_
      refine x_dup hC dX12_findsWho_87 rfl rfl ?_
      refine x_getI hC dX12_findsWho_88 rfl flX12_444 rfl (by decide) rfl rfl ?_
      refine x_iconst hC dX12_findsWho_91 rfl ?_
      refine x_iadd hC dX12_findsWho_92 rfl ?_
      refine x_putI hC dX12_findsWho_93 rfl fpX12_444 rfl (by decide) (by decide) rfl rfl hm7 (rg_wr _) rfl hF (fun m8 hm8 hF => ?_)
      refine x_iload_n hC dX12_findsWho_96 rfl 2 rfl ?_
      refine x_iload_n hC dX12_findsWho_97 rfl 4 rfl ?_
      refine x_callS1 (kc2 := 0) (ks2 := 0) (As := [iV v3]) (rest := [iV v1]) hC dX12_findsWho_98 rfl hm8 (fun _ _ h => T_X12_fives b _ m8 v3 hv3 h) mlX12_435 vsX12_fives rfl rfl (Nat.le_of_ble_eq_true rfl) (by decide) (by decide) rfl rfl hF (fun r9 m10 hr9 hm10 hF => ?_)
      refine x_iadd hC dX12_findsWho_101 rfl ?_
      refine x_istore_n (lv' := [(4, iV x6), (0, .ref (b.1 + 54)), (2, iV v2), (3, iV v3)]) hC dX12_findsWho_102 rfl rfl (by decide) rfl (rg_wr _) hF (fun x11 hx11 hF => ?_)
      refine x_iload_n hC dX12_findsWho_103 rfl 4 rfl ?_
      refine x_istore_n (lv' := [(1, iV x11), (4, iV x6), (0, .ref (b.1 + 54)), (3, iV v3)]) hC dX12_findsWho_104 rfl rfl (by decide) rfl hv3 hF (fun x12 hx12 hF => ?_)
      refine x_goto (tgt := 39) hC dX12_findsWho_105 rfl ?_
      refine x_sub [3, 1, 0] rfl ?_
      exact hk_39 x11 hx11 x12 hx12 m10 hm10 hF
    · refine x_iinc (p := 3) (lv' := [(0, .ref (b.1 + 54)), (1, iV v1), (2, iV v2)]) hC dX12_findsWho_60 rfl rfl (by decide) rfl hF (fun x13 hx13 hF => ?_)
      refine x_goto (tgt := 49) hC dX12_findsWho_63 rfl ?_
      refine x_sub [1, 2, 3, 0] rfl ?_
      exact ih v1 hv1 v2 hv2 x13 hx13 m2 hm2 hF
set_option maxRecDepth 20000 in
set_option maxHeartbeats 4000000 in
theorem WL_X12_findsWho_39 {g : Gx} {b : Bs} {o : Mm} {Q : Int → Mm → Prop} (hC : Cok g b RX12 cX12_findsWho 5 3 none) : ∀ n : Nat, ∀ v1 : Int, inR v1 → ∀ v2 : Int, inR v2 → ∀ m : Mm, Rg m → okR (L_X12_findsWho_39 n v1 v2 m) Q → X g b (false, o) 5 (ZM g b (false, o) 0 Q) 39 [(0, .ref (b.1 + 54)), (1, iV v1), (2, iV v2)] [] m 0 0 := by
  intro n
  induction n with
  | zero => intro v1 hv1 v2 hv2 m hm hF; exact absurd hF (fun z => z)
  | succ n ih =>
    intro v1 hv1 v2 hv2 m hm hF
    have hF : okR (LB_X12_findsWho_39 (L_X12_findsWho_39 n) v1 v2 m) Q := hF
    unfold LB_X12_findsWho_39 at hF
    refine x_aload_n hC dX12_findsWho_39 rfl 0 rfl ?_
    refine x_iload_n hC dX12_findsWho_40 rfl 1 rfl ?_
    refine x_callV3 (kc2 := 0) (ks2 := 0) (k := 54) (As := [iV v1]) (rest := []) hC dX12_findsWho_41 rfl hm (fun _ _ h => T_X12_isDone b _ m v1 hv1 h) mlX12_427 vlX12_isDone rfl (by decide) rfl rfl (Nat.le_of_ble_eq_true rfl) (by decide) (by decide) rfl rfl hF (fun r1 m2 hr1 hm2 hF => ?_)
    refine x_if_ne (tgt := 108) hC dX12_findsWho_44 rfl rfl (rg_01 hr1) hF (fun hq3 hF => ?_) (fun hq3 hF => ?_)
    · exact x_return hC dX12_findsWho_108 hm2 hF
    · refine x_iconst hC dX12_findsWho_47 rfl ?_
      refine x_istore_nZ (lv' := [(0, .ref (b.1 + 54)), (1, iV v1), (2, iV v2)]) hC dX12_findsWho_48 rfl rfl (by decide) rfl (Or.inl rfl) hF (fun x4 hx4 hF => ?_)
      refine x_sub [1, 2, 3, 0] rfl ?_
      exact WL_X12_findsWho_49 hC ih 100000  v1 hv1 v2 hv2 x4 (rg_01 hx4) m2 hm2 hF
set_option maxRecDepth 20000 in
set_option maxHeartbeats 4000000 in
theorem WL_X12_findsWho_2 {g : Gx} {b : Bs} {o : Mm} {Q : Int → Mm → Prop} (hC : Cok g b RX12 cX12_findsWho 5 3 none) : ∀ n : Nat, ∀ v1 : Int, inR v1 → ∀ m : Mm, Rg m → okR (L_X12_findsWho_2 n v1 m) Q → X g b (false, o) 5 (ZM g b (false, o) 0 Q) 2 [(0, .ref (b.1 + 54)), (1, iV v1)] [] m 0 0 := by
  intro n
  induction n with
  | zero => intro v1 hv1 m hm hF; exact absurd hF (fun z => z)
  | succ n ih =>
    intro v1 hv1 m hm hF
    have hF : okR (LB_X12_findsWho_2 (L_X12_findsWho_2 n) v1 m) Q := hF
    unfold LB_X12_findsWho_2 at hF
    refine x_iload_n hC dX12_findsWho_2 rfl 1 rfl ?_
    refine x_sipush hC dX12_findsWho_3 rfl rfl ?_
    refine x_icmp_ge (tgt := 22) hC dX12_findsWho_6 rfl rfl hv1 (rgc 374 rfl) hF (fun hq1 hF => ?_) (fun hq1 hF => ?_)
    · refine x_aload_n hC dX12_findsWho_22 rfl 0 rfl ?_
      refine x_getR (t := 89) hC dX12_findsWho_23 rfl flX12_126 rfl (by decide) rfl rfl ?_
      refine x_bipush hC dX12_findsWho_26 rfl rfl ?_
      refine x_iconst hC dX12_findsWho_28 rfl ?_
      refine x_zast hC dX12_findsWho_29 rfl rfl (by decide) rfl hm (rgc 21 rfl) (Or.inr rfl) hF (fun m2 hm2 hF => ?_)
      refine x_iconst hC dX12_findsWho_30 rfl ?_
      refine x_istore_nZ (lv' := [(0, .ref (b.1 + 54))]) hC dX12_findsWho_31 rfl rfl (by decide) rfl (Or.inl rfl) hF (fun x3 hx3 hF => ?_)
      refine x_iconst hC dX12_findsWho_32 rfl ?_
      refine x_istore_n (lv' := [(1, iV x3), (0, .ref (b.1 + 54))]) hC dX12_findsWho_33 rfl rfl (by decide) rfl (rgc 4 rfl) hF (fun x4 hx4 hF => ?_)
      refine x_aload_n hC dX12_findsWho_34 rfl 2 rfl ?_
      refine x_iconst hC dX12_findsWho_35 rfl ?_
      refine x_putI hC dX12_findsWho_36 rfl fpX12_444 rfl (by decide) (by decide) rfl rfl hm2 (rgc 0 rfl) rfl hF (fun m5 hm5 hF => ?_)
      refine x_sub [2, 1, 0] rfl ?_
      exact WL_X12_findsWho_39 hC 100000  x3 (rg_01 hx3) x4 hx4 m5 hm5 hF
    · refine x_aload_n hC dX12_findsWho_9 rfl 0 rfl ?_
      refine x_getR (t := 89) hC dX12_findsWho_10 rfl flX12_126 rfl (by decide) rfl rfl ?_
      refine x_iload_n hC dX12_findsWho_13 rfl 1 rfl ?_
      refine x_iconst hC dX12_findsWho_14 rfl ?_
      refine x_zast hC dX12_findsWho_15 rfl rfl (by decide) rfl hm hv1 (Or.inl rfl) hF (fun m6 hm6 hF => ?_)
      refine x_iinc (p := 1) (lv' := [(0, .ref (b.1 + 54))]) hC dX12_findsWho_16 rfl rfl (by decide) rfl hF (fun x7 hx7 hF => ?_)
      refine x_goto (tgt := 2) hC dX12_findsWho_19 rfl ?_
      refine x_sub [1, 0] rfl ?_
      exact ih x7 hx7 m6 hm6 hF
set_option maxRecDepth 20000 in
set_option maxHeartbeats 4000000 in
theorem T_X12_findsWho (b : Bs) (o : Mm) (m : Mm) {r : Int} {m' : Mm} (h : F_X12_findsWho  m = some (r, m')) : Cn yX12_findsWho cX12_findsWho 5 none (3) 0 0 0 b (false, o) m [.ref (b.1 + 54)] (F_X12_findsWho  m) := by
  refine Cn_of rfl (Nat.le_of_ble_eq_true rfl) (fun g hC hm => ?_)
  have hF := okR_some h
  generalize hQ : (fun (r : Int) (m' : Mm) => F_X12_findsWho  m = some (r, m')) = Q at hF ⊢
  clear hQ h
  replace hC : Cok g b RX12 cX12_findsWho 5 3 none := hC
  refine x_lv (lv' := [(0, .ref (b.1 + 54))]) rfl ?_
  unfold F_X12_findsWho at hF
  refine x_iconst hC dX12_findsWho_0 rfl ?_
  refine x_istore_nZ (lv' := [(0, .ref (b.1 + 54))]) hC dX12_findsWho_1 rfl rfl (by decide) rfl (Or.inl rfl) hF (fun x1 hx1 hF => ?_)
  refine x_sub [1, 0] rfl ?_
  exact WL_X12_findsWho_2 hC 100000  x1 (rg_01 hx1) m hm hF
set_option maxRecDepth 20000 in
set_option maxHeartbeats 4000000 in
theorem WL_X12_stateAfter_4 {g : Gx} {b : Bs} {o : Mm} {Q : Int → Mm → Prop} (hC : Cok g b RX12 cX12_stateAfter 4 1 (some .int)) : ∀ n : Nat, ∀ v1 : Int, inR v1 → ∀ v2 : Int, inR v2 → ∀ v3 : Int, inR v3 → ∀ m : Mm, Rg m → okR (L_X12_stateAfter_4 n v1 v2 v3 m) Q → X g b (false, o) 4 (ZM g b (false, o) 1 Q) 4 [(0, .ref (b.1 + 54)), (1, iV v1), (2, iV v2), (3, iV v3)] [] m 0 0 := by
  intro n
  induction n with
  | zero => intro v1 hv1 v2 hv2 v3 hv3 m hm hF; exact absurd hF (fun z => z)
  | succ n ih =>
    intro v1 hv1 v2 hv2 v3 hv3 m hm hF
    have hF : okR (LB_X12_stateAfter_4 (L_X12_stateAfter_4 n) v1 v2 v3 m) Q := hF
    unfold LB_X12_stateAfter_4 at hF
    refine x_iload_n hC dX12_stateAfter_4 rfl 3 rfl ?_
    refine x_iload_n hC dX12_stateAfter_5 rfl 1 rfl ?_
    refine x_icmp_ge (tgt := 27) hC dX12_stateAfter_6 rfl rfl hv3 hv1 hF (fun hq1 hF => ?_) (fun hq1 hF => ?_)
    · refine x_iload_n hC dX12_stateAfter_27 rfl 2 rfl ?_
      exact x_ireturn hC dX12_stateAfter_28 hm hv2 hF
    · refine x_iload_n hC dX12_stateAfter_9 rfl 2 rfl ?_
      refine x_aload_n hC dX12_stateAfter_10 rfl 0 rfl ?_
      refine x_getR (t := 87) hC dX12_stateAfter_11 rfl flX12_120 rfl (by decide) rfl rfl ?_
      refine x_iload_n hC dX12_stateAfter_14 rfl 3 rfl ?_
      refine x_iald hC dX12_stateAfter_15 rfl rfl (by decide) rfl hm hv3 hF (fun x2 hx2 hF => ?_)
      refine x_callS1 (kc2 := 0) (ks2 := 0) (As := [iV x2]) (rest := [iV v2]) hC dX12_stateAfter_16 rfl hm (fun _ _ h => T_X12_fives b _ m x2 hx2 h) mlX12_435 vsX12_fives rfl rfl (Nat.le_of_ble_eq_true rfl) (by decide) (by decide) rfl rfl hF (fun r3 m4 hr3 hm4 hF => ?_)
      refine x_iadd hC dX12_stateAfter_19 rfl ?_
      refine x_istore_n (lv' := [(0, .ref (b.1 + 54)), (1, iV v1), (3, iV v3)]) hC dX12_stateAfter_20 rfl rfl (by decide) rfl (rg_wr _) hF (fun x5 hx5 hF => ?_)
      refine x_iinc (p := 3) (lv' := [(2, iV x5), (0, .ref (b.1 + 54)), (1, iV v1)]) hC dX12_stateAfter_21 rfl rfl (by decide) rfl hF (fun x6 hx6 hF => ?_)
      refine x_goto (tgt := 4) hC dX12_stateAfter_24 rfl ?_
      refine x_sub [2, 3, 1, 0] rfl ?_
      exact ih v1 hv1 x5 hx5 x6 hx6 m4 hm4 hF
set_option maxRecDepth 20000 in
set_option maxHeartbeats 4000000 in
theorem T_X12_stateAfter (b : Bs) (o : Mm) (m : Mm) (a1 : Int) (ha1 : inR a1) {r : Int} {m' : Mm} (h : F_X12_stateAfter a1 m = some (r, m')) : Cn yX12_stateAfter cX12_stateAfter 4 (some .int) (1) 0 0 1 b (false, o) m [.ref (b.1 + 54), iV a1] (F_X12_stateAfter a1 m) := by
  refine Cn_of rfl (Nat.le_of_ble_eq_true rfl) (fun g hC hm => ?_)
  have hF := okR_some h
  generalize hQ : (fun (r : Int) (m' : Mm) => F_X12_stateAfter a1 m = some (r, m')) = Q at hF ⊢
  clear hQ h
  replace hC : Cok g b RX12 cX12_stateAfter 4 1 (some .int) := hC
  refine x_lv (lv' := [(0, .ref (b.1 + 54)), (1, iV a1)]) rfl ?_
  unfold F_X12_stateAfter at hF
  refine x_iconst hC dX12_stateAfter_0 rfl ?_
  refine x_istore_nZ (lv' := [(0, .ref (b.1 + 54)), (1, iV a1)]) hC dX12_stateAfter_1 rfl rfl (by decide) rfl (Or.inl rfl) hF (fun x1 hx1 hF => ?_)
  refine x_iconst hC dX12_stateAfter_2 rfl ?_
  refine x_istore_nZ (lv' := [(2, iV x1), (0, .ref (b.1 + 54)), (1, iV a1)]) hC dX12_stateAfter_3 rfl rfl (by decide) rfl (Or.inl rfl) hF (fun x2 hx2 hF => ?_)
  refine x_sub [2, 3, 1, 0] rfl ?_
  exact WL_X12_stateAfter_4 hC 100000  a1 ha1 x1 (rg_01 hx1) x2 (rg_01 hx2) m hm hF
set_option maxRecDepth 20000 in
set_option maxHeartbeats 4000000 in
theorem WJ_X12_follows_25 {g : Gx} {b : Bs} {o : Mm} {Q : Int → Mm → Prop} (hC : Cok g b RX12 cX12_follows 7 2 (some .boolean)) (v1 : Int) (hv1 : inR v1) (v2 : Int) (hv2 : inR v2) (v3 : Int) (hv3 : inR v3) (v4 : Int) (hv4 : inR v4) (v5 : Int) (hv5 : inR v5) (m : Mm) (hm : Rg m) (hF : okR (J_X12_follows_25 v1 v2 v3 v4 v5 m) Q) : X g b (false, o) 7 (ZM g b (false, o) 3 Q) 25 [(0, .ref (b.1 + 54)), (1, iV v1), (2, iV v2), (3, iV v3), (4, iV v4), (5, iV v5)] [] m 0 0 := by
  unfold J_X12_follows_25 at hF
  refine x_aload_n hC dX12_follows_25 rfl 0 rfl ?_
  refine x_iload hC dX12_follows_26 rfl 4 rfl ?_
  refine x_iload hC dX12_follows_28 rfl 5 rfl ?_
  refine x_iload_n hC dX12_follows_30 rfl 2 rfl ?_
  refine x_aload_n hC dX12_follows_31 rfl 0 rfl ?_
  refine x_getR (t := 87) hC dX12_follows_32 rfl flX12_120 rfl (by decide) rfl rfl ?_
  refine x_iload_n hC dX12_follows_35 rfl 1 rfl ?_
  refine x_iald hC dX12_follows_36 rfl rfl (by decide) rfl hm hv1 hF (fun x1 hx1 hF => ?_)
  refine x_iload_n hC dX12_follows_37 rfl 3 rfl ?_
  refine x_callV3 (kc2 := 0) (ks2 := 0) (k := 54) (As := [iV v4, iV v5, iV v2, iV x1, iV v3]) (rest := []) hC dX12_follows_38 rfl hm (fun _ _ h => T_X12_says b _ m v4 hv4 v5 hv5 v2 hv2 x1 hx1 v3 hv3 h) mlX12_431 vlX12_says rfl (by decide) rfl rfl (Nat.le_of_ble_eq_true rfl) (by decide) (by decide) rfl rfl hF (fun r2 m3 hr2 hm3 hF => ?_)
  refine x_if_ne (tgt := 46) hC dX12_follows_41 rfl rfl (rg_01 hr2) hF (fun hq4 hF => ?_) (fun hq4 hF => ?_)
  · refine x_aload_n hC dX12_follows_46 rfl 0 rfl ?_
    refine x_getR (t := 86) hC dX12_follows_47 rfl flX12_117 rfl (by decide) rfl rfl ?_
    refine x_iload hC dX12_follows_50 rfl 4 rfl ?_
    refine x_aload_n hC dX12_follows_52 rfl 0 rfl ?_
    refine x_getR (t := 87) hC dX12_follows_53 rfl flX12_120 rfl (by decide) rfl rfl ?_
    refine x_iload_n hC dX12_follows_56 rfl 1 rfl ?_
    refine x_iald hC dX12_follows_57 rfl rfl (by decide) rfl hm3 hv1 hF (fun x5 hx5 hF => ?_)
    refine x_callS1 (kc2 := 0) (ks2 := 0) (As := [iV x5]) (rest := [iV v4, .ref (b.1 + 86)]) hC dX12_follows_58 rfl hm3 (fun _ _ h => T_X12_fives b _ m3 x5 hx5 h) mlX12_435 vsX12_fives rfl rfl (Nat.le_of_ble_eq_true rfl) (by decide) (by decide) rfl rfl hF (fun r6 m7 hr6 hm7 hF => ?_)
    refine x_iadd hC dX12_follows_61 rfl ?_
    refine x_aload_n hC dX12_follows_62 rfl 0 rfl ?_
    refine x_getR (t := 87) hC dX12_follows_63 rfl flX12_120 rfl (by decide) rfl rfl ?_
    refine x_iload_n hC dX12_follows_66 rfl 1 rfl ?_
    refine x_iald hC dX12_follows_67 rfl rfl (by decide) rfl hm7 hv1 hF (fun x8 hx8 hF => ?_)
    refine x_iload_n hC dX12_follows_68 rfl 3 rfl ?_
    refine x_callS1 (kc2 := 0) (ks2 := 0) (As := [iV (wr (v4 + r6)), iV x8, iV v3]) (rest := [.ref (b.1 + 86)]) hC dX12_follows_69 rfl hm7 (fun _ _ h => T_X12_soonPlace b _ m7 (wr (v4 + r6)) (rg_wr _) x8 hx8 v3 hv3 h) mlX12_438 vsX12_soonPlace rfl rfl (Nat.le_of_ble_eq_true rfl) (by decide) (by decide) rfl rfl hF (fun r9 m10 hr9 hm10 hF => ?_)
    refine x_iald hC dX12_follows_72 rfl rfl (by decide) rfl hm10 hr9 hF (fun x11 hx11 hF => ?_)
    refine x_istore (lv' := [(0, .ref (b.1 + 54)), (1, iV v1), (2, iV v2), (3, iV v3), (4, iV v4), (5, iV v5)]) hC dX12_follows_73 rfl (by decide) rfl hx11 hF (fun x12 hx12 hF => ?_)
    refine x_iload hC dX12_follows_75 rfl 0 rfl ?_
    refine x_ldc_w (x := 1000000000) hC dX12_follows_77 rfl kwX12_430 ?_
    refine x_icmp_ge (tgt := 110) hC dX12_follows_80 rfl rfl hx12 (rgc 1000000000 rfl) hF (fun hq13 hF => ?_) (fun hq13 hF => ?_)
    · refine x_iconst hC dX12_follows_110 rfl ?_
      exact x_zreturn hC dX12_follows_111 hm10 (Or.inl rfl) hF
    · refine x_iload_n hC dX12_follows_83 rfl 4 rfl ?_
      refine x_callS1 (kc2 := 0) (ks2 := 0) (As := [iV v3]) (rest := []) hC dX12_follows_84 rfl hm10 (fun _ _ h => T_X12_costOf b _ m10 v3 hv3 h) mlX12_441 vsX12_costOf rfl rfl (Nat.le_of_ble_eq_true rfl) (by decide) (by decide) rfl rfl hF (fun r14 m15 hr14 hm15 hF => ?_)
      refine x_iload hC dX12_follows_87 rfl 0 rfl ?_
      refine x_iadd hC dX12_follows_89 rfl ?_
      refine x_aload_n hC dX12_follows_90 rfl 1 rfl ?_
      refine x_getR (t := 86) hC dX12_follows_91 rfl flX12_117 rfl (by decide) rfl rfl ?_
      refine x_iload hC dX12_follows_94 rfl 5 rfl ?_
      refine x_iload hC dX12_follows_96 rfl 6 rfl ?_
      refine x_iload_n hC dX12_follows_98 rfl 3 rfl ?_
      refine x_callS1 (kc2 := 0) (ks2 := 0) (As := [iV v4, iV v5, iV v2]) (rest := [.ref (b.1 + 86), iV (wr (r14 + x12))]) hC dX12_follows_99 rfl hm15 (fun _ _ h => T_X12_soonPlace b _ m15 v4 hv4 v5 hv5 v2 hv2 h) mlX12_438 vsX12_soonPlace rfl rfl (Nat.le_of_ble_eq_true rfl) (by decide) (by decide) rfl rfl hF (fun r16 m17 hr16 hm17 hF => ?_)
      refine x_iald hC dX12_follows_102 rfl rfl (by decide) rfl hm17 hr16 hF (fun x18 hx18 hF => ?_)
      refine x_icmp_ne (tgt := 110) hC dX12_follows_103 rfl rfl (rg_wr _) hx18 hF (fun hq19 hF => ?_) (fun hq19 hF => ?_)
      · refine x_iconst hC dX12_follows_110 rfl ?_
        exact x_zreturn hC dX12_follows_111 hm17 (Or.inl rfl) hF
      · refine x_iconst hC dX12_follows_106 rfl ?_
        refine x_goto (tgt := 111) hC dX12_follows_107 rfl ?_
        exact x_zreturn hC dX12_follows_111 hm17 (Or.inr rfl) hF
  · refine x_iconst hC dX12_follows_44 rfl ?_
    exact x_zreturn hC dX12_follows_45 hm3 (Or.inl rfl) hF
set_option maxRecDepth 20000 in
set_option maxHeartbeats 4000000 in
theorem T_X12_follows (b : Bs) (o : Mm) (m : Mm) (a1 : Int) (ha1 : inR a1) (a2 : Int) (ha2 : inR a2) (a3 : Int) (ha3 : inR a3) {r : Int} {m' : Mm} (h : F_X12_follows a1 a2 a3 m = some (r, m')) : Cn yX12_follows cX12_follows 7 (some .boolean) (2) 0 0 3 b (false, o) m [.ref (b.1 + 54), iV a1, iV a2, iV a3] (F_X12_follows a1 a2 a3 m) := by
  refine Cn_of rfl (Nat.le_of_ble_eq_true rfl) (fun g hC hm => ?_)
  have hF := okR_some h
  generalize hQ : (fun (r : Int) (m' : Mm) => F_X12_follows a1 a2 a3 m = some (r, m')) = Q at hF ⊢
  clear hQ h
  replace hC : Cok g b RX12 cX12_follows 7 2 (some .boolean) := hC
  refine x_lv (lv' := [(0, .ref (b.1 + 54)), (1, iV a1), (2, iV a2), (3, iV a3)]) rfl ?_
  unfold F_X12_follows at hF
  refine x_aload_n hC dX12_follows_0 rfl 0 rfl ?_
  refine x_iload_n hC dX12_follows_1 rfl 1 rfl ?_
  refine x_callV1 (kc2 := 0) (ks2 := 0) (k := 54) (As := [iV a1]) (rest := []) hC dX12_follows_2 rfl hm (fun _ _ h => T_X12_stateAfter b _ m a1 ha1 h) mlX12_451 vlX12_stateAfter rfl (by decide) rfl rfl (Nat.le_of_ble_eq_true rfl) (by decide) (by decide) rfl rfl hF (fun r1 m2 hr1 hm2 hF => ?_)
  refine x_istore (lv' := [(0, .ref (b.1 + 54)), (1, iV a1), (2, iV a2), (3, iV a3)]) hC dX12_follows_5 rfl (by decide) rfl hr1 hF (fun x3 hx3 hF => ?_)
  refine x_iload_n hC dX12_follows_7 rfl 2 rfl ?_
  refine x_if_ne (tgt := 15) hC dX12_follows_8 rfl rfl ha1 hF (fun hq4 hF => ?_) (fun hq4 hF => ?_)
  · refine x_aload_n hC dX12_follows_15 rfl 1 rfl ?_
    refine x_getR (t := 87) hC dX12_follows_16 rfl flX12_120 rfl (by decide) rfl rfl ?_
    refine x_iload_n hC dX12_follows_19 rfl 2 rfl ?_
    refine x_iconst hC dX12_follows_20 rfl ?_
    refine x_isub hC dX12_follows_21 rfl ?_
    refine x_iald hC dX12_follows_22 rfl rfl (by decide) rfl hm2 (rg_wr _) hF (fun x5 hx5 hF => ?_)
    refine x_istore (lv' := [(4, iV x3), (0, .ref (b.1 + 54)), (1, iV a1), (2, iV a2), (3, iV a3)]) hC dX12_follows_23 rfl (by decide) rfl hx5 hF (fun x6 hx6 hF => ?_)
    refine x_sub [2, 3, 4, 5, 1, 0] rfl ?_
    exact WJ_X12_follows_25 hC  a1 ha1 a2 ha2 a3 ha3 x3 hx3 x6 hx6 m2 hm2 hF
  · refine x_iconst hC dX12_follows_11 rfl ?_
    refine x_goto (tgt := 23) hC dX12_follows_12 rfl ?_
    refine x_istore (lv' := [(4, iV x3), (0, .ref (b.1 + 54)), (1, iV a1), (2, iV a2), (3, iV a3)]) hC dX12_follows_23 rfl (by decide) rfl (rgc 4 rfl) hF (fun x7 hx7 hF => ?_)
    refine x_sub [2, 3, 4, 5, 1, 0] rfl ?_
    exact WJ_X12_follows_25 hC  a1 ha1 a2 ha2 a3 ha3 x3 hx3 x7 hx7 m2 hm2 hF
set_option maxRecDepth 20000 in
set_option maxHeartbeats 4000000 in
theorem WJ_X12_findsGaps_84 {g : Gx} {b : Bs} {o : Mm} {Q : Int → Mm → Prop} {k_7 : Int → Mm → Rs} {k_13 : Int → Int → Mm → Rs} {k_24 : Int → Int → Int → Int → Mm → Rs} (hC : Cok g b RX12 cX12_findsGaps 5 3 none) (hk_7 : ∀ v1 : Int, inR v1 → ∀ m : Mm, Rg m → okR (k_7 v1 m) Q → X g b (false, o) 5 (ZM g b (false, o) 0 Q) 7 [(0, .ref (b.1 + 54)), (1, iV v1)] [] m 0 0) (hk_13 : ∀ v1 : Int, inR v1 → ∀ v2 : Int, inR v2 → ∀ m : Mm, Rg m → okR (k_13 v1 v2 m) Q → X g b (false, o) 5 (ZM g b (false, o) 0 Q) 13 [(0, .ref (b.1 + 54)), (1, iV v1), (2, iV v2)] [] m 0 0) (hk_24 : ∀ v1 : Int, inR v1 → ∀ v2 : Int, inR v2 → ∀ v3 : Int, (v3 = 0 ∨ v3 = 1) → ∀ v4 : Int, inR v4 → ∀ m : Mm, Rg m → okR (k_24 v1 v2 v3 v4 m) Q → X g b (false, o) 5 (ZM g b (false, o) 0 Q) 24 [(0, .ref (b.1 + 54)), (1, iV v1), (2, iV v2), (3, iV v3), (4, iV v4)] [] m 0 0) (v1 : Int) (hv1 : inR v1) (v2 : Int) (hv2 : inR v2) (v3 : Int) (hv3 : (v3 = 0 ∨ v3 = 1)) (v4 : Int) (hv4 : inR v4) (m : Mm) (hm : Rg m) (hF : okR (J_X12_findsGaps_84 k_7 k_13 k_24 v1 v2 v3 v4 m) Q) : X g b (false, o) 5 (ZM g b (false, o) 0 Q) 84 [(0, .ref (b.1 + 54)), (1, iV v1), (2, iV v2), (3, iV v3), (4, iV v4)] [] m 0 0 := by
  unfold J_X12_findsGaps_84 at hF
  refine x_iinc (p := 4) (lv' := [(0, .ref (b.1 + 54)), (1, iV v1), (2, iV v2), (3, iV v3)]) hC dX12_findsGaps_84 rfl rfl (by decide) rfl hF (fun x1 hx1 hF => ?_)
  refine x_goto (tgt := 24) hC dX12_findsGaps_87 rfl ?_
  refine x_sub [1, 2, 3, 4, 0] rfl ?_
  exact hk_24 v1 hv1 v2 hv2 v3 hv3 x1 hx1 m hm hF
set_option maxRecDepth 20000 in
set_option maxHeartbeats 4000000 in
theorem WJ_X12_findsGaps_78 {g : Gx} {b : Bs} {o : Mm} {Q : Int → Mm → Prop} {k_7 : Int → Mm → Rs} {k_13 : Int → Int → Mm → Rs} {k_24 : Int → Int → Int → Int → Mm → Rs} (hC : Cok g b RX12 cX12_findsGaps 5 3 none) (hk_7 : ∀ v1 : Int, inR v1 → ∀ m : Mm, Rg m → okR (k_7 v1 m) Q → X g b (false, o) 5 (ZM g b (false, o) 0 Q) 7 [(0, .ref (b.1 + 54)), (1, iV v1)] [] m 0 0) (hk_13 : ∀ v1 : Int, inR v1 → ∀ v2 : Int, inR v2 → ∀ m : Mm, Rg m → okR (k_13 v1 v2 m) Q → X g b (false, o) 5 (ZM g b (false, o) 0 Q) 13 [(0, .ref (b.1 + 54)), (1, iV v1), (2, iV v2)] [] m 0 0) (hk_24 : ∀ v1 : Int, inR v1 → ∀ v2 : Int, inR v2 → ∀ v3 : Int, (v3 = 0 ∨ v3 = 1) → ∀ v4 : Int, inR v4 → ∀ m : Mm, Rg m → okR (k_24 v1 v2 v3 v4 m) Q → X g b (false, o) 5 (ZM g b (false, o) 0 Q) 24 [(0, .ref (b.1 + 54)), (1, iV v1), (2, iV v2), (3, iV v3), (4, iV v4)] [] m 0 0) (v1 : Int) (hv1 : inR v1) (v2 : Int) (hv2 : inR v2) (v4 : Int) (hv4 : inR v4) (m : Mm) (hm : Rg m) (hF : okR (J_X12_findsGaps_78 k_7 k_13 k_24 v1 v2 v4 m) Q) : X g b (false, o) 5 (ZM g b (false, o) 0 Q) 78 [(0, .ref (b.1 + 54)), (1, iV v1), (2, iV v2), (4, iV v4)] [] m 0 0 := by
  unfold J_X12_findsGaps_78 at hF
  refine x_iconst hC dX12_findsGaps_78 rfl ?_
  refine x_goto (tgt := 83) hC dX12_findsGaps_79 rfl ?_
  refine x_istore_nZ (lv' := [(0, .ref (b.1 + 54)), (1, iV v1), (2, iV v2), (4, iV v4)]) hC dX12_findsGaps_83 rfl rfl (by decide) rfl (Or.inr rfl) hF (fun x1 hx1 hF => ?_)
  refine x_sub [1, 2, 3, 0, 4] rfl ?_
  exact WJ_X12_findsGaps_84 hC hk_7 hk_13 hk_24  v1 hv1 v2 hv2 x1 hx1 v4 hv4 m hm hF
set_option maxRecDepth 20000 in
set_option maxHeartbeats 4000000 in
theorem WJ_X12_findsGaps_82 {g : Gx} {b : Bs} {o : Mm} {Q : Int → Mm → Prop} {k_7 : Int → Mm → Rs} {k_13 : Int → Int → Mm → Rs} {k_24 : Int → Int → Int → Int → Mm → Rs} (hC : Cok g b RX12 cX12_findsGaps 5 3 none) (hk_7 : ∀ v1 : Int, inR v1 → ∀ m : Mm, Rg m → okR (k_7 v1 m) Q → X g b (false, o) 5 (ZM g b (false, o) 0 Q) 7 [(0, .ref (b.1 + 54)), (1, iV v1)] [] m 0 0) (hk_13 : ∀ v1 : Int, inR v1 → ∀ v2 : Int, inR v2 → ∀ m : Mm, Rg m → okR (k_13 v1 v2 m) Q → X g b (false, o) 5 (ZM g b (false, o) 0 Q) 13 [(0, .ref (b.1 + 54)), (1, iV v1), (2, iV v2)] [] m 0 0) (hk_24 : ∀ v1 : Int, inR v1 → ∀ v2 : Int, inR v2 → ∀ v3 : Int, (v3 = 0 ∨ v3 = 1) → ∀ v4 : Int, inR v4 → ∀ m : Mm, Rg m → okR (k_24 v1 v2 v3 v4 m) Q → X g b (false, o) 5 (ZM g b (false, o) 0 Q) 24 [(0, .ref (b.1 + 54)), (1, iV v1), (2, iV v2), (3, iV v3), (4, iV v4)] [] m 0 0) (v1 : Int) (hv1 : inR v1) (v2 : Int) (hv2 : inR v2) (v4 : Int) (hv4 : inR v4) (m : Mm) (hm : Rg m) (hF : okR (J_X12_findsGaps_82 k_7 k_13 k_24 v1 v2 v4 m) Q) : X g b (false, o) 5 (ZM g b (false, o) 0 Q) 82 [(0, .ref (b.1 + 54)), (1, iV v1), (2, iV v2), (4, iV v4)] [] m 0 0 := by
  unfold J_X12_findsGaps_82 at hF
  refine x_iconst hC dX12_findsGaps_82 rfl ?_
  refine x_istore_nZ (lv' := [(0, .ref (b.1 + 54)), (1, iV v1), (2, iV v2), (4, iV v4)]) hC dX12_findsGaps_83 rfl rfl (by decide) rfl (Or.inl rfl) hF (fun x1 hx1 hF => ?_)
  refine x_sub [1, 2, 3, 0, 4] rfl ?_
  exact WJ_X12_findsGaps_84 hC hk_7 hk_13 hk_24  v1 hv1 v2 hv2 x1 hx1 v4 hv4 m hm hF
set_option maxRecDepth 20000 in
set_option maxHeartbeats 4000000 in
theorem WJ_X12_findsGaps_90 {g : Gx} {b : Bs} {o : Mm} {Q : Int → Mm → Prop} {k_7 : Int → Mm → Rs} {k_13 : Int → Int → Mm → Rs} (hC : Cok g b RX12 cX12_findsGaps 5 3 none) (hk_7 : ∀ v1 : Int, inR v1 → ∀ m : Mm, Rg m → okR (k_7 v1 m) Q → X g b (false, o) 5 (ZM g b (false, o) 0 Q) 7 [(0, .ref (b.1 + 54)), (1, iV v1)] [] m 0 0) (hk_13 : ∀ v1 : Int, inR v1 → ∀ v2 : Int, inR v2 → ∀ m : Mm, Rg m → okR (k_13 v1 v2 m) Q → X g b (false, o) 5 (ZM g b (false, o) 0 Q) 13 [(0, .ref (b.1 + 54)), (1, iV v1), (2, iV v2)] [] m 0 0) (v1 : Int) (hv1 : inR v1) (v2 : Int) (hv2 : inR v2) (v3 : Int) (hv3 : (v3 = 0 ∨ v3 = 1)) (m : Mm) (hm : Rg m) (hF : okR (J_X12_findsGaps_90 k_7 k_13 v1 v2 v3 m) Q) : X g b (false, o) 5 (ZM g b (false, o) 0 Q) 90 [(0, .ref (b.1 + 54)), (1, iV v1), (2, iV v2), (3, iV v3)] [] m 0 0 := by
  unfold J_X12_findsGaps_90 at hF
  refine x_aload_n hC dX12_findsGaps_90 rfl 0 rfl ?_
  refine x_getR (t := 89) hC dX12_findsGaps_91 rfl flX12_126 rfl (by decide) rfl rfl ?_
  refine x_bipush hC dX12_findsGaps_94 rfl rfl ?_
  refine x_iload_n hC dX12_findsGaps_96 rfl 1 rfl ?_
  refine x_imul hC dX12_findsGaps_97 rfl ?_
  refine x_iload_n hC dX12_findsGaps_98 rfl 2 rfl ?_
  refine x_iadd hC dX12_findsGaps_99 rfl ?_
  refine x_iload_n hC dX12_findsGaps_100 rfl 3 rfl ?_
  refine x_zast hC dX12_findsGaps_101 rfl rfl (by decide) rfl hm (rg_wr _) hv3 hF (fun m1 hm1 hF => ?_)
  refine x_iinc (p := 2) (lv' := [(0, .ref (b.1 + 54)), (1, iV v1), (3, iV v3)]) hC dX12_findsGaps_102 rfl rfl (by decide) rfl hF (fun x2 hx2 hF => ?_)
  refine x_goto (tgt := 13) hC dX12_findsGaps_105 rfl ?_
  refine x_sub [1, 2, 0] rfl ?_
  exact hk_13 v1 hv1 x2 hx2 m1 hm1 hF
set_option maxRecDepth 20000 in
set_option maxHeartbeats 4000000 in
theorem WL_X12_findsGaps_24 {g : Gx} {b : Bs} {o : Mm} {Q : Int → Mm → Prop} {k_7 : Int → Mm → Rs} {k_13 : Int → Int → Mm → Rs} (hC : Cok g b RX12 cX12_findsGaps 5 3 none) (hk_7 : ∀ v1 : Int, inR v1 → ∀ m : Mm, Rg m → okR (k_7 v1 m) Q → X g b (false, o) 5 (ZM g b (false, o) 0 Q) 7 [(0, .ref (b.1 + 54)), (1, iV v1)] [] m 0 0) (hk_13 : ∀ v1 : Int, inR v1 → ∀ v2 : Int, inR v2 → ∀ m : Mm, Rg m → okR (k_13 v1 v2 m) Q → X g b (false, o) 5 (ZM g b (false, o) 0 Q) 13 [(0, .ref (b.1 + 54)), (1, iV v1), (2, iV v2)] [] m 0 0) : ∀ n : Nat, ∀ v1 : Int, inR v1 → ∀ v2 : Int, inR v2 → ∀ v3 : Int, (v3 = 0 ∨ v3 = 1) → ∀ v4 : Int, inR v4 → ∀ m : Mm, Rg m → okR (L_X12_findsGaps_24 k_7 k_13 n v1 v2 v3 v4 m) Q → X g b (false, o) 5 (ZM g b (false, o) 0 Q) 24 [(0, .ref (b.1 + 54)), (1, iV v1), (2, iV v2), (3, iV v3), (4, iV v4)] [] m 0 0 := by
  intro n
  induction n with
  | zero => intro v1 hv1 v2 hv2 v3 hv3 v4 hv4 m hm hF; exact absurd hF (fun z => z)
  | succ n ih =>
    intro v1 hv1 v2 hv2 v3 hv3 v4 hv4 m hm hF
    have hF : okR (LB_X12_findsGaps_24 k_7 k_13 (L_X12_findsGaps_24 k_7 k_13 n) v1 v2 v3 v4 m) Q := hF
    unfold LB_X12_findsGaps_24 at hF
    refine x_iload hC dX12_findsGaps_24 rfl 4 rfl ?_
    refine x_bipush hC dX12_findsGaps_26 rfl rfl ?_
    refine x_icmp_ge (tgt := 90) hC dX12_findsGaps_28 rfl rfl hv4 (rgc 21 rfl) hF (fun hq1 hF => ?_) (fun hq1 hF => ?_)
    · refine x_sub [0, 1, 2, 3] rfl ?_
      exact WJ_X12_findsGaps_90 hC hk_7 hk_13  v1 hv1 v2 hv2 v3 hv3 m hm hF
    · refine x_aload_n hC dX12_findsGaps_31 rfl 0 rfl ?_
      refine x_getR (t := 89) hC dX12_findsGaps_32 rfl flX12_126 rfl (by decide) rfl rfl ?_
      refine x_bipush hC dX12_findsGaps_35 rfl rfl ?_
      refine x_iload_n hC dX12_findsGaps_37 rfl 1 rfl ?_
      refine x_imul hC dX12_findsGaps_38 rfl ?_
      refine x_iload_n hC dX12_findsGaps_39 rfl 2 rfl ?_
      refine x_iadd hC dX12_findsGaps_40 rfl ?_
      refine x_zald hC dX12_findsGaps_41 rfl rfl (by decide) rfl hm (rg_wr _) hF (fun x2 hx2 hF => ?_)
      refine x_if_eq (tgt := 90) hC dX12_findsGaps_42 rfl rfl (rg_01 hx2) hF (fun hq3 hF => ?_) (fun hq3 hF => ?_)
      · refine x_sub [0, 1, 2, 3] rfl ?_
        exact WJ_X12_findsGaps_90 hC hk_7 hk_13  v1 hv1 v2 hv2 v3 hv3 m hm hF
      · refine x_iload_n hC dX12_findsGaps_45 rfl 3 rfl ?_
        refine x_if_ne (tgt := 78) hC dX12_findsGaps_46 rfl rfl (rg_01 hv3) hF (fun hq4 hF => ?_) (fun hq4 hF => ?_)
        · refine x_sub [0, 1, 2, 4] rfl ?_
          exact WJ_X12_findsGaps_78 hC hk_7 hk_13 ih  v1 hv1 v2 hv2 v4 hv4 m hm hF
        · refine x_aload_n hC dX12_findsGaps_49 rfl 0 rfl ?_
          refine x_getR (t := 89) hC dX12_findsGaps_50 rfl flX12_126 rfl (by decide) rfl rfl ?_
          refine x_bipush hC dX12_findsGaps_53 rfl rfl ?_
          refine x_iload_n hC dX12_findsGaps_55 rfl 1 rfl ?_
          refine x_imul hC dX12_findsGaps_56 rfl ?_
          refine x_bipush hC dX12_findsGaps_57 rfl rfl ?_
          refine x_iadd hC dX12_findsGaps_59 rfl ?_
          refine x_iload hC dX12_findsGaps_60 rfl 4 rfl ?_
          refine x_iadd hC dX12_findsGaps_62 rfl ?_
          refine x_zald hC dX12_findsGaps_63 rfl rfl (by decide) rfl hm (rg_wr _) hF (fun x5 hx5 hF => ?_)
          refine x_if_eq (tgt := 82) hC dX12_findsGaps_64 rfl rfl (rg_01 hx5) hF (fun hq6 hF => ?_) (fun hq6 hF => ?_)
          · refine x_sub [0, 1, 2, 4] rfl ?_
            exact WJ_X12_findsGaps_82 hC hk_7 hk_13 ih  v1 hv1 v2 hv2 v4 hv4 m hm hF
          · refine x_aload_n hC dX12_findsGaps_67 rfl 0 rfl ?_
            refine x_iload_n hC dX12_findsGaps_68 rfl 1 rfl ?_
            refine x_iload_n hC dX12_findsGaps_69 rfl 2 rfl ?_
            refine x_iload hC dX12_findsGaps_70 rfl 4 rfl ?_
            refine x_callV3 (kc2 := 0) (ks2 := 0) (k := 54) (As := [iV v1, iV v2, iV v4]) (rest := []) hC dX12_findsGaps_72 rfl hm (fun _ _ h => T_X12_follows b _ m v1 hv1 v2 hv2 v4 hv4 h) mlX12_454 vlX12_follows rfl (by decide) rfl rfl (Nat.le_of_ble_eq_true rfl) (by decide) (by decide) rfl rfl hF (fun r7 m8 hr7 hm8 hF => ?_)
            refine x_if_eq (tgt := 82) hC dX12_findsGaps_75 rfl rfl (rg_01 hr7) hF (fun hq9 hF => ?_) (fun hq9 hF => ?_)
            · refine x_sub [0, 1, 2, 4] rfl ?_
              exact WJ_X12_findsGaps_82 hC hk_7 hk_13 ih  v1 hv1 v2 hv2 v4 hv4 m8 hm8 hF
            · refine x_sub [0, 1, 2, 4] rfl ?_
              exact WJ_X12_findsGaps_78 hC hk_7 hk_13 ih  v1 hv1 v2 hv2 v4 hv4 m8 hm8 hF
set_option maxRecDepth 20000 in
set_option maxHeartbeats 4000000 in
theorem WL_X12_findsGaps_13 {g : Gx} {b : Bs} {o : Mm} {Q : Int → Mm → Prop} {k_7 : Int → Mm → Rs} (hC : Cok g b RX12 cX12_findsGaps 5 3 none) (hk_7 : ∀ v1 : Int, inR v1 → ∀ m : Mm, Rg m → okR (k_7 v1 m) Q → X g b (false, o) 5 (ZM g b (false, o) 0 Q) 7 [(0, .ref (b.1 + 54)), (1, iV v1)] [] m 0 0) : ∀ n : Nat, ∀ v1 : Int, inR v1 → ∀ v2 : Int, inR v2 → ∀ m : Mm, Rg m → okR (L_X12_findsGaps_13 k_7 n v1 v2 m) Q → X g b (false, o) 5 (ZM g b (false, o) 0 Q) 13 [(0, .ref (b.1 + 54)), (1, iV v1), (2, iV v2)] [] m 0 0 := by
  intro n
  induction n with
  | zero => intro v1 hv1 v2 hv2 m hm hF; exact absurd hF (fun z => z)
  | succ n ih =>
    intro v1 hv1 v2 hv2 m hm hF
    have hF : okR (LB_X12_findsGaps_13 k_7 (L_X12_findsGaps_13 k_7 n) v1 v2 m) Q := hF
    unfold LB_X12_findsGaps_13 at hF
    refine x_iload_n hC dX12_findsGaps_13 rfl 2 rfl ?_
    refine x_bipush hC dX12_findsGaps_14 rfl rfl ?_
    refine x_icmp_ge (tgt := 108) hC dX12_findsGaps_16 rfl rfl hv2 (rgc 22 rfl) hF (fun hq1 hF => ?_) (fun hq1 hF => ?_)
    · refine x_iinc (p := 1) (lv' := [(0, .ref (b.1 + 54)), (2, iV v2)]) hC dX12_findsGaps_108 rfl rfl (by decide) rfl hF (fun x2 hx2 hF => ?_)
      refine x_goto (tgt := 7) hC dX12_findsGaps_111 rfl ?_
      refine x_sub [1, 0] rfl ?_
      exact hk_7 x2 hx2 m hm hF
    · refine x_iconst hC dX12_findsGaps_19 rfl ?_
      refine x_istore_nZ (lv' := [(0, .ref (b.1 + 54)), (1, iV v1), (2, iV v2)]) hC dX12_findsGaps_20 rfl rfl (by decide) rfl (Or.inl rfl) hF (fun x3 hx3 hF => ?_)
      refine x_iconst hC dX12_findsGaps_21 rfl ?_
      refine x_istoreZ (lv' := [(3, iV x3), (0, .ref (b.1 + 54)), (1, iV v1), (2, iV v2)]) hC dX12_findsGaps_22 rfl (by decide) rfl (Or.inr rfl) hF (fun x4 hx4 hF => ?_)
      refine x_sub [2, 3, 4, 1, 0] rfl ?_
      exact WL_X12_findsGaps_24 hC hk_7 ih 100000  v1 hv1 v2 hv2 x3 hx3 x4 (rg_01 hx4) m hm hF
set_option maxRecDepth 20000 in
set_option maxHeartbeats 4000000 in
theorem WJ_X12_findsGaps_165 {g : Gx} {b : Bs} {o : Mm} {Q : Int → Mm → Prop} {k_119 : Int → Int → Mm → Rs} {k_138 : Int → Int → Int → Mm → Rs} (hC : Cok g b RX12 cX12_findsGaps 5 3 none) (hk_119 : ∀ v1 : Int, inR v1 → ∀ v2 : Int, inR v2 → ∀ m : Mm, Rg m → okR (k_119 v1 v2 m) Q → X g b (false, o) 5 (ZM g b (false, o) 0 Q) 119 [(0, .ref (b.1 + 54)), (1, iV v1), (2, iV v2)] [] m 0 0) (hk_138 : ∀ v1 : Int, inR v1 → ∀ v2 : Int, inR v2 → ∀ v3 : Int, inR v3 → ∀ m : Mm, Rg m → okR (k_138 v1 v2 v3 m) Q → X g b (false, o) 5 (ZM g b (false, o) 0 Q) 138 [(0, .ref (b.1 + 54)), (1, iV v1), (2, iV v2), (3, iV v3)] [] m 0 0) (v1 : Int) (hv1 : inR v1) (v2 : Int) (hv2 : inR v2) (v3 : Int) (hv3 : inR v3) (m : Mm) (hm : Rg m) (hF : okR (J_X12_findsGaps_165 k_119 k_138 v1 v2 v3 m) Q) : X g b (false, o) 5 (ZM g b (false, o) 0 Q) 165 [(0, .ref (b.1 + 54)), (1, iV v1), (2, iV v2), (3, iV v3)] [] m 0 0 := by
  unfold J_X12_findsGaps_165 at hF
  refine x_iinc (p := 3) (lv' := [(0, .ref (b.1 + 54)), (1, iV v1), (2, iV v2)]) hC dX12_findsGaps_165 rfl rfl (by decide) rfl hF (fun x1 hx1 hF => ?_)
  refine x_goto (tgt := 138) hC dX12_findsGaps_168 rfl ?_
  refine x_sub [1, 2, 3, 0] rfl ?_
  exact hk_138 v1 hv1 v2 hv2 x1 hx1 m hm hF
set_option maxRecDepth 20000 in
set_option maxHeartbeats 4000000 in
theorem WL_X12_findsGaps_138 {g : Gx} {b : Bs} {o : Mm} {Q : Int → Mm → Prop} {k_119 : Int → Int → Mm → Rs} (hC : Cok g b RX12 cX12_findsGaps 5 3 none) (hk_119 : ∀ v1 : Int, inR v1 → ∀ v2 : Int, inR v2 → ∀ m : Mm, Rg m → okR (k_119 v1 v2 m) Q → X g b (false, o) 5 (ZM g b (false, o) 0 Q) 119 [(0, .ref (b.1 + 54)), (1, iV v1), (2, iV v2)] [] m 0 0) : ∀ n : Nat, ∀ v1 : Int, inR v1 → ∀ v2 : Int, inR v2 → ∀ v3 : Int, inR v3 → ∀ m : Mm, Rg m → okR (L_X12_findsGaps_138 k_119 n v1 v2 v3 m) Q → X g b (false, o) 5 (ZM g b (false, o) 0 Q) 138 [(0, .ref (b.1 + 54)), (1, iV v1), (2, iV v2), (3, iV v3)] [] m 0 0 := by
  intro n
  induction n with
  | zero => intro v1 hv1 v2 hv2 v3 hv3 m hm hF; exact absurd hF (fun z => z)
  | succ n ih =>
    intro v1 hv1 v2 hv2 v3 hv3 m hm hF
    have hF : okR (LB_X12_findsGaps_138 k_119 (L_X12_findsGaps_138 k_119 n) v1 v2 v3 m) Q := hF
    unfold LB_X12_findsGaps_138 at hF
    refine x_aload_n hC dX12_findsGaps_138 rfl 0 rfl ?_
    refine x_getR (t := 89) hC dX12_findsGaps_139 rfl flX12_126 rfl (by decide) rfl rfl ?_
    refine x_bipush hC dX12_findsGaps_142 rfl rfl ?_
    refine x_iload_n hC dX12_findsGaps_144 rfl 2 rfl ?_
    refine x_imul hC dX12_findsGaps_145 rfl ?_
    refine x_bipush hC dX12_findsGaps_146 rfl rfl ?_
    refine x_iadd hC dX12_findsGaps_148 rfl ?_
    refine x_iload_n hC dX12_findsGaps_149 rfl 3 rfl ?_
    refine x_iadd hC dX12_findsGaps_150 rfl ?_
    refine x_zald hC dX12_findsGaps_151 rfl rfl (by decide) rfl hm (rg_wr _) hF (fun x1 hx1 hF => ?_)
    refine x_if_eq (tgt := 165) hC dX12_findsGaps_152 rfl rfl (rg_01 hx1) hF (fun hq2 hF => ?_) (fun hq2 hF => ?_)
    · exact WJ_X12_findsGaps_165 hC hk_119 ih  v1 hv1 v2 hv2 v3 hv3 m hm hF
    · refine x_aload_n hC dX12_findsGaps_155 rfl 0 rfl ?_
      refine x_iload_n hC dX12_findsGaps_156 rfl 2 rfl ?_
      refine x_iload_n hC dX12_findsGaps_157 rfl 1 rfl ?_
      refine x_iload_n hC dX12_findsGaps_158 rfl 3 rfl ?_
      refine x_callV3 (kc2 := 0) (ks2 := 0) (k := 54) (As := [iV v2, iV v1, iV v3]) (rest := []) hC dX12_findsGaps_159 rfl hm (fun _ _ h => T_X12_follows b _ m v2 hv2 v1 hv1 v3 hv3 h) mlX12_454 vlX12_follows rfl (by decide) rfl rfl (Nat.le_of_ble_eq_true rfl) (by decide) (by decide) rfl rfl hF (fun r3 m4 hr3 hm4 hF => ?_)
      refine x_if_ne (tgt := 171) hC dX12_findsGaps_162 rfl rfl (rg_01 hr3) hF (fun hq5 hF => ?_) (fun hq5 hF => ?_)
      · refine x_aload_n hC dX12_findsGaps_171 rfl 0 rfl ?_
        refine x_getR (t := 88) hC dX12_findsGaps_172 rfl flX12_123 rfl (by decide) rfl rfl ?_
        refine x_iload_n hC dX12_findsGaps_175 rfl 2 rfl ?_
        refine x_iload_n hC dX12_findsGaps_176 rfl 3 rfl ?_
        refine x_iast hC dX12_findsGaps_177 rfl rfl (by decide) rfl hm4 hv2 hv3 hF (fun m6 hm6 hF => ?_)
        refine x_iload_n hC dX12_findsGaps_178 rfl 3 rfl ?_
        refine x_istore_n (lv' := [(0, .ref (b.1 + 54)), (2, iV v2), (3, iV v3)]) hC dX12_findsGaps_179 rfl rfl (by decide) rfl hv3 hF (fun x7 hx7 hF => ?_)
        refine x_iinc (p := 2) (lv' := [(1, iV x7), (0, .ref (b.1 + 54)), (3, iV v3)]) hC dX12_findsGaps_180 rfl rfl (by decide) rfl hF (fun x8 hx8 hF => ?_)
        refine x_goto (tgt := 119) hC dX12_findsGaps_183 rfl ?_
        refine x_sub [2, 1, 0] rfl ?_
        exact hk_119 x7 hx7 x8 hx8 m6 hm6 hF
      · exact WJ_X12_findsGaps_165 hC hk_119 ih  v1 hv1 v2 hv2 v3 hv3 m4 hm4 hF
set_option maxRecDepth 20000 in
set_option maxHeartbeats 4000000 in
theorem WL_X12_findsGaps_119 {g : Gx} {b : Bs} {o : Mm} {Q : Int → Mm → Prop} (hC : Cok g b RX12 cX12_findsGaps 5 3 none) : ∀ n : Nat, ∀ v1 : Int, inR v1 → ∀ v2 : Int, inR v2 → ∀ m : Mm, Rg m → okR (L_X12_findsGaps_119 n v1 v2 m) Q → X g b (false, o) 5 (ZM g b (false, o) 0 Q) 119 [(0, .ref (b.1 + 54)), (1, iV v1), (2, iV v2)] [] m 0 0 := by
  intro n
  induction n with
  | zero => intro v1 hv1 v2 hv2 m hm hF; exact absurd hF (fun z => z)
  | succ n ih =>
    intro v1 hv1 v2 hv2 m hm hF
    have hF : okR (LB_X12_findsGaps_119 (L_X12_findsGaps_119 n) v1 v2 m) Q := hF
    unfold LB_X12_findsGaps_119 at hF
    refine x_iload_n hC dX12_findsGaps_119 rfl 2 rfl ?_
    refine x_aload_n hC dX12_findsGaps_120 rfl 0 rfl ?_
    refine x_getI hC dX12_findsGaps_121 rfl flX12_444 rfl (by decide) rfl rfl ?_
    refine x_icmp_ge (tgt := 186) hC dX12_findsGaps_124 rfl rfl hv2 (hm.i 54 63 rfl) hF (fun hq1 hF => ?_) (fun hq1 hF => ?_)
    · exact x_return hC dX12_findsGaps_186 hm hF
    · refine x_iload_n hC dX12_findsGaps_127 rfl 2 rfl ?_
      refine x_if_ne (tgt := 136) hC dX12_findsGaps_128 rfl rfl hv2 hF (fun hq2 hF => ?_) (fun hq2 hF => ?_)
      · refine x_iconst hC dX12_findsGaps_136 rfl ?_
        refine x_istore_nZ (lv' := [(0, .ref (b.1 + 54)), (1, iV v1), (2, iV v2)]) hC dX12_findsGaps_137 rfl rfl (by decide) rfl (Or.inr rfl) hF (fun x3 hx3 hF => ?_)
        refine x_sub [1, 2, 3, 0] rfl ?_
        exact WL_X12_findsGaps_138 hC ih 100000  v1 hv1 v2 hv2 x3 (rg_01 hx3) m hm hF
      · refine x_bipush hC dX12_findsGaps_131 rfl rfl ?_
        refine x_goto (tgt := 137) hC dX12_findsGaps_133 rfl ?_
        refine x_istore_n (lv' := [(0, .ref (b.1 + 54)), (1, iV v1), (2, iV v2)]) hC dX12_findsGaps_137 rfl rfl (by decide) rfl (rgc 21 rfl) hF (fun x4 hx4 hF => ?_)
        refine x_sub [1, 2, 3, 0] rfl ?_
        exact WL_X12_findsGaps_138 hC ih 100000  v1 hv1 v2 hv2 x4 hx4 m hm hF
set_option maxRecDepth 20000 in
set_option maxHeartbeats 4000000 in
theorem WL_X12_findsGaps_7 {g : Gx} {b : Bs} {o : Mm} {Q : Int → Mm → Prop} (hC : Cok g b RX12 cX12_findsGaps 5 3 none) : ∀ n : Nat, ∀ v1 : Int, inR v1 → ∀ m : Mm, Rg m → okR (L_X12_findsGaps_7 n v1 m) Q → X g b (false, o) 5 (ZM g b (false, o) 0 Q) 7 [(0, .ref (b.1 + 54)), (1, iV v1)] [] m 0 0 := by
  intro n
  induction n with
  | zero => intro v1 hv1 m hm hF; exact absurd hF (fun z => z)
  | succ n ih =>
    intro v1 hv1 m hm hF
    have hF : okR (LB_X12_findsGaps_7 (L_X12_findsGaps_7 n) v1 m) Q := hF
    unfold LB_X12_findsGaps_7 at hF
    refine x_iload_n hC dX12_findsGaps_7 rfl 1 rfl ?_
    refine x_if_le (tgt := 114) hC dX12_findsGaps_8 rfl rfl hv1 hF (fun hq1 hF => ?_) (fun hq1 hF => ?_)
    · refine x_bipush hC dX12_findsGaps_114 rfl rfl ?_
      refine x_istore_n (lv' := [(0, .ref (b.1 + 54))]) hC dX12_findsGaps_116 rfl rfl (by decide) rfl (rgc 21 rfl) hF (fun x2 hx2 hF => ?_)
      refine x_iconst hC dX12_findsGaps_117 rfl ?_
      refine x_istore_nZ (lv' := [(1, iV x2), (0, .ref (b.1 + 54))]) hC dX12_findsGaps_118 rfl rfl (by decide) rfl (Or.inl rfl) hF (fun x3 hx3 hF => ?_)
      refine x_sub [2, 1, 0] rfl ?_
      exact WL_X12_findsGaps_119 hC 100000  x2 hx2 x3 (rg_01 hx3) m hm hF
    · refine x_iconst hC dX12_findsGaps_11 rfl ?_
      refine x_istore_nZ (lv' := [(0, .ref (b.1 + 54)), (1, iV v1)]) hC dX12_findsGaps_12 rfl rfl (by decide) rfl (Or.inr rfl) hF (fun x4 hx4 hF => ?_)
      refine x_sub [1, 2, 0] rfl ?_
      exact WL_X12_findsGaps_13 hC ih 100000  v1 hv1 x4 (rg_01 hx4) m hm hF
set_option maxRecDepth 20000 in
set_option maxHeartbeats 4000000 in
theorem T_X12_findsGaps (b : Bs) (o : Mm) (m : Mm) {r : Int} {m' : Mm} (h : F_X12_findsGaps  m = some (r, m')) : Cn yX12_findsGaps cX12_findsGaps 5 none (3) 0 0 0 b (false, o) m [.ref (b.1 + 54)] (F_X12_findsGaps  m) := by
  refine Cn_of rfl (Nat.le_of_ble_eq_true rfl) (fun g hC hm => ?_)
  have hF := okR_some h
  generalize hQ : (fun (r : Int) (m' : Mm) => F_X12_findsGaps  m = some (r, m')) = Q at hF ⊢
  clear hQ h
  replace hC : Cok g b RX12 cX12_findsGaps 5 3 none := hC
  refine x_lv (lv' := [(0, .ref (b.1 + 54))]) rfl ?_
  unfold F_X12_findsGaps at hF
  refine x_aload_n hC dX12_findsGaps_0 rfl 0 rfl ?_
  refine x_getI hC dX12_findsGaps_1 rfl flX12_444 rfl (by decide) rfl rfl ?_
  refine x_iconst hC dX12_findsGaps_4 rfl ?_
  refine x_isub hC dX12_findsGaps_5 rfl ?_
  refine x_istore_n (lv' := [(0, .ref (b.1 + 54))]) hC dX12_findsGaps_6 rfl rfl (by decide) rfl (rg_wr _) hF (fun x1 hx1 hF => ?_)
  refine x_sub [1, 0] rfl ?_
  exact WL_X12_findsGaps_7 hC 100000  x1 hx1 m hm hF
set_option maxRecDepth 20000 in
set_option maxHeartbeats 4000000 in
theorem WL_X12_sizeOf_4 {g : Gx} {b : Bs} {o : Mm} {Q : Int → Mm → Prop} (hC : Cok g b RX12 cX12_sizeOf 3 0 (some .int)) : ∀ n : Nat, ∀ v1 : Int, inR v1 → ∀ v2 : Int, inR v2 → ∀ m : Mm, Rg m → okR (L_X12_sizeOf_4 n v1 v2 m) Q → X g b (false, o) 3 (ZM g b (false, o) 1 Q) 4 [(1, iV v1), (2, iV v2)] [] m 0 0 := by
  intro n
  induction n with
  | zero => intro v1 hv1 v2 hv2 m hm hF; exact absurd hF (fun z => z)
  | succ n ih =>
    intro v1 hv1 v2 hv2 m hm hF
    have hF : okR (LB_X12_sizeOf_4 (L_X12_sizeOf_4 n) v1 v2 m) Q := hF
    unfold LB_X12_sizeOf_4 at hF
    refine x_iload_n hC dX12_sizeOf_4 rfl 1 rfl ?_
    refine x_if_eq (tgt := 20) hC dX12_sizeOf_5 rfl rfl hv2 hF (fun hq1 hF => ?_) (fun hq1 hF => ?_)
    · refine x_iload_n hC dX12_sizeOf_20 rfl 0 rfl ?_
      exact x_ireturn hC dX12_sizeOf_21 hm hv1 hF
    · refine x_iinc (p := 0) (lv' := [(2, iV v2)]) hC dX12_sizeOf_8 rfl rfl (by decide) rfl hF (fun x2 hx2 hF => ?_)
      refine x_iload_n hC dX12_sizeOf_11 rfl 1 rfl ?_
      refine x_iload_n hC dX12_sizeOf_12 rfl 1 rfl ?_
      refine x_iconst hC dX12_sizeOf_13 rfl ?_
      refine x_isub hC dX12_sizeOf_14 rfl ?_
      refine x_iand hC dX12_sizeOf_15 rfl ?_
      refine x_istore_n (lv' := [(1, iV x2)]) hC dX12_sizeOf_16 rfl rfl (by decide) rfl (rg_tI _) hF (fun x3 hx3 hF => ?_)
      refine x_goto (tgt := 4) hC dX12_sizeOf_17 rfl ?_
      refine x_sub [1, 0] rfl ?_
      exact ih x2 hx2 x3 hx3 m hm hF
set_option maxRecDepth 20000 in
set_option maxHeartbeats 4000000 in
theorem T_X12_sizeOf (b : Bs) (o : Mm) (m : Mm) (a1 : Int) (ha1 : inR a1) {r : Int} {m' : Mm} (h : F_X12_sizeOf a1 m = some (r, m')) : Cn yX12_sizeOf cX12_sizeOf 3 (some .int) (0) 0 0 1 b (false, o) m [iV a1] (F_X12_sizeOf a1 m) := by
  refine Cn_of rfl (Nat.le_of_ble_eq_true rfl) (fun g hC hm => ?_)
  have hF := okR_some h
  generalize hQ : (fun (r : Int) (m' : Mm) => F_X12_sizeOf a1 m = some (r, m')) = Q at hF ⊢
  clear hQ h
  replace hC : Cok g b RX12 cX12_sizeOf 3 0 (some .int) := hC
  refine x_lv (lv' := [(0, iV a1)]) rfl ?_
  unfold F_X12_sizeOf at hF
  refine x_iconst hC dX12_sizeOf_0 rfl ?_
  refine x_istore_nZ (lv' := [(0, iV a1)]) hC dX12_sizeOf_1 rfl rfl (by decide) rfl (Or.inl rfl) hF (fun x1 hx1 hF => ?_)
  refine x_iload_n hC dX12_sizeOf_2 rfl 1 rfl ?_
  refine x_istore_n (lv' := [(1, iV x1), (0, iV a1)]) hC dX12_sizeOf_3 rfl rfl (by decide) rfl ha1 hF (fun x2 hx2 hF => ?_)
  refine x_sub [1, 0] rfl ?_
  exact WL_X12_sizeOf_4 hC 100000  x1 (rg_01 hx1) x2 hx2 m hm hF
set_option maxRecDepth 20000 in
set_option maxHeartbeats 4000000 in
theorem T_X12_areMouths (b : Bs) (o : Mm) (m : Mm) (a1 : Int) (ha1 : inR a1) {r : Int} {m' : Mm} (h : F_X12_areMouths a1 m = some (r, m')) : Cn yX12_areMouths cX12_areMouths 2 (some .boolean) (1) 0 0 3 b (false, o) m [.ref (b.1 + 54), iV a1] (F_X12_areMouths a1 m) := by
  refine Cn_of rfl (Nat.le_of_ble_eq_true rfl) (fun g hC hm => ?_)
  have hF := okR_some h
  generalize hQ : (fun (r : Int) (m' : Mm) => F_X12_areMouths a1 m = some (r, m')) = Q at hF ⊢
  clear hQ h
  replace hC : Cok g b RX12 cX12_areMouths 2 1 (some .boolean) := hC
  refine x_lv (lv' := [(0, .ref (b.1 + 54)), (1, iV a1)]) rfl ?_
  unfold F_X12_areMouths at hF
  refine x_iload_n hC dX12_areMouths_0 rfl 1 rfl ?_
  refine x_i2l hC dX12_areMouths_1 rfl ha1 ?_
  refine x_lconst (x := 1) hC dX12_areMouths_2 rfl rfl ?_
  refine x_iconst hC dX12_areMouths_3 rfl ?_
  refine x_aload_n hC dX12_areMouths_4 rfl 0 rfl ?_
  refine x_getI hC dX12_areMouths_5 rfl flX12_144 rfl (by decide) rfl rfl ?_
  refine x_ishl hC dX12_areMouths_8 rfl ?_
  refine x_iconst hC dX12_areMouths_9 rfl ?_
  refine x_isub hC dX12_areMouths_10 rfl ?_
  refine x_i2l hC dX12_areMouths_11 rfl (rg_wr _) ?_
  refine x_callS3 (kc2 := 0) (ks2 := 0) (As := [lV a1, lV 1, lV (wr ((ishl 1 (m 54 2)) - 1))]) (rest := []) hC dX12_areMouths_12 rfl hm (fun _ _ h => T_X12_lies b _ m a1 (rg_RL ha1) 1 (rgcL 1 rfl) (wr ((ishl 1 (m 54 2)) - 1)) (rg_RL (rg_wr _)) h) mlX12_147 vsX12_lies rfl rfl (Nat.le_of_ble_eq_true rfl) (by decide) (by decide) rfl rfl hF (fun r1 m2 hr1 hm2 hF => ?_)
  exact x_zreturn hC dX12_areMouths_15 hm2 hr1 hF
set_option maxRecDepth 20000 in
set_option maxHeartbeats 4000000 in
theorem WJ_X12_soonest_56 {g : Gx} {b : Bs} {o : Mm} {Q : Int → Mm → Prop} {k_24 : Int → Int → Int → Int → Mm → Rs} (hC : Cok g b RX12 cX12_soonest 5 6 (some .int)) (hk_24 : ∀ v1 : Int, inR v1 → ∀ v2 : Int, inR v2 → ∀ v3 : Int, inR v3 → ∀ v4 : Int, inR v4 → ∀ m : Mm, Rg m → okR (k_24 v1 v2 v3 v4 m) Q → X g b (false, o) 5 (ZM g b (false, o) 1 Q) 24 [(0, .ref (b.1 + 54)), (1, iV v1), (2, iV v2), (3, iV v3), (4, iV v4)] [] m 0 0) (v1 : Int) (hv1 : inR v1) (v2 : Int) (hv2 : inR v2) (v3 : Int) (hv3 : inR v3) (v4 : Int) (hv4 : inR v4) (m : Mm) (hm : Rg m) (hF : okR (J_X12_soonest_56 k_24 v1 v2 v3 v4 m) Q) : X g b (false, o) 5 (ZM g b (false, o) 1 Q) 56 [(0, .ref (b.1 + 54)), (1, iV v1), (2, iV v2), (3, iV v3), (4, iV v4)] [] m 0 0 := by
  unfold J_X12_soonest_56 at hF
  refine x_iinc (p := 4) (lv' := [(0, .ref (b.1 + 54)), (1, iV v1), (2, iV v2), (3, iV v3)]) hC dX12_soonest_56 rfl rfl (by decide) rfl hF (fun x1 hx1 hF => ?_)
  refine x_goto (tgt := 24) hC dX12_soonest_59 rfl ?_
  refine x_sub [1, 2, 3, 4, 0] rfl ?_
  exact hk_24 v1 hv1 v2 hv2 v3 hv3 x1 hx1 m hm hF
set_option maxRecDepth 20000 in
set_option maxHeartbeats 4000000 in
theorem WJ_X12_soonest_103 {g : Gx} {b : Bs} {o : Mm} {Q : Int → Mm → Prop} (hC : Cok g b RX12 cX12_soonest 5 6 (some .int)) (v1 : Int) (hv1 : inR v1) (v2 : Int) (hv2 : inR v2) (m : Mm) (hm : Rg m) (hF : okR (J_X12_soonest_103 v1 v2 m) Q) : X g b (false, o) 5 (ZM g b (false, o) 1 Q) 103 [(0, .ref (b.1 + 54)), (1, iV v1), (2, iV v2)] [] m 0 0 := by
  unfold J_X12_soonest_103 at hF
  refine x_aload_n hC dX12_soonest_103 rfl 0 rfl ?_
  refine x_iload_n hC dX12_soonest_104 rfl 1 rfl ?_
  refine x_callV0 (kc2 := 0) (ks2 := 0) (k := 54) (As := [iV v1]) (rest := []) hC dX12_soonest_105 rfl hm (fun _ _ h => T_X12_laysCrowd b _ m v1 hv1 h) mlX12_463 vlX12_laysCrowd rfl (by decide) rfl rfl (Nat.le_of_ble_eq_true rfl) (by decide) (by decide) rfl rfl hF (fun r1 m2 hr1 hm2 hF => ?_)
  refine x_aload_n hC dX12_soonest_108 rfl 0 rfl ?_
  refine x_callV0 (kc2 := 0) (ks2 := 0) (k := 54) (As := []) (rest := []) hC dX12_soonest_109 rfl hm2 (fun _ _ h => T_X12_laysSoon b _ m2  h) mlX12_466 vlX12_laysSoon rfl (by decide) rfl rfl (Nat.le_of_ble_eq_true rfl) (by decide) (by decide) rfl rfl hF (fun r3 m4 hr3 hm4 hF => ?_)
  refine x_aload_n hC dX12_soonest_112 rfl 0 rfl ?_
  refine x_getR (t := 86) hC dX12_soonest_113 rfl flX12_117 rfl (by decide) rfl rfl ?_
  refine x_iconst hC dX12_soonest_116 rfl ?_
  refine x_iconst hC dX12_soonest_117 rfl ?_
  refine x_bipush hC dX12_soonest_118 rfl rfl ?_
  refine x_callS1 (kc2 := 0) (ks2 := 0) (As := [iV 0, iV 4, iV 21]) (rest := [.ref (b.1 + 86)]) hC dX12_soonest_120 rfl hm4 (fun _ _ h => T_X12_soonPlace b _ m4 0 (rgc 0 rfl) 4 (rgc 4 rfl) 21 (rgc 21 rfl) h) mlX12_438 vsX12_soonPlace rfl rfl (Nat.le_of_ble_eq_true rfl) (by decide) (by decide) rfl rfl hF (fun r5 m6 hr5 hm6 hF => ?_)
  refine x_iald hC dX12_soonest_123 rfl rfl (by decide) rfl hm6 hr5 hF (fun x7 hx7 hF => ?_)
  refine x_istore (lv' := [(0, .ref (b.1 + 54)), (1, iV v1), (2, iV v2)]) hC dX12_soonest_124 rfl (by decide) rfl hx7 hF (fun x8 hx8 hF => ?_)
  refine x_iload hC dX12_soonest_126 rfl 0 rfl ?_
  refine x_ldc_w (x := 1000000000) hC dX12_soonest_128 rfl kwX12_430 ?_
  refine x_icmp_ne (tgt := 137) hC dX12_soonest_131 rfl rfl hx8 (rgc 1000000000 rfl) hF (fun hq9 hF => ?_) (fun hq9 hF => ?_)
  · refine x_iload_n hC dX12_soonest_137 rfl 3 rfl ?_
    refine x_iconst hC dX12_soonest_138 rfl ?_
    refine x_icmp_ne (tgt := 145) hC dX12_soonest_139 rfl rfl hv2 (rgc (-1) rfl) hF (fun hq10 hF => ?_) (fun hq10 hF => ?_)
    · refine x_aload_n hC dX12_soonest_145 rfl 1 rfl ?_
      refine x_callV0 (kc2 := 0) (ks2 := 0) (k := 54) (As := []) (rest := []) hC dX12_soonest_146 rfl hm6 (fun _ _ h => T_X12_findsWho b _ m6  h) mlX12_469 vlX12_findsWho rfl (by decide) rfl rfl (Nat.le_of_ble_eq_true rfl) (by decide) (by decide) rfl rfl hF (fun r11 m12 hr11 hm12 hF => ?_)
      refine x_aload_n hC dX12_soonest_149 rfl 1 rfl ?_
      refine x_callV0 (kc2 := 0) (ks2 := 0) (k := 54) (As := []) (rest := []) hC dX12_soonest_150 rfl hm12 (fun _ _ h => T_X12_findsGaps b _ m12  h) mlX12_472 vlX12_findsGaps rfl (by decide) rfl rfl (Nat.le_of_ble_eq_true rfl) (by decide) (by decide) rfl rfl hF (fun r13 m14 hr13 hm14 hF => ?_)
      refine x_iload_n hC dX12_soonest_153 rfl 3 rfl ?_
      refine x_sipush hC dX12_soonest_154 rfl rfl ?_
      refine x_icmp_ge (tgt := 177) hC dX12_soonest_157 rfl rfl hv2 (rgc 200 rfl) hF (fun hq15 hF => ?_) (fun hq15 hF => ?_)
      · refine x_aload_n hC dX12_soonest_177 rfl 1 rfl ?_
        refine x_getR (t := 88) hC dX12_soonest_178 rfl flX12_123 rfl (by decide) rfl rfl ?_
        refine x_iload_n hC dX12_soonest_181 rfl 3 rfl ?_
        refine x_sipush hC dX12_soonest_182 rfl rfl ?_
        refine x_isub hC dX12_soonest_185 rfl ?_
        refine x_iald hC dX12_soonest_186 rfl rfl (by decide) rfl hm14 (rg_wr _) hF (fun x16 hx16 hF => ?_)
        refine x_callS1 (kc2 := 0) (ks2 := 0) (As := [iV x16]) (rest := []) hC dX12_soonest_187 rfl hm14 (fun _ _ h => T_X12_gapOf b _ m14 x16 hx16 h) mlX12_418 vsX12_gapOf rfl rfl (Nat.le_of_ble_eq_true rfl) (by decide) (by decide) rfl rfl hF (fun r17 m18 hr17 hm18 hF => ?_)
        exact x_ireturn hC dX12_soonest_190 hm18 hr17 hF
      · refine x_aload_n hC dX12_soonest_160 rfl 1 rfl ?_
        refine x_getR (t := 84) hC dX12_soonest_161 rfl flX12_110 rfl (by decide) rfl rfl ?_
        refine x_aload_n hC dX12_soonest_164 rfl 1 rfl ?_
        refine x_getR (t := 87) hC dX12_soonest_165 rfl flX12_120 rfl (by decide) rfl rfl ?_
        refine x_iload_n hC dX12_soonest_168 rfl 3 rfl ?_
        refine x_bipush hC dX12_soonest_169 rfl rfl ?_
        refine x_isub hC dX12_soonest_171 rfl ?_
        refine x_iald hC dX12_soonest_172 rfl rfl (by decide) rfl hm14 (rg_wr _) hF (fun x19 hx19 hF => ?_)
        refine x_iald hC dX12_soonest_173 rfl rfl (by decide) rfl hm14 hx19 hF (fun x20 hx20 hF => ?_)
        refine x_goto (tgt := 190) hC dX12_soonest_174 rfl ?_
        exact x_ireturn hC dX12_soonest_190 hm14 hx20 hF
    · refine x_iload hC dX12_soonest_142 rfl 0 rfl ?_
      exact x_ireturn hC dX12_soonest_144 hm6 hx8 hF
  · refine x_bipush hC dX12_soonest_134 rfl rfl ?_
    exact x_ireturn hC dX12_soonest_136 hm6 (rgc (-2) rfl) hF
set_option maxRecDepth 20000 in
set_option maxHeartbeats 4000000 in
theorem WL_X12_soonest_24 {g : Gx} {b : Bs} {o : Mm} {Q : Int → Mm → Prop} (hC : Cok g b RX12 cX12_soonest 5 6 (some .int)) : ∀ n : Nat, ∀ v1 : Int, inR v1 → ∀ v2 : Int, inR v2 → ∀ v3 : Int, inR v3 → ∀ v4 : Int, inR v4 → ∀ m : Mm, Rg m → okR (L_X12_soonest_24 n v1 v2 v3 v4 m) Q → X g b (false, o) 5 (ZM g b (false, o) 1 Q) 24 [(0, .ref (b.1 + 54)), (1, iV v1), (2, iV v2), (3, iV v3), (4, iV v4)] [] m 0 0 := by
  intro n
  induction n with
  | zero => intro v1 hv1 v2 hv2 v3 hv3 v4 hv4 m hm hF; exact absurd hF (fun z => z)
  | succ n ih =>
    intro v1 hv1 v2 hv2 v3 hv3 v4 hv4 m hm hF
    have hF : okR (LB_X12_soonest_24 (L_X12_soonest_24 n) v1 v2 v3 v4 m) Q := hF
    unfold LB_X12_soonest_24 at hF
    refine x_iload hC dX12_soonest_24 rfl 4 rfl ?_
    refine x_aload_n hC dX12_soonest_26 rfl 0 rfl ?_
    refine x_getI hC dX12_soonest_27 rfl flX12_144 rfl (by decide) rfl rfl ?_
    refine x_icmp_ge (tgt := 62) hC dX12_soonest_30 rfl rfl hv4 (hm.i 54 2 rfl) hF (fun hq1 hF => ?_) (fun hq1 hF => ?_)
    · refine x_iload_n hC dX12_soonest_62 rfl 2 rfl ?_
      refine x_iconst hC dX12_soonest_63 rfl ?_
      refine x_icmp_eq (tgt := 103) hC dX12_soonest_64 rfl rfl hv2 (rgc (-1) rfl) hF (fun hq2 hF => ?_) (fun hq2 hF => ?_)
      · refine x_sub [0, 1, 2] rfl ?_
        exact WJ_X12_soonest_103 hC  v1 hv1 v2 hv2 m hm hF
      · refine x_iload_n hC dX12_soonest_67 rfl 2 rfl ?_
        refine x_i2l hC dX12_soonest_68 rfl hv2 ?_
        refine x_ldc2 (x := 100) hC dX12_soonest_69 rfl kwX12_159 ?_
        refine x_bipush hC dX12_soonest_72 rfl rfl ?_
        refine x_iload_n hC dX12_soonest_74 rfl 3 rfl ?_
        refine x_iadd hC dX12_soonest_75 rfl ?_
        refine x_i2l hC dX12_soonest_76 rfl (rg_wr _) ?_
        refine x_callS3 (kc2 := 0) (ks2 := 0) (As := [lV v2, lV 100, lV (wr (99 + v3))]) (rest := []) hC dX12_soonest_77 rfl hm (fun _ _ h => T_X12_lies b _ m v2 (rg_RL hv2) 100 (rgcL 100 rfl) (wr (99 + v3)) (rg_RL (rg_wr _)) h) mlX12_147 vsX12_lies rfl rfl (Nat.le_of_ble_eq_true rfl) (by decide) (by decide) rfl rfl hF (fun r3 m4 hr3 hm4 hF => ?_)
        refine x_if_ne (tgt := 103) hC dX12_soonest_80 rfl rfl (rg_01 hr3) hF (fun hq5 hF => ?_) (fun hq5 hF => ?_)
        · refine x_sub [0, 1, 2] rfl ?_
          exact WJ_X12_soonest_103 hC  v1 hv1 v2 hv2 m4 hm4 hF
        · refine x_iload_n hC dX12_soonest_83 rfl 2 rfl ?_
          refine x_i2l hC dX12_soonest_84 rfl hv2 ?_
          refine x_ldc2 (x := 200) hC dX12_soonest_85 rfl kwX12_157 ?_
          refine x_sipush hC dX12_soonest_88 rfl rfl ?_
          refine x_iload_n hC dX12_soonest_91 rfl 3 rfl ?_
          refine x_iadd hC dX12_soonest_92 rfl ?_
          refine x_i2l hC dX12_soonest_93 rfl (rg_wr _) ?_
          refine x_callS3 (kc2 := 0) (ks2 := 0) (As := [lV v2, lV 200, lV (wr (199 + v3))]) (rest := []) hC dX12_soonest_94 rfl hm4 (fun _ _ h => T_X12_lies b _ m4 v2 (rg_RL hv2) 200 (rgcL 200 rfl) (wr (199 + v3)) (rg_RL (rg_wr _)) h) mlX12_147 vsX12_lies rfl rfl (Nat.le_of_ble_eq_true rfl) (by decide) (by decide) rfl rfl hF (fun r6 m7 hr6 hm7 hF => ?_)
          refine x_if_ne (tgt := 103) hC dX12_soonest_97 rfl rfl (rg_01 hr6) hF (fun hq8 hF => ?_) (fun hq8 hF => ?_)
          · refine x_sub [0, 1, 2] rfl ?_
            exact WJ_X12_soonest_103 hC  v1 hv1 v2 hv2 m7 hm7 hF
          · refine x_bipush hC dX12_soonest_100 rfl rfl ?_
            exact x_ireturn hC dX12_soonest_102 hm7 (rgc (-3) rfl) hF
    · refine x_iload_n hC dX12_soonest_33 rfl 3 rfl ?_
      refine x_iload_n hC dX12_soonest_34 rfl 1 rfl ?_
      refine x_iload hC dX12_soonest_35 rfl 4 rfl ?_
      refine x_callS3 (kc2 := 0) (ks2 := 0) (As := [iV v1, iV v4]) (rest := [iV v3]) hC dX12_soonest_37 rfl hm (fun _ _ h => T_X12_has b _ m v1 hv1 v4 hv4 h) mlX12_411 vsX12_has rfl rfl (Nat.le_of_ble_eq_true rfl) (by decide) (by decide) rfl rfl hF (fun r9 m10 hr9 hm10 hF => ?_)
      refine x_if_eq (tgt := 53) hC dX12_soonest_40 rfl rfl (rg_01 hr9) hF (fun hq11 hF => ?_) (fun hq11 hF => ?_)
      · refine x_iconst hC dX12_soonest_53 rfl ?_
        refine x_iadd hC dX12_soonest_54 rfl ?_
        refine x_istore_n (lv' := [(0, .ref (b.1 + 54)), (1, iV v1), (2, iV v2), (4, iV v4)]) hC dX12_soonest_55 rfl rfl (by decide) rfl (rg_wr _) hF (fun x12 hx12 hF => ?_)
        refine x_sub [1, 2, 3, 0, 4] rfl ?_
        exact WJ_X12_soonest_56 hC ih  v1 hv1 v2 hv2 x12 hx12 v4 hv4 m10 hm10 hF
      · refine x_aload_n hC dX12_soonest_43 rfl 0 rfl ?_
        refine x_getR (t := 59) hC dX12_soonest_44 rfl flX12_33 rfl (by decide) rfl rfl ?_
        refine x_iload hC dX12_soonest_47 rfl 4 rfl ?_
        refine x_iald hC dX12_soonest_49 rfl rfl (by decide) rfl hm10 hv4 hF (fun x13 hx13 hF => ?_)
        refine x_goto (tgt := 54) hC dX12_soonest_50 rfl ?_
        refine x_iadd hC dX12_soonest_54 rfl ?_
        refine x_istore_n (lv' := [(0, .ref (b.1 + 54)), (1, iV v1), (2, iV v2), (4, iV v4)]) hC dX12_soonest_55 rfl rfl (by decide) rfl (rg_wr _) hF (fun x14 hx14 hF => ?_)
        refine x_sub [1, 2, 3, 0, 4] rfl ?_
        exact WJ_X12_soonest_56 hC ih  v1 hv1 v2 hv2 x14 hx14 v4 hv4 m10 hm10 hF
set_option maxRecDepth 20000 in
set_option maxHeartbeats 4000000 in
theorem T_X12_soonest (b : Bs) (o : Mm) (m : Mm) (a1 : Int) (ha1 : inR a1) (a2 : Int) (ha2 : inR a2) {r : Int} {m' : Mm} (h : F_X12_soonest a1 a2 m = some (r, m')) : Cn yX12_soonest cX12_soonest 5 (some .int) (6) 0 0 1 b (false, o) m [.ref (b.1 + 54), iV a1, iV a2] (F_X12_soonest a1 a2 m) := by
  refine Cn_of rfl (Nat.le_of_ble_eq_true rfl) (fun g hC hm => ?_)
  have hF := okR_some h
  generalize hQ : (fun (r : Int) (m' : Mm) => F_X12_soonest a1 a2 m = some (r, m')) = Q at hF ⊢
  clear hQ h
  replace hC : Cok g b RX12 cX12_soonest 5 6 (some .int) := hC
  refine x_lv (lv' := [(0, .ref (b.1 + 54)), (1, iV a1), (2, iV a2)]) rfl ?_
  unfold F_X12_soonest at hF
  refine x_aload_n hC dX12_soonest_0 rfl 0 rfl ?_
  refine x_iload_n hC dX12_soonest_1 rfl 1 rfl ?_
  refine x_callV3 (kc2 := 0) (ks2 := 0) (k := 54) (As := [iV a1]) (rest := []) hC dX12_soonest_2 rfl hm (fun _ _ h => T_X12_areMouths b _ m a1 ha1 h) mlX12_457 vlX12_areMouths rfl (by decide) rfl rfl (Nat.le_of_ble_eq_true rfl) (by decide) (by decide) rfl rfl hF (fun r1 m2 hr1 hm2 hF => ?_)
  refine x_if_eq (tgt := 16) hC dX12_soonest_5 rfl rfl (rg_01 hr1) hF (fun hq3 hF => ?_) (fun hq3 hF => ?_)
  · refine x_bipush hC dX12_soonest_16 rfl rfl ?_
    exact x_ireturn hC dX12_soonest_18 hm2 (rgc (-3) rfl) hF
  · refine x_iload_n hC dX12_soonest_8 rfl 1 rfl ?_
    refine x_callS1 (kc2 := 0) (ks2 := 0) (As := [iV a1]) (rest := []) hC dX12_soonest_9 rfl hm2 (fun _ _ h => T_X12_sizeOf b _ m2 a1 ha1 h) mlX12_460 vsX12_sizeOf rfl rfl (Nat.le_of_ble_eq_true rfl) (by decide) (by decide) rfl rfl hF (fun r4 m5 hr4 hm5 hF => ?_)
    refine x_iconst hC dX12_soonest_12 rfl ?_
    refine x_icmp_le (tgt := 19) hC dX12_soonest_13 rfl rfl hr4 (rgc 4 rfl) hF (fun hq6 hF => ?_) (fun hq6 hF => ?_)
    · refine x_iconst hC dX12_soonest_19 rfl ?_
      refine x_istore_nZ (lv' := [(0, .ref (b.1 + 54)), (1, iV a1), (2, iV a2)]) hC dX12_soonest_20 rfl rfl (by decide) rfl (Or.inl rfl) hF (fun x7 hx7 hF => ?_)
      refine x_iconst hC dX12_soonest_21 rfl ?_
      refine x_istoreZ (lv' := [(3, iV x7), (0, .ref (b.1 + 54)), (1, iV a1), (2, iV a2)]) hC dX12_soonest_22 rfl (by decide) rfl (Or.inl rfl) hF (fun x8 hx8 hF => ?_)
      refine x_sub [2, 3, 4, 1, 0] rfl ?_
      exact WL_X12_soonest_24 hC 100000  a1 ha1 a2 ha2 x7 (rg_01 hx7) x8 (rg_01 hx8) m5 hm5 hF
    · refine x_bipush hC dX12_soonest_16 rfl rfl ?_
      exact x_ireturn hC dX12_soonest_18 hm5 (rgc (-3) rfl) hF
set_option maxRecDepth 20000 in
set_option maxHeartbeats 4000000 in
theorem T_X12_nextOf (b : Bs) (o : Mm) (m : Mm) (a1 : Int) (ha1 : inR a1) {r : Int} {m' : Mm} (h : F_X12_nextOf a1 m = some (r, m')) : Cn yX12_nextOf cX12_nextOf 2 (some .int) (0) 0 0 1 b (false, o) m [.ref (b.1 + 54), iV a1] (F_X12_nextOf a1 m) := by
  refine Cn_of rfl (Nat.le_of_ble_eq_true rfl) (fun g hC hm => ?_)
  have hF := okR_some h
  generalize hQ : (fun (r : Int) (m' : Mm) => F_X12_nextOf a1 m = some (r, m')) = Q at hF ⊢
  clear hQ h
  replace hC : Cok g b RX12 cX12_nextOf 2 0 (some .int) := hC
  refine x_lv (lv' := [(0, .ref (b.1 + 54)), (1, iV a1)]) rfl ?_
  unfold F_X12_nextOf at hF
  refine x_aload_n hC dX12_nextOf_0 rfl 0 rfl ?_
  refine x_getR (t := 90) hC dX12_nextOf_1 rfl flX12_129 rfl (by decide) rfl rfl ?_
  refine x_iload_n hC dX12_nextOf_4 rfl 1 rfl ?_
  refine x_iald hC dX12_nextOf_5 rfl rfl (by decide) rfl hm ha1 hF (fun x1 hx1 hF => ?_)
  refine x_aload_n hC dX12_nextOf_6 rfl 0 rfl ?_
  refine x_getR (t := 59) hC dX12_nextOf_7 rfl flX12_33 rfl (by decide) rfl rfl ?_
  refine x_iload_n hC dX12_nextOf_10 rfl 1 rfl ?_
  refine x_iald hC dX12_nextOf_11 rfl rfl (by decide) rfl hm ha1 hF (fun x2 hx2 hF => ?_)
  refine x_icmp_ge (tgt := 33) hC dX12_nextOf_12 rfl rfl hx1 hx2 hF (fun hq3 hF => ?_) (fun hq3 hF => ?_)
  · refine x_iconst hC dX12_nextOf_33 rfl ?_
    exact x_ireturn hC dX12_nextOf_34 hm (rgc 0 rfl) hF
  · refine x_aload_n hC dX12_nextOf_15 rfl 0 rfl ?_
    refine x_getR (t := 60) hC dX12_nextOf_16 rfl flX12_36 rfl (by decide) rfl rfl ?_
    refine x_iconst hC dX12_nextOf_19 rfl ?_
    refine x_iload_n hC dX12_nextOf_20 rfl 1 rfl ?_
    refine x_imul hC dX12_nextOf_21 rfl ?_
    refine x_aload_n hC dX12_nextOf_22 rfl 0 rfl ?_
    refine x_getR (t := 90) hC dX12_nextOf_23 rfl flX12_129 rfl (by decide) rfl rfl ?_
    refine x_iload_n hC dX12_nextOf_26 rfl 1 rfl ?_
    refine x_iald hC dX12_nextOf_27 rfl rfl (by decide) rfl hm ha1 hF (fun x4 hx4 hF => ?_)
    refine x_iadd hC dX12_nextOf_28 rfl ?_
    refine x_iald hC dX12_nextOf_29 rfl rfl (by decide) rfl hm (rg_wr _) hF (fun x5 hx5 hF => ?_)
    refine x_goto (tgt := 34) hC dX12_nextOf_30 rfl ?_
    exact x_ireturn hC dX12_nextOf_34 hm hx5 hF
set_option maxRecDepth 20000 in
set_option maxHeartbeats 4000000 in
theorem WJ_X12_wish_74 {g : Gx} {b : Bs} {o : Mm} {Q : Int → Mm → Prop} (hC : Cok g b RX12 cX12_wish 6 5 (some .int)) (m : Mm) (hm : Rg m) (hF : okR (J_X12_wish_74  m) Q) : X g b (false, o) 6 (ZM g b (false, o) 1 Q) 74 [(0, .ref (b.1 + 54))] [] m 0 0 := by
  unfold J_X12_wish_74 at hF
  refine x_aload_n hC dX12_wish_74 rfl 0 rfl ?_
  refine x_bipush hC dX12_wish_75 rfl rfl ?_
  refine x_sipush hC dX12_wish_77 rfl rfl ?_
  refine x_callV1 (kc2 := 0) (ks2 := 0) (k := 54) (As := [iV 114, iV 1000]) (rest := []) hC dX12_wish_80 rfl hm (fun _ _ h => T_X12_tells b _ m 114 (rgc 114 rfl) 1000 (rgc 1000 rfl) h) mlX12_318 vlX12_tells rfl (by decide) rfl rfl (Nat.le_of_ble_eq_true rfl) (by decide) (by decide) rfl rfl hF (fun r1 m2 hr1 hm2 hF => ?_)
  exact x_ireturn hC dX12_wish_83 hm2 hr1 hF
set_option maxRecDepth 20000 in
set_option maxHeartbeats 4000000 in
theorem T_X12_wish (b : Bs) (o : Mm) (m : Mm) (a1 : Int) (ha1 : inR a1) (a2 : Int) (ha2 : inR a2) (a3 : Int) (ha3 : inR a3) (a4 : Int) (ha4 : inR a4) {r : Int} {m' : Mm} (h : F_X12_wish a1 a2 a3 a4 m = some (r, m')) : Cn yX12_wish cX12_wish 6 (some .int) (5) 0 0 1 b (false, o) m [.ref (b.1 + 54), iV a1, iV a2, iV a3, iV a4] (F_X12_wish a1 a2 a3 a4 m) := by
  refine Cn_of rfl (Nat.le_of_ble_eq_true rfl) (fun g hC hm => ?_)
  have hF := okR_some h
  generalize hQ : (fun (r : Int) (m' : Mm) => F_X12_wish a1 a2 a3 a4 m = some (r, m')) = Q at hF ⊢
  clear hQ h
  replace hC : Cok g b RX12 cX12_wish 6 5 (some .int) := hC
  refine x_lv (lv' := [(0, .ref (b.1 + 54)), (1, iV a1), (2, iV a2), (3, iV a3), (4, iV a4)]) rfl ?_
  unfold F_X12_wish at hF
  refine x_aload_n hC dX12_wish_0 rfl 0 rfl ?_
  refine x_getR (t := 90) hC dX12_wish_1 rfl flX12_129 rfl (by decide) rfl rfl ?_
  refine x_iload_n hC dX12_wish_4 rfl 1 rfl ?_
  refine x_iald hC dX12_wish_5 rfl rfl (by decide) rfl hm ha1 hF (fun x1 hx1 hF => ?_)
  refine x_aload_n hC dX12_wish_6 rfl 0 rfl ?_
  refine x_getR (t := 59) hC dX12_wish_7 rfl flX12_33 rfl (by decide) rfl rfl ?_
  refine x_iload_n hC dX12_wish_10 rfl 1 rfl ?_
  refine x_iald hC dX12_wish_11 rfl rfl (by decide) rfl hm ha1 hF (fun x2 hx2 hF => ?_)
  refine x_icmp_ne (tgt := 17) hC dX12_wish_12 rfl rfl hx1 hx2 hF (fun hq3 hF => ?_) (fun hq3 hF => ?_)
  · refine x_aload_n hC dX12_wish_17 rfl 0 rfl ?_
    refine x_iload_n hC dX12_wish_18 rfl 1 rfl ?_
    refine x_iload_n hC dX12_wish_19 rfl 2 rfl ?_
    refine x_iload_n hC dX12_wish_20 rfl 1 rfl ?_
    refine x_iload_n hC dX12_wish_21 rfl 3 rfl ?_
    refine x_iload hC dX12_wish_22 rfl 4 rfl ?_
    refine x_iconst hC dX12_wish_24 rfl ?_
    refine x_callV1 (kc2 := 0) (ks2 := 0) (k := 54) (As := [iV a1, iV a2, iV a1, iV a3, iV a4, iV 0]) (rest := []) hC dX12_wish_25 rfl hm (fun _ _ h => T_X12_means b _ m a1 ha1 a2 ha2 a1 ha1 a3 ha3 a4 ha4 0 (rgc 0 rfl) h) mlX12_360 vlX12_means rfl (by decide) rfl rfl (Nat.le_of_ble_eq_true rfl) (by decide) (by decide) rfl rfl hF (fun r4 m5 hr4 hm5 hF => ?_)
    refine x_istore (lv' := [(0, .ref (b.1 + 54)), (1, iV a1), (2, iV a2), (3, iV a3), (4, iV a4)]) hC dX12_wish_28 rfl (by decide) rfl hr4 hF (fun x6 hx6 hF => ?_)
    refine x_aload_n hC dX12_wish_30 rfl 1 rfl ?_
    refine x_aload_n hC dX12_wish_31 rfl 1 rfl ?_
    refine x_getR (t := 59) hC dX12_wish_32 rfl flX12_33 rfl (by decide) rfl rfl ?_
    refine x_iload_n hC dX12_wish_35 rfl 2 rfl ?_
    refine x_iald hC dX12_wish_36 rfl rfl (by decide) rfl hm5 ha1 hF (fun x7 hx7 hF => ?_)
    refine x_aload_n hC dX12_wish_37 rfl 1 rfl ?_
    refine x_getR (t := 90) hC dX12_wish_38 rfl flX12_129 rfl (by decide) rfl rfl ?_
    refine x_iload_n hC dX12_wish_41 rfl 2 rfl ?_
    refine x_iald hC dX12_wish_42 rfl rfl (by decide) rfl hm5 ha1 hF (fun x8 hx8 hF => ?_)
    refine x_isub hC dX12_wish_43 rfl ?_
    refine x_putI hC dX12_wish_44 rfl fpX12_295 rfl (by decide) (by decide) rfl rfl hm5 (rg_wr _) rfl hF (fun m9 hm9 hF => ?_)
    refine x_aload_n hC dX12_wish_47 rfl 1 rfl ?_
    refine x_aload_n hC dX12_wish_48 rfl 1 rfl ?_
    refine x_iload_n hC dX12_wish_49 rfl 2 rfl ?_
    refine x_callV1 (kc2 := 0) (ks2 := 0) (k := 54) (As := [iV a1]) (rest := [.ref (b.1 + 54)]) hC dX12_wish_50 rfl hm9 (fun _ _ h => T_X12_nextOf b _ m9 a1 ha1 h) mlX12_475 vlX12_nextOf rfl (by decide) rfl rfl (Nat.le_of_ble_eq_true rfl) (by decide) (by decide) rfl rfl hF (fun r10 m11 hr10 hm11 hF => ?_)
    refine x_putI hC dX12_wish_53 rfl fpX12_298 rfl (by decide) (by decide) rfl rfl hm11 hr10 rfl hF (fun m12 hm12 hF => ?_)
    refine x_aload_n hC dX12_wish_56 rfl 1 rfl ?_
    refine x_iload hC dX12_wish_57 rfl 0 rfl ?_
    refine x_aload_n hC dX12_wish_59 rfl 1 rfl ?_
    refine x_getI hC dX12_wish_60 rfl flX12_298 rfl (by decide) rfl rfl ?_
    refine x_icmp_ne (tgt := 70) hC dX12_wish_63 rfl rfl hx6 (hm12.i 54 44 rfl) hF (fun hq13 hF => ?_) (fun hq13 hF => ?_)
    · refine x_iconst hC dX12_wish_70 rfl ?_
      refine x_putI hC dX12_wish_71 rfl fpX12_301 rfl (by decide) (by decide) rfl rfl hm12 (rgc 0 rfl) rfl hF (fun m14 hm14 hF => ?_)
      refine x_sub [1] rfl ?_
      exact WJ_X12_wish_74 hC   m14 hm14 hF
    · refine x_iconst hC dX12_wish_66 rfl ?_
      refine x_goto (tgt := 71) hC dX12_wish_67 rfl ?_
      refine x_putI hC dX12_wish_71 rfl fpX12_301 rfl (by decide) (by decide) rfl rfl hm12 (rgc 1 rfl) rfl hF (fun m15 hm15 hF => ?_)
      refine x_sub [1] rfl ?_
      exact WJ_X12_wish_74 hC   m15 hm15 hF
  · refine x_iconst hC dX12_wish_15 rfl ?_
    exact x_ireturn hC dX12_wish_16 hm (rgc 0 rfl) hF
set_option maxRecDepth 20000 in
set_option maxHeartbeats 4000000 in
theorem WJ_X12_byRules_80 {g : Gx} {b : Bs} {o : Mm} {Q : Int → Mm → Prop} {k_40 : Int → Int → Int → Int → Int → Mm → Rs} (hC : Cok g b RX12 cX12_byRules 17 6 (some .int)) (hk_40 : ∀ v1 : Int, inR v1 → ∀ v2 : Int, inR v2 → ∀ v3 : Int, inR v3 → ∀ v4 : Int, inR v4 → ∀ v5 : Int, inR v5 → ∀ m : Mm, Rg m → okR (k_40 v1 v2 v3 v4 v5 m) Q → X g b (false, o) 17 (ZM g b (false, o) 1 Q) 40 [(0, .ref (b.1 + 54)), (1, iV v1), (2, iV v2), (3, iV v3), (4, iV v4), (5, iV v5)] [] m 0 0) (v1 : Int) (hv1 : inR v1) (v2 : Int) (hv2 : inR v2) (v3 : Int) (hv3 : inR v3) (v4 : Int) (hv4 : inR v4) (v5 : Int) (hv5 : inR v5) (m : Mm) (hm : Rg m) (hF : okR (J_X12_byRules_80 k_40 v1 v2 v3 v4 v5 m) Q) : X g b (false, o) 17 (ZM g b (false, o) 1 Q) 80 [(0, .ref (b.1 + 54)), (1, iV v1), (2, iV v2), (3, iV v3), (4, iV v4), (5, iV v5)] [] m 0 0 := by
  unfold J_X12_byRules_80 at hF
  refine x_iinc (p := 5) (lv' := [(0, .ref (b.1 + 54)), (1, iV v1), (2, iV v2), (3, iV v3), (4, iV v4)]) hC dX12_byRules_80 rfl rfl (by decide) rfl hF (fun x1 hx1 hF => ?_)
  refine x_goto (tgt := 40) hC dX12_byRules_83 rfl ?_
  refine x_sub [1, 2, 3, 4, 5, 0] rfl ?_
  exact hk_40 v1 hv1 v2 hv2 v3 hv3 v4 hv4 x1 hx1 m hm hF
set_option maxRecDepth 20000 in
set_option maxHeartbeats 4000000 in
theorem WJ_X12_byRules_211 {g : Gx} {b : Bs} {o : Mm} {Q : Int → Mm → Prop} {k_109 : Int → Int → Int → Int → Int → Int → Int → Int → Int → Int → Int → Mm → Rs} {k_157 : Int → Int → Int → Int → Int → Int → Int → Int → Int → Int → Int → Int → Int → Int → Int → Mm → Rs} (hC : Cok g b RX12 cX12_byRules 17 6 (some .int)) (hk_109 : ∀ v1 : Int, inR v1 → ∀ v2 : Int, inR v2 → ∀ v3 : Int, inR v3 → ∀ v4 : Int, inR v4 → ∀ v5 : Int, inR v5 → ∀ v6 : Int, inR v6 → ∀ v7 : Int, inR v7 → ∀ v8 : Int, inR v8 → ∀ v9 : Int, inR v9 → ∀ v10 : Int, inR v10 → ∀ v11 : Int, inR v11 → ∀ m : Mm, Rg m → okR (k_109 v1 v2 v3 v4 v5 v6 v7 v8 v9 v10 v11 m) Q → X g b (false, o) 17 (ZM g b (false, o) 1 Q) 109 [(0, .ref (b.1 + 54)), (1, iV v1), (2, iV v2), (3, iV v3), (4, iV v4), (5, iV v5), (6, iV v6), (7, iV v7), (8, iV v8), (9, iV v9), (10, iV v10), (11, iV v11)] [] m 0 0) (hk_157 : ∀ v1 : Int, inR v1 → ∀ v2 : Int, inR v2 → ∀ v3 : Int, inR v3 → ∀ v4 : Int, inR v4 → ∀ v5 : Int, inR v5 → ∀ v6 : Int, inR v6 → ∀ v7 : Int, inR v7 → ∀ v8 : Int, inR v8 → ∀ v9 : Int, inR v9 → ∀ v10 : Int, inR v10 → ∀ v11 : Int, inR v11 → ∀ v12 : Int, inR v12 → ∀ v13 : Int, inR v13 → ∀ v14 : Int, inR v14 → ∀ v15 : Int, inR v15 → ∀ m : Mm, Rg m → okR (k_157 v1 v2 v3 v4 v5 v6 v7 v8 v9 v10 v11 v12 v13 v14 v15 m) Q → X g b (false, o) 17 (ZM g b (false, o) 1 Q) 157 [(0, .ref (b.1 + 54)), (1, iV v1), (2, iV v2), (3, iV v3), (4, iV v4), (5, iV v5), (6, iV v6), (7, iV v7), (8, iV v8), (9, iV v9), (10, iV v10), (11, iV v11), (12, iV v12), (13, iV v13), (14, iV v14), (15, iV v15)] [] m 0 0) (v1 : Int) (hv1 : inR v1) (v2 : Int) (hv2 : inR v2) (v3 : Int) (hv3 : inR v3) (v4 : Int) (hv4 : inR v4) (v5 : Int) (hv5 : inR v5) (v6 : Int) (hv6 : inR v6) (v7 : Int) (hv7 : inR v7) (v8 : Int) (hv8 : inR v8) (v9 : Int) (hv9 : inR v9) (v10 : Int) (hv10 : inR v10) (v11 : Int) (hv11 : inR v11) (v12 : Int) (hv12 : inR v12) (v13 : Int) (hv13 : inR v13) (v14 : Int) (hv14 : inR v14) (v15 : Int) (hv15 : inR v15) (m : Mm) (hm : Rg m) (hF : okR (J_X12_byRules_211 k_109 k_157 v1 v2 v3 v4 v5 v6 v7 v8 v9 v10 v11 v12 v13 v14 v15 m) Q) : X g b (false, o) 17 (ZM g b (false, o) 1 Q) 211 [(0, .ref (b.1 + 54)), (1, iV v1), (2, iV v2), (3, iV v3), (4, iV v4), (5, iV v5), (6, iV v6), (7, iV v7), (8, iV v8), (9, iV v9), (10, iV v10), (11, iV v11), (12, iV v12), (13, iV v13), (14, iV v14), (15, iV v15)] [] m 0 0 := by
  unfold J_X12_byRules_211 at hF
  refine x_iinc (p := 15) (lv' := [(0, .ref (b.1 + 54)), (1, iV v1), (2, iV v2), (3, iV v3), (4, iV v4), (5, iV v5), (6, iV v6), (7, iV v7), (8, iV v8), (9, iV v9), (10, iV v10), (11, iV v11), (12, iV v12), (13, iV v13), (14, iV v14)]) hC dX12_byRules_211 rfl rfl (by decide) rfl hF (fun x1 hx1 hF => ?_)
  refine x_goto (tgt := 157) hC dX12_byRules_214 rfl ?_
  refine x_sub [1, 2, 3, 4, 5, 6, 7, 8, 9, 10, 11, 12, 13, 14, 15, 0] rfl ?_
  exact hk_157 v1 hv1 v2 hv2 v3 hv3 v4 hv4 v5 hv5 v6 hv6 v7 hv7 v8 hv8 v9 hv9 v10 hv10 v11 hv11 v12 hv12 v13 hv13 v14 hv14 x1 hx1 m hm hF
set_option maxRecDepth 20000 in
set_option maxHeartbeats 4000000 in
theorem WJ_X12_byRules_193 {g : Gx} {b : Bs} {o : Mm} {Q : Int → Mm → Prop} {k_109 : Int → Int → Int → Int → Int → Int → Int → Int → Int → Int → Int → Mm → Rs} {k_157 : Int → Int → Int → Int → Int → Int → Int → Int → Int → Int → Int → Int → Int → Int → Int → Mm → Rs} (hC : Cok g b RX12 cX12_byRules 17 6 (some .int)) (hk_109 : ∀ v1 : Int, inR v1 → ∀ v2 : Int, inR v2 → ∀ v3 : Int, inR v3 → ∀ v4 : Int, inR v4 → ∀ v5 : Int, inR v5 → ∀ v6 : Int, inR v6 → ∀ v7 : Int, inR v7 → ∀ v8 : Int, inR v8 → ∀ v9 : Int, inR v9 → ∀ v10 : Int, inR v10 → ∀ v11 : Int, inR v11 → ∀ m : Mm, Rg m → okR (k_109 v1 v2 v3 v4 v5 v6 v7 v8 v9 v10 v11 m) Q → X g b (false, o) 17 (ZM g b (false, o) 1 Q) 109 [(0, .ref (b.1 + 54)), (1, iV v1), (2, iV v2), (3, iV v3), (4, iV v4), (5, iV v5), (6, iV v6), (7, iV v7), (8, iV v8), (9, iV v9), (10, iV v10), (11, iV v11)] [] m 0 0) (hk_157 : ∀ v1 : Int, inR v1 → ∀ v2 : Int, inR v2 → ∀ v3 : Int, inR v3 → ∀ v4 : Int, inR v4 → ∀ v5 : Int, inR v5 → ∀ v6 : Int, inR v6 → ∀ v7 : Int, inR v7 → ∀ v8 : Int, inR v8 → ∀ v9 : Int, inR v9 → ∀ v10 : Int, inR v10 → ∀ v11 : Int, inR v11 → ∀ v12 : Int, inR v12 → ∀ v13 : Int, inR v13 → ∀ v14 : Int, inR v14 → ∀ v15 : Int, inR v15 → ∀ m : Mm, Rg m → okR (k_157 v1 v2 v3 v4 v5 v6 v7 v8 v9 v10 v11 v12 v13 v14 v15 m) Q → X g b (false, o) 17 (ZM g b (false, o) 1 Q) 157 [(0, .ref (b.1 + 54)), (1, iV v1), (2, iV v2), (3, iV v3), (4, iV v4), (5, iV v5), (6, iV v6), (7, iV v7), (8, iV v8), (9, iV v9), (10, iV v10), (11, iV v11), (12, iV v12), (13, iV v13), (14, iV v14), (15, iV v15)] [] m 0 0) (v1 : Int) (hv1 : inR v1) (v2 : Int) (hv2 : inR v2) (v3 : Int) (hv3 : inR v3) (v4 : Int) (hv4 : inR v4) (v5 : Int) (hv5 : inR v5) (v6 : Int) (hv6 : inR v6) (v7 : Int) (hv7 : inR v7) (v8 : Int) (hv8 : inR v8) (v9 : Int) (hv9 : inR v9) (v10 : Int) (hv10 : inR v10) (v11 : Int) (hv11 : inR v11) (v12 : Int) (hv12 : inR v12) (v13 : Int) (hv13 : inR v13) (v14 : Int) (hv14 : inR v14) (v15 : Int) (hv15 : inR v15) (v16 : Int) (hv16 : inR v16) (m : Mm) (hm : Rg m) (hF : okR (J_X12_byRules_193 k_109 k_157 v1 v2 v3 v4 v5 v6 v7 v8 v9 v10 v11 v12 v13 v14 v15 v16 m) Q) : X g b (false, o) 17 (ZM g b (false, o) 1 Q) 193 [(0, .ref (b.1 + 54)), (1, iV v1), (2, iV v2), (3, iV v3), (4, iV v4), (5, iV v5), (6, iV v6), (7, iV v7), (8, iV v8), (9, iV v9), (10, iV v10), (11, iV v11), (12, iV v12), (13, iV v13), (14, iV v14), (15, iV v15), (16, iV v16)] [] m 0 0 := by
  unfold J_X12_byRules_193 at hF
  refine x_iload hC dX12_byRules_193 rfl 16 rfl ?_
  refine x_iload hC dX12_byRules_195 rfl 14 rfl ?_
  refine x_icmp_gt (tgt := 203) hC dX12_byRules_197 rfl rfl hv16 hv14 hF (fun hq1 hF => ?_) (fun hq1 hF => ?_)
  · refine x_iload hC dX12_byRules_203 rfl 15 rfl ?_
    refine x_istore (lv' := [(0, .ref (b.1 + 54)), (1, iV v1), (2, iV v2), (3, iV v3), (4, iV v4), (5, iV v5), (6, iV v6), (7, iV v7), (8, iV v8), (9, iV v9), (10, iV v10), (11, iV v11), (12, iV v12), (14, iV v14), (15, iV v15), (16, iV v16)]) hC dX12_byRules_205 rfl (by decide) rfl hv15 hF (fun x2 hx2 hF => ?_)
    refine x_iload hC dX12_byRules_207 rfl 16 rfl ?_
    refine x_istore (lv' := [(13, iV x2), (0, .ref (b.1 + 54)), (1, iV v1), (2, iV v2), (3, iV v3), (4, iV v4), (5, iV v5), (6, iV v6), (7, iV v7), (8, iV v8), (9, iV v9), (10, iV v10), (11, iV v11), (12, iV v12), (15, iV v15), (16, iV v16)]) hC dX12_byRules_209 rfl (by decide) rfl hv16 hF (fun x3 hx3 hF => ?_)
    refine x_sub [2, 3, 4, 5, 6, 7, 8, 9, 10, 11, 12, 13, 14, 1, 0, 15] rfl ?_
    exact WJ_X12_byRules_211 hC hk_109 hk_157  v1 hv1 v2 hv2 v3 hv3 v4 hv4 v5 hv5 v6 hv6 v7 hv7 v8 hv8 v9 hv9 v10 hv10 v11 hv11 v12 hv12 x2 hx2 x3 hx3 v15 hv15 m hm hF
  · refine x_goto (tgt := 211) hC dX12_byRules_200 rfl ?_
    refine x_sub [0, 1, 2, 3, 4, 5, 6, 7, 8, 9, 10, 11, 12, 13, 14, 15] rfl ?_
    exact WJ_X12_byRules_211 hC hk_109 hk_157  v1 hv1 v2 hv2 v3 hv3 v4 hv4 v5 hv5 v6 hv6 v7 hv7 v8 hv8 v9 hv9 v10 hv10 v11 hv11 v12 hv12 v13 hv13 v14 hv14 v15 hv15 m hm hF
set_option maxRecDepth 20000 in
set_option maxHeartbeats 4000000 in
theorem WJ_X12_byRules_286 {g : Gx} {b : Bs} {o : Mm} {Q : Int → Mm → Prop} {k_109 : Int → Int → Int → Int → Int → Int → Int → Int → Int → Int → Int → Mm → Rs} (hC : Cok g b RX12 cX12_byRules 17 6 (some .int)) (hk_109 : ∀ v1 : Int, inR v1 → ∀ v2 : Int, inR v2 → ∀ v3 : Int, inR v3 → ∀ v4 : Int, inR v4 → ∀ v5 : Int, inR v5 → ∀ v6 : Int, inR v6 → ∀ v7 : Int, inR v7 → ∀ v8 : Int, inR v8 → ∀ v9 : Int, inR v9 → ∀ v10 : Int, inR v10 → ∀ v11 : Int, inR v11 → ∀ m : Mm, Rg m → okR (k_109 v1 v2 v3 v4 v5 v6 v7 v8 v9 v10 v11 m) Q → X g b (false, o) 17 (ZM g b (false, o) 1 Q) 109 [(0, .ref (b.1 + 54)), (1, iV v1), (2, iV v2), (3, iV v3), (4, iV v4), (5, iV v5), (6, iV v6), (7, iV v7), (8, iV v8), (9, iV v9), (10, iV v10), (11, iV v11)] [] m 0 0) (v1 : Int) (hv1 : inR v1) (v2 : Int) (hv2 : inR v2) (v3 : Int) (hv3 : inR v3) (v4 : Int) (hv4 : inR v4) (v5 : Int) (hv5 : inR v5) (v6 : Int) (hv6 : inR v6) (v7 : Int) (hv7 : inR v7) (v8 : Int) (hv8 : inR v8) (v9 : Int) (hv9 : inR v9) (v10 : Int) (hv10 : inR v10) (v11 : Int) (hv11 : inR v11) (m : Mm) (hm : Rg m) (hF : okR (J_X12_byRules_286 k_109 v1 v2 v3 v4 v5 v6 v7 v8 v9 v10 v11 m) Q) : X g b (false, o) 17 (ZM g b (false, o) 1 Q) 286 [(0, .ref (b.1 + 54)), (1, iV v1), (2, iV v2), (3, iV v3), (4, iV v4), (5, iV v5), (6, iV v6), (7, iV v7), (8, iV v8), (9, iV v9), (10, iV v10), (11, iV v11)] [] m 0 0 := by
  unfold J_X12_byRules_286 at hF
  refine x_iinc (p := 11) (lv' := [(0, .ref (b.1 + 54)), (1, iV v1), (2, iV v2), (3, iV v3), (4, iV v4), (5, iV v5), (6, iV v6), (7, iV v7), (8, iV v8), (9, iV v9), (10, iV v10)]) hC dX12_byRules_286 rfl rfl (by decide) rfl hF (fun x1 hx1 hF => ?_)
  refine x_goto (tgt := 109) hC dX12_byRules_289 rfl ?_
  refine x_sub [1, 2, 3, 4, 5, 6, 7, 8, 9, 10, 11, 0] rfl ?_
  exact hk_109 v1 hv1 v2 hv2 v3 hv3 v4 hv4 v5 hv5 v6 hv6 v7 hv7 v8 hv8 v9 hv9 v10 hv10 x1 hx1 m hm hF
set_option maxRecDepth 20000 in
set_option maxHeartbeats 4000000 in
theorem WJ_X12_byRules_271 {g : Gx} {b : Bs} {o : Mm} {Q : Int → Mm → Prop} {k_109 : Int → Int → Int → Int → Int → Int → Int → Int → Int → Int → Int → Mm → Rs} (hC : Cok g b RX12 cX12_byRules 17 6 (some .int)) (hk_109 : ∀ v1 : Int, inR v1 → ∀ v2 : Int, inR v2 → ∀ v3 : Int, inR v3 → ∀ v4 : Int, inR v4 → ∀ v5 : Int, inR v5 → ∀ v6 : Int, inR v6 → ∀ v7 : Int, inR v7 → ∀ v8 : Int, inR v8 → ∀ v9 : Int, inR v9 → ∀ v10 : Int, inR v10 → ∀ v11 : Int, inR v11 → ∀ m : Mm, Rg m → okR (k_109 v1 v2 v3 v4 v5 v6 v7 v8 v9 v10 v11 m) Q → X g b (false, o) 17 (ZM g b (false, o) 1 Q) 109 [(0, .ref (b.1 + 54)), (1, iV v1), (2, iV v2), (3, iV v3), (4, iV v4), (5, iV v5), (6, iV v6), (7, iV v7), (8, iV v8), (9, iV v9), (10, iV v10), (11, iV v11)] [] m 0 0) (v1 : Int) (hv1 : inR v1) (v2 : Int) (hv2 : inR v2) (v3 : Int) (hv3 : inR v3) (v4 : Int) (hv4 : inR v4) (v8 : Int) (hv8 : inR v8) (v9 : Int) (hv9 : inR v9) (v10 : Int) (hv10 : inR v10) (v11 : Int) (hv11 : inR v11) (v12 : Int) (hv12 : inR v12) (v13 : Int) (hv13 : inR v13) (m : Mm) (hm : Rg m) (hF : okR (J_X12_byRules_271 k_109 v1 v2 v3 v4 v8 v9 v10 v11 v12 v13 m) Q) : X g b (false, o) 17 (ZM g b (false, o) 1 Q) 271 [(0, .ref (b.1 + 54)), (1, iV v1), (2, iV v2), (3, iV v3), (4, iV v4), (8, iV v8), (9, iV v9), (10, iV v10), (11, iV v11), (12, iV v12), (13, iV v13)] [] m 0 0 := by
  unfold J_X12_byRules_271 at hF
  refine x_iinc (p := 6) (lv' := [(0, .ref (b.1 + 54)), (1, iV v1), (2, iV v2), (3, iV v3), (4, iV v4), (8, iV v8), (10, iV v10), (11, iV v11), (12, iV v12), (13, iV v13)]) hC dX12_byRules_271 rfl rfl (by decide) rfl hF (fun x1 hx1 hF => ?_)
  refine x_iload hC dX12_byRules_274 rfl 10 rfl ?_
  refine x_istore (lv' := [(9, iV x1), (0, .ref (b.1 + 54)), (1, iV v1), (2, iV v2), (3, iV v3), (4, iV v4), (8, iV v8), (10, iV v10), (11, iV v11), (12, iV v12), (13, iV v13)]) hC dX12_byRules_276 rfl (by decide) rfl hv13 hF (fun x2 hx2 hF => ?_)
  refine x_iload hC dX12_byRules_278 rfl 10 rfl ?_
  refine x_istore (lv' := [(5, iV x2), (9, iV x1), (0, .ref (b.1 + 54)), (1, iV v1), (2, iV v2), (3, iV v3), (4, iV v4), (8, iV v8), (10, iV v10), (11, iV v11), (12, iV v12), (13, iV v13)]) hC dX12_byRules_280 rfl (by decide) rfl hv12 hF (fun x3 hx3 hF => ?_)
  refine x_iload hC dX12_byRules_282 rfl 10 rfl ?_
  refine x_istore (lv' := [(6, iV x3), (5, iV x2), (9, iV x1), (0, .ref (b.1 + 54)), (1, iV v1), (2, iV v2), (3, iV v3), (4, iV v4), (8, iV v8), (10, iV v10), (11, iV v11), (12, iV v12), (13, iV v13)]) hC dX12_byRules_284 rfl (by decide) rfl hv11 hF (fun x4 hx4 hF => ?_)
  refine x_sub [4, 5, 6, 7, 8, 2, 1, 0, 9, 3, 10, 11] rfl ?_
  exact WJ_X12_byRules_286 hC hk_109  v1 hv1 v2 hv2 v3 hv3 v4 hv4 x2 hx2 x3 hx3 x4 hx4 v8 hv8 x1 hx1 v10 hv10 v11 hv11 m hm hF
set_option maxRecDepth 20000 in
set_option maxHeartbeats 4000000 in
theorem WL_X12_byRules_157 {g : Gx} {b : Bs} {o : Mm} {Q : Int → Mm → Prop} {k_109 : Int → Int → Int → Int → Int → Int → Int → Int → Int → Int → Int → Mm → Rs} (hC : Cok g b RX12 cX12_byRules 17 6 (some .int)) (hk_109 : ∀ v1 : Int, inR v1 → ∀ v2 : Int, inR v2 → ∀ v3 : Int, inR v3 → ∀ v4 : Int, inR v4 → ∀ v5 : Int, inR v5 → ∀ v6 : Int, inR v6 → ∀ v7 : Int, inR v7 → ∀ v8 : Int, inR v8 → ∀ v9 : Int, inR v9 → ∀ v10 : Int, inR v10 → ∀ v11 : Int, inR v11 → ∀ m : Mm, Rg m → okR (k_109 v1 v2 v3 v4 v5 v6 v7 v8 v9 v10 v11 m) Q → X g b (false, o) 17 (ZM g b (false, o) 1 Q) 109 [(0, .ref (b.1 + 54)), (1, iV v1), (2, iV v2), (3, iV v3), (4, iV v4), (5, iV v5), (6, iV v6), (7, iV v7), (8, iV v8), (9, iV v9), (10, iV v10), (11, iV v11)] [] m 0 0) : ∀ n : Nat, ∀ v1 : Int, inR v1 → ∀ v2 : Int, inR v2 → ∀ v3 : Int, inR v3 → ∀ v4 : Int, inR v4 → ∀ v5 : Int, inR v5 → ∀ v6 : Int, inR v6 → ∀ v7 : Int, inR v7 → ∀ v8 : Int, inR v8 → ∀ v9 : Int, inR v9 → ∀ v10 : Int, inR v10 → ∀ v11 : Int, inR v11 → ∀ v12 : Int, inR v12 → ∀ v13 : Int, inR v13 → ∀ v14 : Int, inR v14 → ∀ v15 : Int, inR v15 → ∀ m : Mm, Rg m → okR (L_X12_byRules_157 k_109 n v1 v2 v3 v4 v5 v6 v7 v8 v9 v10 v11 v12 v13 v14 v15 m) Q → X g b (false, o) 17 (ZM g b (false, o) 1 Q) 157 [(0, .ref (b.1 + 54)), (1, iV v1), (2, iV v2), (3, iV v3), (4, iV v4), (5, iV v5), (6, iV v6), (7, iV v7), (8, iV v8), (9, iV v9), (10, iV v10), (11, iV v11), (12, iV v12), (13, iV v13), (14, iV v14), (15, iV v15)] [] m 0 0 := by
  intro n
  induction n with
  | zero => intro v1 hv1 v2 hv2 v3 hv3 v4 hv4 v5 hv5 v6 hv6 v7 hv7 v8 hv8 v9 hv9 v10 hv10 v11 hv11 v12 hv12 v13 hv13 v14 hv14 v15 hv15 m hm hF; exact absurd hF (fun z => z)
  | succ n ih =>
    intro v1 hv1 v2 hv2 v3 hv3 v4 hv4 v5 hv5 v6 hv6 v7 hv7 v8 hv8 v9 hv9 v10 hv10 v11 hv11 v12 hv12 v13 hv13 v14 hv14 v15 hv15 m hm hF
    have hF : okR (LB_X12_byRules_157 k_109 (L_X12_byRules_157 k_109 n) v1 v2 v3 v4 v5 v6 v7 v8 v9 v10 v11 v12 v13 v14 v15 m) Q := hF
    unfold LB_X12_byRules_157 at hF
    refine x_iload hC dX12_byRules_157 rfl 15 rfl ?_
    refine x_aload_n hC dX12_byRules_159 rfl 0 rfl ?_
    refine x_getI hC dX12_byRules_160 rfl flX12_144 rfl (by decide) rfl rfl ?_
    refine x_icmp_ge (tgt := 217) hC dX12_byRules_163 rfl rfl hv15 (hm.i 54 2 rfl) hF (fun hq1 hF => ?_) (fun hq1 hF => ?_)
    · refine x_iload hC dX12_byRules_217 rfl 13 rfl ?_
      refine x_iconst hC dX12_byRules_219 rfl ?_
      refine x_icmp_ne (tgt := 226) hC dX12_byRules_220 rfl rfl hv13 (rgc (-1) rfl) hF (fun hq2 hF => ?_) (fun hq2 hF => ?_)
      · refine x_aload_n hC dX12_byRules_226 rfl 0 rfl ?_
        refine x_iload hC dX12_byRules_227 rfl 13 rfl ?_
        refine x_iload hC dX12_byRules_229 rfl 12 rfl ?_
        refine x_iload hC dX12_byRules_231 rfl 13 rfl ?_
        refine x_iload hC dX12_byRules_233 rfl 5 rfl ?_
        refine x_iload hC dX12_byRules_235 rfl 6 rfl ?_
        refine x_iconst hC dX12_byRules_237 rfl ?_
        refine x_callV1 (kc2 := 0) (ks2 := 0) (k := 54) (As := [iV v13, iV v12, iV v13, iV v5, iV v6, iV 0]) (rest := []) hC dX12_byRules_238 rfl hm (fun _ _ h => T_X12_means b _ m v13 hv13 v12 hv12 v13 hv13 v5 hv5 v6 hv6 0 (rgc 0 rfl) h) mlX12_360 vlX12_means rfl (by decide) rfl rfl (Nat.le_of_ble_eq_true rfl) (by decide) (by decide) rfl rfl hF (fun r3 m4 hr3 hm4 hF => ?_)
        refine x_aload_n hC dX12_byRules_241 rfl 0 rfl ?_
        refine x_iload hC dX12_byRules_242 rfl 13 rfl ?_
        refine x_callV1 (kc2 := 0) (ks2 := 0) (k := 54) (As := [iV v13]) (rest := [iV r3]) hC dX12_byRules_244 rfl hm4 (fun _ _ h => T_X12_nextOf b _ m4 v13 hv13 h) mlX12_475 vlX12_nextOf rfl (by decide) rfl rfl (Nat.le_of_ble_eq_true rfl) (by decide) (by decide) rfl rfl hF (fun r5 m6 hr5 hm6 hF => ?_)
        refine x_icmp_ne (tgt := 271) hC dX12_byRules_247 rfl rfl hr3 hr5 hF (fun hq7 hF => ?_) (fun hq7 hF => ?_)
        · refine x_sub [0, 1, 2, 3, 4, 8, 9, 10, 11, 12, 13] rfl ?_
          exact WJ_X12_byRules_271 hC hk_109  v1 hv1 v2 hv2 v3 hv3 v4 hv4 v8 hv8 v9 hv9 v10 hv10 v11 hv11 v12 hv12 v13 hv13 m6 hm6 hF
        · refine x_aload_n hC dX12_byRules_250 rfl 0 rfl ?_
          refine x_getR (t := 90) hC dX12_byRules_251 rfl flX12_129 rfl (by decide) rfl rfl ?_
          refine x_iload hC dX12_byRules_254 rfl 13 rfl ?_
          refine x_dup2 hC dX12_byRules_256 rfl rfl rfl ?_
          refine x_iald hC dX12_byRules_257 rfl rfl (by decide) rfl hm6 hv13 hF (fun x8 hx8 hF => ?_)
          refine x_iconst hC dX12_byRules_258 rfl ?_
          refine x_iadd hC dX12_byRules_259 rfl ?_
          refine x_iast hC dX12_byRules_260 rfl rfl (by decide) rfl hm6 hv13 (rg_wr _) hF (fun m9 hm9 hF => ?_)
          refine x_iinc (p := 8) (lv' := [(0, .ref (b.1 + 54)), (1, iV v1), (2, iV v2), (3, iV v3), (4, iV v4), (5, iV v5), (6, iV v6), (7, iV v7), (9, iV v9), (10, iV v10), (11, iV v11), (12, iV v12), (13, iV v13), (14, iV v14), (15, iV v15)]) hC dX12_byRules_261 rfl rfl (by decide) rfl hF (fun x10 hx10 hF => ?_)
          refine x_iinc (p := 5) (lv' := [(8, iV x10), (0, .ref (b.1 + 54)), (1, iV v1), (2, iV v2), (3, iV v3), (5, iV v5), (6, iV v6), (7, iV v7), (9, iV v9), (10, iV v10), (11, iV v11), (12, iV v12), (13, iV v13), (14, iV v14), (15, iV v15)]) hC dX12_byRules_264 rfl rfl (by decide) rfl hF (fun x11 hx11 hF => ?_)
          refine x_iload hC dX12_byRules_267 rfl 11 rfl ?_
          refine x_istore (lv' := [(4, iV x11), (8, iV x10), (0, .ref (b.1 + 54)), (1, iV v1), (2, iV v2), (3, iV v3), (5, iV v5), (6, iV v6), (7, iV v7), (9, iV v9), (11, iV v11), (12, iV v12), (13, iV v13), (14, iV v14), (15, iV v15)]) hC dX12_byRules_269 rfl (by decide) rfl hv11 hF (fun x12 hx12 hF => ?_)
          refine x_sub [3, 4, 5, 6, 1, 2, 10, 0, 11, 12, 13] rfl ?_
          exact WJ_X12_byRules_271 hC hk_109  v1 hv1 v2 hv2 v3 hv3 x11 hx11 x10 hx10 v9 hv9 x12 hx12 v11 hv11 v12 hv12 v13 hv13 m9 hm9 hF
      · refine x_goto (tgt := 286) hC dX12_byRules_223 rfl ?_
        refine x_sub [0, 1, 2, 3, 4, 5, 6, 7, 8, 9, 10, 11] rfl ?_
        exact WJ_X12_byRules_286 hC hk_109  v1 hv1 v2 hv2 v3 hv3 v4 hv4 v5 hv5 v6 hv6 v7 hv7 v8 hv8 v9 hv9 v10 hv10 v11 hv11 m hm hF
    · refine x_iload_n hC dX12_byRules_166 rfl 1 rfl ?_
      refine x_iload hC dX12_byRules_167 rfl 15 rfl ?_
      refine x_callS3 (kc2 := 0) (ks2 := 0) (As := [iV v1, iV v15]) (rest := []) hC dX12_byRules_169 rfl hm (fun _ _ h => T_X12_has b _ m v1 hv1 v15 hv15 h) mlX12_411 vsX12_has rfl rfl (Nat.le_of_ble_eq_true rfl) (by decide) (by decide) rfl rfl hF (fun r13 m14 hr13 hm14 hF => ?_)
      refine x_if_eq (tgt := 190) hC dX12_byRules_172 rfl rfl (rg_01 hr13) hF (fun hq15 hF => ?_) (fun hq15 hF => ?_)
      · refine x_iconst hC dX12_byRules_190 rfl ?_
        refine x_istoreZ (lv' := [(0, .ref (b.1 + 54)), (1, iV v1), (2, iV v2), (3, iV v3), (4, iV v4), (5, iV v5), (6, iV v6), (7, iV v7), (8, iV v8), (9, iV v9), (10, iV v10), (11, iV v11), (12, iV v12), (13, iV v13), (14, iV v14), (15, iV v15)]) hC dX12_byRules_191 rfl (by decide) rfl (Or.inl rfl) hF (fun x16 hx16 hF => ?_)
        refine x_sub [1, 2, 3, 4, 5, 6, 7, 8, 9, 10, 11, 12, 13, 14, 15, 16, 0] rfl ?_
        exact WJ_X12_byRules_193 hC hk_109 ih  v1 hv1 v2 hv2 v3 hv3 v4 hv4 v5 hv5 v6 hv6 v7 hv7 v8 hv8 v9 hv9 v10 hv10 v11 hv11 v12 hv12 v13 hv13 v14 hv14 v15 hv15 x16 (rg_01 hx16) m14 hm14 hF
      · refine x_aload_n hC dX12_byRules_175 rfl 0 rfl ?_
        refine x_iload hC dX12_byRules_176 rfl 15 rfl ?_
        refine x_iload hC dX12_byRules_178 rfl 12 rfl ?_
        refine x_iload hC dX12_byRules_180 rfl 5 rfl ?_
        refine x_iload hC dX12_byRules_182 rfl 6 rfl ?_
        refine x_callV1 (kc2 := 0) (ks2 := 0) (k := 54) (As := [iV v15, iV v12, iV v5, iV v6]) (rest := []) hC dX12_byRules_184 rfl hm14 (fun _ _ h => T_X12_wish b _ m14 v15 hv15 v12 hv12 v5 hv5 v6 hv6 h) mlX12_480 vlX12_wish rfl (by decide) rfl rfl (Nat.le_of_ble_eq_true rfl) (by decide) (by decide) rfl rfl hF (fun r17 m18 hr17 hm18 hF => ?_)
        refine x_goto (tgt := 191) hC dX12_byRules_187 rfl ?_
        refine x_istore (lv' := [(0, .ref (b.1 + 54)), (1, iV v1), (2, iV v2), (3, iV v3), (4, iV v4), (5, iV v5), (6, iV v6), (7, iV v7), (8, iV v8), (9, iV v9), (10, iV v10), (11, iV v11), (12, iV v12), (13, iV v13), (14, iV v14), (15, iV v15)]) hC dX12_byRules_191 rfl (by decide) rfl hr17 hF (fun x19 hx19 hF => ?_)
        refine x_sub [1, 2, 3, 4, 5, 6, 7, 8, 9, 10, 11, 12, 13, 14, 15, 16, 0] rfl ?_
        exact WJ_X12_byRules_193 hC hk_109 ih  v1 hv1 v2 hv2 v3 hv3 v4 hv4 v5 hv5 v6 hv6 v7 hv7 v8 hv8 v9 hv9 v10 hv10 v11 hv11 v12 hv12 v13 hv13 v14 hv14 v15 hv15 x19 hx19 m18 hm18 hF
set_option maxRecDepth 20000 in
set_option maxHeartbeats 4000000 in
theorem WJ_X12_byRules_148 {g : Gx} {b : Bs} {o : Mm} {Q : Int → Mm → Prop} {k_109 : Int → Int → Int → Int → Int → Int → Int → Int → Int → Int → Int → Mm → Rs} (hC : Cok g b RX12 cX12_byRules 17 6 (some .int)) (hk_109 : ∀ v1 : Int, inR v1 → ∀ v2 : Int, inR v2 → ∀ v3 : Int, inR v3 → ∀ v4 : Int, inR v4 → ∀ v5 : Int, inR v5 → ∀ v6 : Int, inR v6 → ∀ v7 : Int, inR v7 → ∀ v8 : Int, inR v8 → ∀ v9 : Int, inR v9 → ∀ v10 : Int, inR v10 → ∀ v11 : Int, inR v11 → ∀ m : Mm, Rg m → okR (k_109 v1 v2 v3 v4 v5 v6 v7 v8 v9 v10 v11 m) Q → X g b (false, o) 17 (ZM g b (false, o) 1 Q) 109 [(0, .ref (b.1 + 54)), (1, iV v1), (2, iV v2), (3, iV v3), (4, iV v4), (5, iV v5), (6, iV v6), (7, iV v7), (8, iV v8), (9, iV v9), (10, iV v10), (11, iV v11)] [] m 0 0) (v1 : Int) (hv1 : inR v1) (v2 : Int) (hv2 : inR v2) (v3 : Int) (hv3 : inR v3) (v4 : Int) (hv4 : inR v4) (v5 : Int) (hv5 : inR v5) (v6 : Int) (hv6 : inR v6) (v7 : Int) (hv7 : inR v7) (v8 : Int) (hv8 : inR v8) (v9 : Int) (hv9 : inR v9) (v10 : Int) (hv10 : inR v10) (v11 : Int) (hv11 : inR v11) (v12 : Int) (hv12 : inR v12) (m : Mm) (hm : Rg m) (hF : okR (J_X12_byRules_148 k_109 v1 v2 v3 v4 v5 v6 v7 v8 v9 v10 v11 v12 m) Q) : X g b (false, o) 17 (ZM g b (false, o) 1 Q) 148 [(0, .ref (b.1 + 54)), (1, iV v1), (2, iV v2), (3, iV v3), (4, iV v4), (5, iV v5), (6, iV v6), (7, iV v7), (8, iV v8), (9, iV v9), (10, iV v10), (11, iV v11), (12, iV v12)] [] m 0 0 := by
  unfold J_X12_byRules_148 at hF
  refine x_iconst hC dX12_byRules_148 rfl ?_
  refine x_istore (lv' := [(0, .ref (b.1 + 54)), (1, iV v1), (2, iV v2), (3, iV v3), (4, iV v4), (5, iV v5), (6, iV v6), (7, iV v7), (8, iV v8), (9, iV v9), (10, iV v10), (11, iV v11), (12, iV v12)]) hC dX12_byRules_149 rfl (by decide) rfl (rgc (-1) rfl) hF (fun x1 hx1 hF => ?_)
  refine x_iconst hC dX12_byRules_151 rfl ?_
  refine x_istoreZ (lv' := [(13, iV x1), (0, .ref (b.1 + 54)), (1, iV v1), (2, iV v2), (3, iV v3), (4, iV v4), (5, iV v5), (6, iV v6), (7, iV v7), (8, iV v8), (9, iV v9), (10, iV v10), (11, iV v11), (12, iV v12)]) hC dX12_byRules_152 rfl (by decide) rfl (Or.inl rfl) hF (fun x2 hx2 hF => ?_)
  refine x_iconst hC dX12_byRules_154 rfl ?_
  refine x_istoreZ (lv' := [(14, iV x2), (13, iV x1), (0, .ref (b.1 + 54)), (1, iV v1), (2, iV v2), (3, iV v3), (4, iV v4), (5, iV v5), (6, iV v6), (7, iV v7), (8, iV v8), (9, iV v9), (10, iV v10), (11, iV v11), (12, iV v12)]) hC dX12_byRules_155 rfl (by decide) rfl (Or.inl rfl) hF (fun x3 hx3 hF => ?_)
  refine x_sub [3, 4, 5, 6, 7, 8, 9, 10, 11, 12, 13, 14, 15, 2, 1, 0] rfl ?_
  exact WL_X12_byRules_157 hC hk_109 100000  v1 hv1 v2 hv2 v3 hv3 v4 hv4 v5 hv5 v6 hv6 v7 hv7 v8 hv8 v9 hv9 v10 hv10 v11 hv11 v12 hv12 x1 hx1 x2 (rg_01 hx2) x3 (rg_01 hx3) m hm hF
set_option maxRecDepth 20000 in
set_option maxHeartbeats 4000000 in
theorem WJ_X12_byRules_136 {g : Gx} {b : Bs} {o : Mm} {Q : Int → Mm → Prop} {k_109 : Int → Int → Int → Int → Int → Int → Int → Int → Int → Int → Int → Mm → Rs} (hC : Cok g b RX12 cX12_byRules 17 6 (some .int)) (hk_109 : ∀ v1 : Int, inR v1 → ∀ v2 : Int, inR v2 → ∀ v3 : Int, inR v3 → ∀ v4 : Int, inR v4 → ∀ v5 : Int, inR v5 → ∀ v6 : Int, inR v6 → ∀ v7 : Int, inR v7 → ∀ v8 : Int, inR v8 → ∀ v9 : Int, inR v9 → ∀ v10 : Int, inR v10 → ∀ v11 : Int, inR v11 → ∀ m : Mm, Rg m → okR (k_109 v1 v2 v3 v4 v5 v6 v7 v8 v9 v10 v11 m) Q → X g b (false, o) 17 (ZM g b (false, o) 1 Q) 109 [(0, .ref (b.1 + 54)), (1, iV v1), (2, iV v2), (3, iV v3), (4, iV v4), (5, iV v5), (6, iV v6), (7, iV v7), (8, iV v8), (9, iV v9), (10, iV v10), (11, iV v11)] [] m 0 0) (v1 : Int) (hv1 : inR v1) (v2 : Int) (hv2 : inR v2) (v3 : Int) (hv3 : inR v3) (v4 : Int) (hv4 : inR v4) (v5 : Int) (hv5 : inR v5) (v6 : Int) (hv6 : inR v6) (v7 : Int) (hv7 : inR v7) (v8 : Int) (hv8 : inR v8) (v9 : Int) (hv9 : inR v9) (v10 : Int) (hv10 : inR v10) (v11 : Int) (hv11 : inR v11) (m : Mm) (hm : Rg m) (hF : okR (J_X12_byRules_136 k_109 v1 v2 v3 v4 v5 v6 v7 v8 v9 v10 v11 m) Q) : X g b (false, o) 17 (ZM g b (false, o) 1 Q) 136 [(0, .ref (b.1 + 54)), (1, iV v1), (2, iV v2), (3, iV v3), (4, iV v4), (5, iV v5), (6, iV v6), (7, iV v7), (8, iV v8), (9, iV v9), (10, iV v10), (11, iV v11)] [] m 0 0 := by
  unfold J_X12_byRules_136 at hF
  refine x_bipush hC dX12_byRules_136 rfl rfl ?_
  refine x_goto (tgt := 146) hC dX12_byRules_138 rfl ?_
  refine x_istore (lv' := [(0, .ref (b.1 + 54)), (1, iV v1), (2, iV v2), (3, iV v3), (4, iV v4), (5, iV v5), (6, iV v6), (7, iV v7), (8, iV v8), (9, iV v9), (10, iV v10), (11, iV v11)]) hC dX12_byRules_146 rfl (by decide) rfl (rgc 63 rfl) hF (fun x1 hx1 hF => ?_)
  refine x_sub [1, 2, 3, 4, 5, 6, 7, 8, 9, 10, 11, 12, 0] rfl ?_
  exact WJ_X12_byRules_148 hC hk_109  v1 hv1 v2 hv2 v3 hv3 v4 hv4 v5 hv5 v6 hv6 v7 hv7 v8 hv8 v9 hv9 v10 hv10 v11 hv11 x1 hx1 m hm hF
set_option maxRecDepth 20000 in
set_option maxHeartbeats 4000000 in
theorem WJ_X12_byRules_292 {g : Gx} {b : Bs} {o : Mm} {Q : Int → Mm → Prop} (hC : Cok g b RX12 cX12_byRules 17 6 (some .int)) (v3 : Int) (hv3 : inR v3) (v4 : Int) (hv4 : inR v4) (v8 : Int) (hv8 : inR v8) (v9 : Int) (hv9 : inR v9) (v10 : Int) (hv10 : inR v10) (m : Mm) (hm : Rg m) (hF : okR (J_X12_byRules_292 v3 v4 v8 v9 v10 m) Q) : X g b (false, o) 17 (ZM g b (false, o) 1 Q) 292 [(3, iV v3), (4, iV v4), (8, iV v8), (9, iV v9), (10, iV v10)] [] m 0 0 := by
  unfold J_X12_byRules_292 at hF
  refine x_iload_n hC dX12_byRules_292 rfl 0 rfl ?_
  refine x_if_ne (tgt := 311) hC dX12_byRules_293 rfl rfl hv3 hF (fun hq1 hF => ?_) (fun hq1 hF => ?_)
  · refine x_iload_n hC dX12_byRules_311 rfl 0 rfl ?_
    refine x_iconst hC dX12_byRules_312 rfl ?_
    refine x_icmp_ne (tgt := 321) hC dX12_byRules_313 rfl rfl hv3 (rgc 1 rfl) hF (fun hq2 hF => ?_) (fun hq2 hF => ?_)
    · refine x_iload hC dX12_byRules_321 rfl 3 rfl ?_
      exact x_ireturn hC dX12_byRules_323 hm hv9 hF
    · refine x_iload hC dX12_byRules_316 rfl 2 rfl ?_
      refine x_goto (tgt := 323) hC dX12_byRules_318 rfl ?_
      exact x_ireturn hC dX12_byRules_323 hm hv8 hF
  · refine x_iload hC dX12_byRules_296 rfl 1 rfl ?_
    refine x_if_le (tgt := 306) hC dX12_byRules_298 rfl rfl hv4 hF (fun hq3 hF => ?_) (fun hq3 hF => ?_)
    · refine x_iload hC dX12_byRules_306 rfl 4 rfl ?_
      refine x_goto (tgt := 323) hC dX12_byRules_308 rfl ?_
      exact x_ireturn hC dX12_byRules_323 hm hv10 hF
    · refine x_bipush hC dX12_byRules_301 rfl rfl ?_
      refine x_goto (tgt := 323) hC dX12_byRules_303 rfl ?_
      exact x_ireturn hC dX12_byRules_323 hm (rgc (-2) rfl) hF
set_option maxRecDepth 20000 in
set_option maxHeartbeats 4000000 in
theorem WL_X12_byRules_109 {g : Gx} {b : Bs} {o : Mm} {Q : Int → Mm → Prop} (hC : Cok g b RX12 cX12_byRules 17 6 (some .int)) : ∀ n : Nat, ∀ v1 : Int, inR v1 → ∀ v2 : Int, inR v2 → ∀ v3 : Int, inR v3 → ∀ v4 : Int, inR v4 → ∀ v5 : Int, inR v5 → ∀ v6 : Int, inR v6 → ∀ v7 : Int, inR v7 → ∀ v8 : Int, inR v8 → ∀ v9 : Int, inR v9 → ∀ v10 : Int, inR v10 → ∀ v11 : Int, inR v11 → ∀ m : Mm, Rg m → okR (L_X12_byRules_109 n v1 v2 v3 v4 v5 v6 v7 v8 v9 v10 v11 m) Q → X g b (false, o) 17 (ZM g b (false, o) 1 Q) 109 [(0, .ref (b.1 + 54)), (1, iV v1), (2, iV v2), (3, iV v3), (4, iV v4), (5, iV v5), (6, iV v6), (7, iV v7), (8, iV v8), (9, iV v9), (10, iV v10), (11, iV v11)] [] m 0 0 := by
  intro n
  induction n with
  | zero => intro v1 hv1 v2 hv2 v3 hv3 v4 hv4 v5 hv5 v6 hv6 v7 hv7 v8 hv8 v9 hv9 v10 hv10 v11 hv11 m hm hF; exact absurd hF (fun z => z)
  | succ n ih =>
    intro v1 hv1 v2 hv2 v3 hv3 v4 hv4 v5 hv5 v6 hv6 v7 hv7 v8 hv8 v9 hv9 v10 hv10 v11 hv11 m hm hF
    have hF : okR (LB_X12_byRules_109 (L_X12_byRules_109 n) v1 v2 v3 v4 v5 v6 v7 v8 v9 v10 v11 m) Q := hF
    unfold LB_X12_byRules_109 at hF
    refine x_iload hC dX12_byRules_109 rfl 11 rfl ?_
    refine x_iload_n hC dX12_byRules_111 rfl 2 rfl ?_
    refine x_icmp_ge (tgt := 292) hC dX12_byRules_112 rfl rfl hv11 hv2 hF (fun hq1 hF => ?_) (fun hq1 hF => ?_)
    · refine x_sub [3, 4, 8, 9, 10] rfl ?_
      exact WJ_X12_byRules_292 hC  v3 hv3 v4 hv4 v8 hv8 v9 hv9 v10 hv10 m hm hF
    · refine x_iload hC dX12_byRules_115 rfl 4 rfl ?_
      refine x_if_le (tgt := 292) hC dX12_byRules_117 rfl rfl hv4 hF (fun hq2 hF => ?_) (fun hq2 hF => ?_)
      · refine x_sub [3, 4, 8, 9, 10] rfl ?_
        exact WJ_X12_byRules_292 hC  v3 hv3 v4 hv4 v8 hv8 v9 hv9 v10 hv10 m hm hF
      · refine x_iload hC dX12_byRules_120 rfl 7 rfl ?_
        refine x_iconst hC dX12_byRules_122 rfl ?_
        refine x_icmp_eq (tgt := 136) hC dX12_byRules_123 rfl rfl hv7 (rgc (-1) rfl) hF (fun hq3 hF => ?_) (fun hq3 hF => ?_)
        · exact WJ_X12_byRules_136 hC ih  v1 hv1 v2 hv2 v3 hv3 v4 hv4 v5 hv5 v6 hv6 v7 hv7 v8 hv8 v9 hv9 v10 hv10 v11 hv11 m hm hF
        · refine x_iload hC dX12_byRules_126 rfl 11 rfl ?_
          refine x_iload hC dX12_byRules_128 rfl 7 rfl ?_
          refine x_isub hC dX12_byRules_130 rfl ?_
          refine x_bipush hC dX12_byRules_131 rfl rfl ?_
          refine x_icmp_le (tgt := 141) hC dX12_byRules_133 rfl rfl (rg_wr _) (rgc 63 rfl) hF (fun hq4 hF => ?_) (fun hq4 hF => ?_)
          · refine x_iload hC dX12_byRules_141 rfl 11 rfl ?_
            refine x_iload hC dX12_byRules_143 rfl 7 rfl ?_
            refine x_isub hC dX12_byRules_145 rfl ?_
            refine x_istore (lv' := [(0, .ref (b.1 + 54)), (1, iV v1), (2, iV v2), (3, iV v3), (4, iV v4), (5, iV v5), (6, iV v6), (7, iV v7), (8, iV v8), (9, iV v9), (10, iV v10), (11, iV v11)]) hC dX12_byRules_146 rfl (by decide) rfl (rg_wr _) hF (fun x5 hx5 hF => ?_)
            refine x_sub [1, 2, 3, 4, 5, 6, 7, 8, 9, 10, 11, 12, 0] rfl ?_
            exact WJ_X12_byRules_148 hC ih  v1 hv1 v2 hv2 v3 hv3 v4 hv4 v5 hv5 v6 hv6 v7 hv7 v8 hv8 v9 hv9 v10 hv10 v11 hv11 x5 hx5 m hm hF
          · exact WJ_X12_byRules_136 hC ih  v1 hv1 v2 hv2 v3 hv3 v4 hv4 v5 hv5 v6 hv6 v7 hv7 v8 hv8 v9 hv9 v10 hv10 v11 hv11 m hm hF
set_option maxRecDepth 20000 in
set_option maxHeartbeats 4000000 in
theorem WL_X12_byRules_40 {g : Gx} {b : Bs} {o : Mm} {Q : Int → Mm → Prop} (hC : Cok g b RX12 cX12_byRules 17 6 (some .int)) : ∀ n : Nat, ∀ v1 : Int, inR v1 → ∀ v2 : Int, inR v2 → ∀ v3 : Int, inR v3 → ∀ v4 : Int, inR v4 → ∀ v5 : Int, inR v5 → ∀ m : Mm, Rg m → okR (L_X12_byRules_40 n v1 v2 v3 v4 v5 m) Q → X g b (false, o) 17 (ZM g b (false, o) 1 Q) 40 [(0, .ref (b.1 + 54)), (1, iV v1), (2, iV v2), (3, iV v3), (4, iV v4), (5, iV v5)] [] m 0 0 := by
  intro n
  induction n with
  | zero => intro v1 hv1 v2 hv2 v3 hv3 v4 hv4 v5 hv5 m hm hF; exact absurd hF (fun z => z)
  | succ n ih =>
    intro v1 hv1 v2 hv2 v3 hv3 v4 hv4 v5 hv5 m hm hF
    have hF : okR (LB_X12_byRules_40 (L_X12_byRules_40 n) v1 v2 v3 v4 v5 m) Q := hF
    unfold LB_X12_byRules_40 at hF
    refine x_iload hC dX12_byRules_40 rfl 5 rfl ?_
    refine x_bipush hC dX12_byRules_42 rfl rfl ?_
    refine x_icmp_ge (tgt := 86) hC dX12_byRules_44 rfl rfl hv5 (rgc 8 rfl) hF (fun hq1 hF => ?_) (fun hq1 hF => ?_)
    · refine x_bipush hC dX12_byRules_86 rfl rfl ?_
      refine x_istore (lv' := [(0, .ref (b.1 + 54)), (1, iV v1), (2, iV v2), (3, iV v3), (4, iV v4)]) hC dX12_byRules_88 rfl (by decide) rfl (rgc 8 rfl) hF (fun x2 hx2 hF => ?_)
      refine x_bipush hC dX12_byRules_90 rfl rfl ?_
      refine x_istore (lv' := [(5, iV x2), (0, .ref (b.1 + 54)), (1, iV v1), (2, iV v2), (3, iV v3), (4, iV v4)]) hC dX12_byRules_92 rfl (by decide) rfl (rgc 63 rfl) hF (fun x3 hx3 hF => ?_)
      refine x_iconst hC dX12_byRules_94 rfl ?_
      refine x_istore (lv' := [(6, iV x3), (5, iV x2), (0, .ref (b.1 + 54)), (1, iV v1), (2, iV v2), (3, iV v3), (4, iV v4)]) hC dX12_byRules_95 rfl (by decide) rfl (rgc (-1) rfl) hF (fun x4 hx4 hF => ?_)
      refine x_iconst hC dX12_byRules_97 rfl ?_
      refine x_istoreZ (lv' := [(7, iV x4), (6, iV x3), (5, iV x2), (0, .ref (b.1 + 54)), (1, iV v1), (2, iV v2), (3, iV v3), (4, iV v4)]) hC dX12_byRules_98 rfl (by decide) rfl (Or.inl rfl) hF (fun x5 hx5 hF => ?_)
      refine x_iconst hC dX12_byRules_100 rfl ?_
      refine x_istoreZ (lv' := [(8, iV x5), (7, iV x4), (6, iV x3), (5, iV x2), (0, .ref (b.1 + 54)), (1, iV v1), (2, iV v2), (3, iV v3), (4, iV v4)]) hC dX12_byRules_101 rfl (by decide) rfl (Or.inl rfl) hF (fun x6 hx6 hF => ?_)
      refine x_iconst hC dX12_byRules_103 rfl ?_
      refine x_istoreZ (lv' := [(9, iV x6), (8, iV x5), (7, iV x4), (6, iV x3), (5, iV x2), (0, .ref (b.1 + 54)), (1, iV v1), (2, iV v2), (3, iV v3), (4, iV v4)]) hC dX12_byRules_104 rfl (by decide) rfl (Or.inl rfl) hF (fun x7 hx7 hF => ?_)
      refine x_iconst hC dX12_byRules_106 rfl ?_
      refine x_istoreZ (lv' := [(10, iV x7), (9, iV x6), (8, iV x5), (7, iV x4), (6, iV x3), (5, iV x2), (0, .ref (b.1 + 54)), (1, iV v1), (2, iV v2), (3, iV v3), (4, iV v4)]) hC dX12_byRules_107 rfl (by decide) rfl (Or.inl rfl) hF (fun x8 hx8 hF => ?_)
      refine x_sub [7, 8, 9, 10, 11, 6, 5, 4, 3, 2, 1, 0] rfl ?_
      exact WL_X12_byRules_109 hC 100000  v1 hv1 v2 hv2 v3 hv3 v4 hv4 x2 hx2 x3 hx3 x4 hx4 x5 (rg_01 hx5) x6 (rg_01 hx6) x7 (rg_01 hx7) x8 (rg_01 hx8) m hm hF
    · refine x_aload_n hC dX12_byRules_47 rfl 0 rfl ?_
      refine x_getR (t := 90) hC dX12_byRules_48 rfl flX12_129 rfl (by decide) rfl rfl ?_
      refine x_iload hC dX12_byRules_51 rfl 5 rfl ?_
      refine x_iconst hC dX12_byRules_53 rfl ?_
      refine x_iast hC dX12_byRules_54 rfl rfl (by decide) rfl hm hv5 (rgc 0 rfl) hF (fun m9 hm9 hF => ?_)
      refine x_iload hC dX12_byRules_55 rfl 4 rfl ?_
      refine x_iload_n hC dX12_byRules_57 rfl 1 rfl ?_
      refine x_iload hC dX12_byRules_58 rfl 5 rfl ?_
      refine x_callS3 (kc2 := 0) (ks2 := 0) (As := [iV v1, iV v5]) (rest := [iV v4]) hC dX12_byRules_60 rfl hm9 (fun _ _ h => T_X12_has b _ m9 v1 hv1 v5 hv5 h) mlX12_411 vsX12_has rfl rfl (Nat.le_of_ble_eq_true rfl) (by decide) (by decide) rfl rfl hF (fun r10 m11 hr10 hm11 hF => ?_)
      refine x_if_eq (tgt := 76) hC dX12_byRules_63 rfl rfl (rg_01 hr10) hF (fun hq12 hF => ?_) (fun hq12 hF => ?_)
      · refine x_iconst hC dX12_byRules_76 rfl ?_
        refine x_iadd hC dX12_byRules_77 rfl ?_
        refine x_istore (lv' := [(0, .ref (b.1 + 54)), (1, iV v1), (2, iV v2), (3, iV v3), (5, iV v5)]) hC dX12_byRules_78 rfl (by decide) rfl (rg_wr _) hF (fun x13 hx13 hF => ?_)
        refine x_sub [1, 2, 3, 4, 0, 5] rfl ?_
        exact WJ_X12_byRules_80 hC ih  v1 hv1 v2 hv2 v3 hv3 x13 hx13 v5 hv5 m11 hm11 hF
      · refine x_aload_n hC dX12_byRules_66 rfl 0 rfl ?_
        refine x_getR (t := 59) hC dX12_byRules_67 rfl flX12_33 rfl (by decide) rfl rfl ?_
        refine x_iload hC dX12_byRules_70 rfl 5 rfl ?_
        refine x_iald hC dX12_byRules_72 rfl rfl (by decide) rfl hm11 hv5 hF (fun x14 hx14 hF => ?_)
        refine x_goto (tgt := 77) hC dX12_byRules_73 rfl ?_
        refine x_iadd hC dX12_byRules_77 rfl ?_
        refine x_istore (lv' := [(0, .ref (b.1 + 54)), (1, iV v1), (2, iV v2), (3, iV v3), (5, iV v5)]) hC dX12_byRules_78 rfl (by decide) rfl (rg_wr _) hF (fun x15 hx15 hF => ?_)
        refine x_sub [1, 2, 3, 4, 0, 5] rfl ?_
        exact WJ_X12_byRules_80 hC ih  v1 hv1 v2 hv2 v3 hv3 x15 hx15 v5 hv5 m11 hm11 hF
set_option maxRecDepth 20000 in
set_option maxHeartbeats 4000000 in
theorem T_X12_byRules (b : Bs) (o : Mm) (m : Mm) (a1 : Int) (ha1 : inR a1) (a2 : Int) (ha2 : inR a2) (a3 : Int) (ha3 : inR a3) {r : Int} {m' : Mm} (h : F_X12_byRules a1 a2 a3 m = some (r, m')) : Cn yX12_byRules cX12_byRules 17 (some .int) (6) 0 0 1 b (false, o) m [.ref (b.1 + 54), iV a1, iV a2, iV a3] (F_X12_byRules a1 a2 a3 m) := by
  refine Cn_of rfl (Nat.le_of_ble_eq_true rfl) (fun g hC hm => ?_)
  have hF := okR_some h
  generalize hQ : (fun (r : Int) (m' : Mm) => F_X12_byRules a1 a2 a3 m = some (r, m')) = Q at hF ⊢
  clear hQ h
  replace hC : Cok g b RX12 cX12_byRules 17 6 (some .int) := hC
  refine x_lv (lv' := [(0, .ref (b.1 + 54)), (1, iV a1), (2, iV a2), (3, iV a3)]) rfl ?_
  unfold F_X12_byRules at hF
  refine x_aload_n hC dX12_byRules_0 rfl 0 rfl ?_
  refine x_iload_n hC dX12_byRules_1 rfl 1 rfl ?_
  refine x_callV3 (kc2 := 0) (ks2 := 0) (k := 54) (As := [iV a1]) (rest := []) hC dX12_byRules_2 rfl hm (fun _ _ h => T_X12_areMouths b _ m a1 ha1 h) mlX12_457 vlX12_areMouths rfl (by decide) rfl rfl (Nat.le_of_ble_eq_true rfl) (by decide) (by decide) rfl rfl hF (fun r1 m2 hr1 hm2 hF => ?_)
  refine x_if_eq (tgt := 32) hC dX12_byRules_5 rfl rfl (rg_01 hr1) hF (fun hq3 hF => ?_) (fun hq3 hF => ?_)
  · refine x_iconst hC dX12_byRules_32 rfl ?_
    exact x_ireturn hC dX12_byRules_33 hm2 (rgc (-1) rfl) hF
  · refine x_iload_n hC dX12_byRules_8 rfl 2 rfl ?_
    refine x_i2l hC dX12_byRules_9 rfl ha2 ?_
    refine x_lconst (x := 1) hC dX12_byRules_10 rfl rfl ?_
    refine x_ldc2 (x := 400) hC dX12_byRules_11 rfl kwX12_478 ?_
    refine x_callS3 (kc2 := 0) (ks2 := 0) (As := [lV a2, lV 1, lV 400]) (rest := []) hC dX12_byRules_14 rfl hm2 (fun _ _ h => T_X12_lies b _ m2 a2 (rg_RL ha2) 1 (rgcL 1 rfl) 400 (rgcL 400 rfl) h) mlX12_147 vsX12_lies rfl rfl (Nat.le_of_ble_eq_true rfl) (by decide) (by decide) rfl rfl hF (fun r4 m5 hr4 hm5 hF => ?_)
    refine x_if_eq (tgt := 32) hC dX12_byRules_17 rfl rfl (rg_01 hr4) hF (fun hq6 hF => ?_) (fun hq6 hF => ?_)
    · refine x_iconst hC dX12_byRules_32 rfl ?_
      exact x_ireturn hC dX12_byRules_33 hm5 (rgc (-1) rfl) hF
    · refine x_iload_n hC dX12_byRules_20 rfl 3 rfl ?_
      refine x_i2l hC dX12_byRules_21 rfl ha3 ?_
      refine x_lconst (x := 0) hC dX12_byRules_22 rfl rfl ?_
      refine x_ldc2 (x := 2) hC dX12_byRules_23 rfl kwX12_376 ?_
      refine x_callS3 (kc2 := 0) (ks2 := 0) (As := [lV a3, lV 0, lV 2]) (rest := []) hC dX12_byRules_26 rfl hm5 (fun _ _ h => T_X12_lies b _ m5 a3 (rg_RL ha3) 0 (rgcL 0 rfl) 2 (rgcL 2 rfl) h) mlX12_147 vsX12_lies rfl rfl (Nat.le_of_ble_eq_true rfl) (by decide) (by decide) rfl rfl hF (fun r7 m8 hr7 hm8 hF => ?_)
      refine x_if_ne (tgt := 34) hC dX12_byRules_29 rfl rfl (rg_01 hr7) hF (fun hq9 hF => ?_) (fun hq9 hF => ?_)
      · refine x_iconst hC dX12_byRules_34 rfl ?_
        refine x_istoreZ (lv' := [(0, .ref (b.1 + 54)), (1, iV a1), (2, iV a2), (3, iV a3)]) hC dX12_byRules_35 rfl (by decide) rfl (Or.inl rfl) hF (fun x10 hx10 hF => ?_)
        refine x_iconst hC dX12_byRules_37 rfl ?_
        refine x_istoreZ (lv' := [(4, iV x10), (0, .ref (b.1 + 54)), (1, iV a1), (2, iV a2), (3, iV a3)]) hC dX12_byRules_38 rfl (by decide) rfl (Or.inl rfl) hF (fun x11 hx11 hF => ?_)
        refine x_sub [2, 3, 4, 5, 1, 0] rfl ?_
        exact WL_X12_byRules_40 hC 100000  a1 ha1 a2 ha2 a3 ha3 x10 (rg_01 hx10) x11 (rg_01 hx11) m8 hm8 hF
      · refine x_iconst hC dX12_byRules_32 rfl ?_
        exact x_ireturn hC dX12_byRules_33 hm8 (rgc (-1) rfl) hF
set_option maxRecDepth 20000 in
set_option maxHeartbeats 4000000 in
theorem WJ_X12_table_158 {g : Gx} {b : Bs} {o : Mm} {Q : Int → Mm → Prop} {k_89 : Int → Int → Int → Int → Int → Mm → Rs} {k_101 : Int → Int → Int → Int → Int → Int → Int → Mm → Rs} (hC : Cok g b RX12 cX12_table 8 1 (some .int)) (hk_89 : ∀ v1 : Int, inR v1 → ∀ v2 : Int, inR v2 → ∀ v3 : Int, inR v3 → ∀ v4 : Int, inR v4 → ∀ v5 : Int, inR v5 → ∀ m : Mm, Rg m → okR (k_89 v1 v2 v3 v4 v5 m) Q → X g b (false, o) 8 (ZM g b (false, o) 1 Q) 89 [(0, .ref (b.1 + 54)), (1, iV v1), (2, iV v2), (3, iV v3), (4, iV v4), (5, iV v5)] [] m 0 0) (hk_101 : ∀ v1 : Int, inR v1 → ∀ v2 : Int, inR v2 → ∀ v3 : Int, inR v3 → ∀ v4 : Int, inR v4 → ∀ v5 : Int, inR v5 → ∀ v6 : Int, inR v6 → ∀ v7 : Int, inR v7 → ∀ m : Mm, Rg m → okR (k_101 v1 v2 v3 v4 v5 v6 v7 m) Q → X g b (false, o) 8 (ZM g b (false, o) 1 Q) 101 [(0, .ref (b.1 + 54)), (1, iV v1), (2, iV v2), (3, iV v3), (4, iV v4), (5, iV v5), (6, iV v6), (7, iV v7)] [] m 0 0) (v1 : Int) (hv1 : inR v1) (v2 : Int) (hv2 : inR v2) (v3 : Int) (hv3 : inR v3) (v4 : Int) (hv4 : inR v4) (v5 : Int) (hv5 : inR v5) (v6 : Int) (hv6 : inR v6) (v7 : Int) (hv7 : inR v7) (m : Mm) (hm : Rg m) (hF : okR (J_X12_table_158 k_89 k_101 v1 v2 v3 v4 v5 v6 v7 m) Q) : X g b (false, o) 8 (ZM g b (false, o) 1 Q) 158 [(0, .ref (b.1 + 54)), (1, iV v1), (2, iV v2), (3, iV v3), (4, iV v4), (5, iV v5), (6, iV v6), (7, iV v7)] [] m 0 0 := by
  unfold J_X12_table_158 at hF
  refine x_iinc (p := 7) (lv' := [(0, .ref (b.1 + 54)), (1, iV v1), (2, iV v2), (3, iV v3), (4, iV v4), (5, iV v5), (6, iV v6)]) hC dX12_table_158 rfl rfl (by decide) rfl hF (fun x1 hx1 hF => ?_)
  refine x_goto (tgt := 101) hC dX12_table_161 rfl ?_
  refine x_sub [1, 2, 3, 4, 5, 6, 7, 0] rfl ?_
  exact hk_101 v1 hv1 v2 hv2 v3 hv3 v4 hv4 v5 hv5 v6 hv6 x1 hx1 m hm hF
set_option maxRecDepth 20000 in
set_option maxHeartbeats 4000000 in
theorem WL_X12_table_101 {g : Gx} {b : Bs} {o : Mm} {Q : Int → Mm → Prop} {k_89 : Int → Int → Int → Int → Int → Mm → Rs} (hC : Cok g b RX12 cX12_table 8 1 (some .int)) (hk_89 : ∀ v1 : Int, inR v1 → ∀ v2 : Int, inR v2 → ∀ v3 : Int, inR v3 → ∀ v4 : Int, inR v4 → ∀ v5 : Int, inR v5 → ∀ m : Mm, Rg m → okR (k_89 v1 v2 v3 v4 v5 m) Q → X g b (false, o) 8 (ZM g b (false, o) 1 Q) 89 [(0, .ref (b.1 + 54)), (1, iV v1), (2, iV v2), (3, iV v3), (4, iV v4), (5, iV v5)] [] m 0 0) : ∀ n : Nat, ∀ v1 : Int, inR v1 → ∀ v2 : Int, inR v2 → ∀ v3 : Int, inR v3 → ∀ v4 : Int, inR v4 → ∀ v5 : Int, inR v5 → ∀ v6 : Int, inR v6 → ∀ v7 : Int, inR v7 → ∀ m : Mm, Rg m → okR (L_X12_table_101 k_89 n v1 v2 v3 v4 v5 v6 v7 m) Q → X g b (false, o) 8 (ZM g b (false, o) 1 Q) 101 [(0, .ref (b.1 + 54)), (1, iV v1), (2, iV v2), (3, iV v3), (4, iV v4), (5, iV v5), (6, iV v6), (7, iV v7)] [] m 0 0 := by
  intro n
  induction n with
  | zero => intro v1 hv1 v2 hv2 v3 hv3 v4 hv4 v5 hv5 v6 hv6 v7 hv7 m hm hF; exact absurd hF (fun z => z)
  | succ n ih =>
    intro v1 hv1 v2 hv2 v3 hv3 v4 hv4 v5 hv5 v6 hv6 v7 hv7 m hm hF
    have hF : okR (LB_X12_table_101 k_89 (L_X12_table_101 k_89 n) v1 v2 v3 v4 v5 v6 v7 m) Q := hF
    unfold LB_X12_table_101 at hF
    refine x_iload hC dX12_table_101 rfl 7 rfl ?_
    refine x_iload_n hC dX12_table_103 rfl 1 rfl ?_
    refine x_icmp_ge (tgt := 164) hC dX12_table_104 rfl rfl hv7 hv1 hF (fun hq1 hF => ?_) (fun hq1 hF => ?_)
    · refine x_aload_n hC dX12_table_164 rfl 0 rfl ?_
      refine x_getR (t := 92) hC dX12_table_165 rfl flX12_135 rfl (by decide) rfl rfl ?_
      refine x_iload hC dX12_table_168 rfl 5 rfl ?_
      refine x_iconst hC dX12_table_170 rfl ?_
      refine x_iload_n hC dX12_table_171 rfl 2 rfl ?_
      refine x_iload hC dX12_table_172 rfl 6 rfl ?_
      refine x_imul hC dX12_table_174 rfl ?_
      refine x_iadd hC dX12_table_175 rfl ?_
      refine x_iast hC dX12_table_176 rfl rfl (by decide) rfl hm hv5 (rg_wr _) hF (fun m2 hm2 hF => ?_)
      refine x_iload hC dX12_table_177 rfl 4 rfl ?_
      refine x_aload_n hC dX12_table_179 rfl 0 rfl ?_
      refine x_getR (t := 91) hC dX12_table_180 rfl flX12_132 rfl (by decide) rfl rfl ?_
      refine x_iload hC dX12_table_183 rfl 5 rfl ?_
      refine x_iald hC dX12_table_185 rfl rfl (by decide) rfl hm2 hv5 hF (fun x3 hx3 hF => ?_)
      refine x_aload_n hC dX12_table_186 rfl 0 rfl ?_
      refine x_getR (t := 92) hC dX12_table_187 rfl flX12_135 rfl (by decide) rfl rfl ?_
      refine x_iload hC dX12_table_190 rfl 5 rfl ?_
      refine x_iald hC dX12_table_192 rfl rfl (by decide) rfl hm2 hv5 hF (fun x4 hx4 hF => ?_)
      refine x_imul hC dX12_table_193 rfl ?_
      refine x_iadd hC dX12_table_194 rfl ?_
      refine x_istore (lv' := [(0, .ref (b.1 + 54)), (1, iV v1), (2, iV v2), (3, iV v3), (5, iV v5), (6, iV v6), (7, iV v7)]) hC dX12_table_195 rfl (by decide) rfl (rg_wr _) hF (fun x5 hx5 hF => ?_)
      refine x_iinc (p := 5) (lv' := [(4, iV x5), (0, .ref (b.1 + 54)), (1, iV v1), (2, iV v2), (3, iV v3), (6, iV v6), (7, iV v7)]) hC dX12_table_197 rfl rfl (by decide) rfl hF (fun x6 hx6 hF => ?_)
      refine x_goto (tgt := 89) hC dX12_table_200 rfl ?_
      refine x_sub [2, 3, 4, 5, 1, 0] rfl ?_
      exact hk_89 v1 hv1 v2 hv2 v3 hv3 x5 hx5 x6 hx6 m2 hm2 hF
    · refine x_iload hC dX12_table_107 rfl 6 rfl ?_
      refine x_aload_n hC dX12_table_109 rfl 0 rfl ?_
      refine x_getR (t := 91) hC dX12_table_110 rfl flX12_132 rfl (by decide) rfl rfl ?_
      refine x_iload hC dX12_table_113 rfl 7 rfl ?_
      refine x_iald hC dX12_table_115 rfl rfl (by decide) rfl hm hv7 hF (fun x7 hx7 hF => ?_)
      refine x_aload_n hC dX12_table_116 rfl 0 rfl ?_
      refine x_getR (t := 91) hC dX12_table_117 rfl flX12_132 rfl (by decide) rfl rfl ?_
      refine x_iload hC dX12_table_120 rfl 5 rfl ?_
      refine x_iald hC dX12_table_122 rfl rfl (by decide) rfl hm hv5 hF (fun x8 hx8 hF => ?_)
      refine x_icmp_gt (tgt := 150) hC dX12_table_123 rfl rfl hx7 hx8 hF (fun hq9 hF => ?_) (fun hq9 hF => ?_)
      · refine x_iconst hC dX12_table_150 rfl ?_
        refine x_goto (tgt := 155) hC dX12_table_151 rfl ?_
        refine x_iadd hC dX12_table_155 rfl ?_
        refine x_istore (lv' := [(0, .ref (b.1 + 54)), (1, iV v1), (2, iV v2), (3, iV v3), (4, iV v4), (5, iV v5), (7, iV v7)]) hC dX12_table_156 rfl (by decide) rfl (rg_wr _) hF (fun x10 hx10 hF => ?_)
        refine x_sub [1, 2, 3, 4, 5, 6, 0, 7] rfl ?_
        exact WJ_X12_table_158 hC hk_89 ih  v1 hv1 v2 hv2 v3 hv3 v4 hv4 v5 hv5 x10 hx10 v7 hv7 m hm hF
      · refine x_aload_n hC dX12_table_126 rfl 0 rfl ?_
        refine x_getR (t := 91) hC dX12_table_127 rfl flX12_132 rfl (by decide) rfl rfl ?_
        refine x_iload hC dX12_table_130 rfl 7 rfl ?_
        refine x_iald hC dX12_table_132 rfl rfl (by decide) rfl hm hv7 hF (fun x11 hx11 hF => ?_)
        refine x_aload_n hC dX12_table_133 rfl 0 rfl ?_
        refine x_getR (t := 91) hC dX12_table_134 rfl flX12_132 rfl (by decide) rfl rfl ?_
        refine x_iload hC dX12_table_137 rfl 5 rfl ?_
        refine x_iald hC dX12_table_139 rfl rfl (by decide) rfl hm hv5 hF (fun x12 hx12 hF => ?_)
        refine x_icmp_ne (tgt := 154) hC dX12_table_140 rfl rfl hx11 hx12 hF (fun hq13 hF => ?_) (fun hq13 hF => ?_)
        · refine x_iconst hC dX12_table_154 rfl ?_
          refine x_iadd hC dX12_table_155 rfl ?_
          refine x_istore (lv' := [(0, .ref (b.1 + 54)), (1, iV v1), (2, iV v2), (3, iV v3), (4, iV v4), (5, iV v5), (7, iV v7)]) hC dX12_table_156 rfl (by decide) rfl (rg_wr _) hF (fun x14 hx14 hF => ?_)
          refine x_sub [1, 2, 3, 4, 5, 6, 0, 7] rfl ?_
          exact WJ_X12_table_158 hC hk_89 ih  v1 hv1 v2 hv2 v3 hv3 v4 hv4 v5 hv5 x14 hx14 v7 hv7 m hm hF
        · refine x_iload hC dX12_table_143 rfl 7 rfl ?_
          refine x_iload hC dX12_table_145 rfl 5 rfl ?_
          refine x_icmp_ge (tgt := 154) hC dX12_table_147 rfl rfl hv7 hv5 hF (fun hq15 hF => ?_) (fun hq15 hF => ?_)
          · refine x_iconst hC dX12_table_154 rfl ?_
            refine x_iadd hC dX12_table_155 rfl ?_
            refine x_istore (lv' := [(0, .ref (b.1 + 54)), (1, iV v1), (2, iV v2), (3, iV v3), (4, iV v4), (5, iV v5), (7, iV v7)]) hC dX12_table_156 rfl (by decide) rfl (rg_wr _) hF (fun x16 hx16 hF => ?_)
            refine x_sub [1, 2, 3, 4, 5, 6, 0, 7] rfl ?_
            exact WJ_X12_table_158 hC hk_89 ih  v1 hv1 v2 hv2 v3 hv3 v4 hv4 v5 hv5 x16 hx16 v7 hv7 m hm hF
          · refine x_iconst hC dX12_table_150 rfl ?_
            refine x_goto (tgt := 155) hC dX12_table_151 rfl ?_
            refine x_iadd hC dX12_table_155 rfl ?_
            refine x_istore (lv' := [(0, .ref (b.1 + 54)), (1, iV v1), (2, iV v2), (3, iV v3), (4, iV v4), (5, iV v5), (7, iV v7)]) hC dX12_table_156 rfl (by decide) rfl (rg_wr _) hF (fun x17 hx17 hF => ?_)
            refine x_sub [1, 2, 3, 4, 5, 6, 0, 7] rfl ?_
            exact WJ_X12_table_158 hC hk_89 ih  v1 hv1 v2 hv2 v3 hv3 v4 hv4 v5 hv5 x17 hx17 v7 hv7 m hm hF
set_option maxRecDepth 20000 in
set_option maxHeartbeats 4000000 in
theorem WL_X12_table_89 {g : Gx} {b : Bs} {o : Mm} {Q : Int → Mm → Prop} (hC : Cok g b RX12 cX12_table 8 1 (some .int)) : ∀ n : Nat, ∀ v1 : Int, inR v1 → ∀ v2 : Int, inR v2 → ∀ v3 : Int, inR v3 → ∀ v4 : Int, inR v4 → ∀ v5 : Int, inR v5 → ∀ m : Mm, Rg m → okR (L_X12_table_89 n v1 v2 v3 v4 v5 m) Q → X g b (false, o) 8 (ZM g b (false, o) 1 Q) 89 [(0, .ref (b.1 + 54)), (1, iV v1), (2, iV v2), (3, iV v3), (4, iV v4), (5, iV v5)] [] m 0 0 := by
  intro n
  induction n with
  | zero => intro v1 hv1 v2 hv2 v3 hv3 v4 hv4 v5 hv5 m hm hF; exact absurd hF (fun z => z)
  | succ n ih =>
    intro v1 hv1 v2 hv2 v3 hv3 v4 hv4 v5 hv5 m hm hF
    have hF : okR (LB_X12_table_89 (L_X12_table_89 n) v1 v2 v3 v4 v5 m) Q := hF
    unfold LB_X12_table_89 at hF
    refine x_iload hC dX12_table_89 rfl 5 rfl ?_
    refine x_iload_n hC dX12_table_91 rfl 1 rfl ?_
    refine x_icmp_ge (tgt := 203) hC dX12_table_92 rfl rfl hv5 hv1 hF (fun hq1 hF => ?_) (fun hq1 hF => ?_)
    · refine x_iload_n hC dX12_table_203 rfl 3 rfl ?_
      refine x_iconst hC dX12_table_204 rfl ?_
      refine x_icmp_ne (tgt := 213) hC dX12_table_205 rfl rfl hv3 (rgc (-1) rfl) hF (fun hq2 hF => ?_) (fun hq2 hF => ?_)
      · refine x_aload_n hC dX12_table_213 rfl 0 rfl ?_
        refine x_getR (t := 92) hC dX12_table_214 rfl flX12_135 rfl (by decide) rfl rfl ?_
        refine x_iload_n hC dX12_table_217 rfl 3 rfl ?_
        refine x_iconst hC dX12_table_218 rfl ?_
        refine x_isub hC dX12_table_219 rfl ?_
        refine x_iald hC dX12_table_220 rfl rfl (by decide) rfl hm (rg_wr _) hF (fun x3 hx3 hF => ?_)
        exact x_ireturn hC dX12_table_221 hm hx3 hF
      · refine x_iload hC dX12_table_208 rfl 4 rfl ?_
        refine x_goto (tgt := 221) hC dX12_table_210 rfl ?_
        exact x_ireturn hC dX12_table_221 hm hv4 hF
    · refine x_iconst hC dX12_table_95 rfl ?_
      refine x_istoreZ (lv' := [(0, .ref (b.1 + 54)), (1, iV v1), (2, iV v2), (3, iV v3), (4, iV v4), (5, iV v5)]) hC dX12_table_96 rfl (by decide) rfl (Or.inl rfl) hF (fun x4 hx4 hF => ?_)
      refine x_iconst hC dX12_table_98 rfl ?_
      refine x_istoreZ (lv' := [(6, iV x4), (0, .ref (b.1 + 54)), (1, iV v1), (2, iV v2), (3, iV v3), (4, iV v4), (5, iV v5)]) hC dX12_table_99 rfl (by decide) rfl (Or.inl rfl) hF (fun x5 hx5 hF => ?_)
      refine x_sub [2, 3, 4, 5, 6, 7, 1, 0] rfl ?_
      exact WL_X12_table_101 hC ih 100000  v1 hv1 v2 hv2 v3 hv3 v4 hv4 v5 hv5 x4 (rg_01 hx4) x5 (rg_01 hx5) m hm hF
set_option maxRecDepth 20000 in
set_option maxHeartbeats 4000000 in
theorem WL_X12_table_58 {g : Gx} {b : Bs} {o : Mm} {Q : Int → Mm → Prop} (hC : Cok g b RX12 cX12_table 8 1 (some .int)) : ∀ n : Nat, ∀ v1 : Int, inR v1 → ∀ v2 : Int, inR v2 → ∀ v3 : Int, inR v3 → ∀ v4 : Int, inR v4 → ∀ m : Mm, Rg m → okR (L_X12_table_58 n v1 v2 v3 v4 m) Q → X g b (false, o) 8 (ZM g b (false, o) 1 Q) 58 [(0, .ref (b.1 + 54)), (1, iV v1), (2, iV v2), (3, iV v3), (4, iV v4)] [] m 0 0 := by
  intro n
  induction n with
  | zero => intro v1 hv1 v2 hv2 v3 hv3 v4 hv4 m hm hF; exact absurd hF (fun z => z)
  | succ n ih =>
    intro v1 hv1 v2 hv2 v3 hv3 v4 hv4 m hm hF
    have hF : okR (LB_X12_table_58 (L_X12_table_58 n) v1 v2 v3 v4 m) Q := hF
    unfold LB_X12_table_58 at hF
    refine x_iload hC dX12_table_58 rfl 4 rfl ?_
    refine x_iload_n hC dX12_table_60 rfl 1 rfl ?_
    refine x_icmp_ge (tgt := 83) hC dX12_table_61 rfl rfl hv4 hv1 hF (fun hq1 hF => ?_) (fun hq1 hF => ?_)
    · refine x_iconst hC dX12_table_83 rfl ?_
      refine x_istoreZ (lv' := [(0, .ref (b.1 + 54)), (1, iV v1), (2, iV v2), (3, iV v3)]) hC dX12_table_84 rfl (by decide) rfl (Or.inl rfl) hF (fun x2 hx2 hF => ?_)
      refine x_iconst hC dX12_table_86 rfl ?_
      refine x_istoreZ (lv' := [(4, iV x2), (0, .ref (b.1 + 54)), (1, iV v1), (2, iV v2), (3, iV v3)]) hC dX12_table_87 rfl (by decide) rfl (Or.inl rfl) hF (fun x3 hx3 hF => ?_)
      refine x_sub [2, 3, 4, 5, 1, 0] rfl ?_
      exact WL_X12_table_89 hC 100000  v1 hv1 v2 hv2 v3 hv3 x2 (rg_01 hx2) x3 (rg_01 hx3) m hm hF
    · refine x_aload_n hC dX12_table_64 rfl 0 rfl ?_
      refine x_getR (t := 91) hC dX12_table_65 rfl flX12_132 rfl (by decide) rfl rfl ?_
      refine x_iload hC dX12_table_68 rfl 4 rfl ?_
      refine x_aload_n hC dX12_table_70 rfl 0 rfl ?_
      refine x_iload hC dX12_table_71 rfl 4 rfl ?_
      refine x_callV1 (kc2 := 0) (ks2 := 0) (k := 54) (As := [iV v4]) (rest := [iV v4, .ref (b.1 + 91)]) hC dX12_table_73 rfl hm (fun _ _ h => T_X12_byteAt b _ m v4 hv4 h) mlX12_327 vlX12_byteAt rfl (by decide) rfl rfl (Nat.le_of_ble_eq_true rfl) (by decide) (by decide) rfl rfl hF (fun r4 m5 hr4 hm5 hF => ?_)
      refine x_iast hC dX12_table_76 rfl rfl (by decide) rfl hm5 hv4 hr4 hF (fun m6 hm6 hF => ?_)
      refine x_iinc (p := 4) (lv' := [(0, .ref (b.1 + 54)), (1, iV v1), (2, iV v2), (3, iV v3)]) hC dX12_table_77 rfl rfl (by decide) rfl hF (fun x7 hx7 hF => ?_)
      refine x_goto (tgt := 58) hC dX12_table_80 rfl ?_
      refine x_sub [1, 2, 3, 4, 0] rfl ?_
      exact ih v1 hv1 v2 hv2 v3 hv3 x7 hx7 m6 hm6 hF
set_option maxRecDepth 20000 in
set_option maxHeartbeats 4000000 in
theorem WJ_X12_table_40 {g : Gx} {b : Bs} {o : Mm} {Q : Int → Mm → Prop} (hC : Cok g b RX12 cX12_table 8 1 (some .int)) (v1 : Int) (hv1 : inR v1) (v2 : Int) (hv2 : inR v2) (v3 : Int) (hv3 : inR v3) (m : Mm) (hm : Rg m) (hF : okR (J_X12_table_40 v1 v2 v3 m) Q) : X g b (false, o) 8 (ZM g b (false, o) 1 Q) 40 [(0, .ref (b.1 + 54)), (1, iV v1), (2, iV v2), (3, iV v3)] [] m 0 0 := by
  unfold J_X12_table_40 at hF
  refine x_iload_n hC dX12_table_40 rfl 1 rfl ?_
  refine x_aload_n hC dX12_table_41 rfl 0 rfl ?_
  refine x_getI hC dX12_table_42 rfl flX12_161 rfl (by decide) rfl rfl ?_
  refine x_icmp_le (tgt := 50) hC dX12_table_45 rfl rfl hv1 (hm.i 54 1 rfl) hF (fun hq1 hF => ?_) (fun hq1 hF => ?_)
  · refine x_aload_n hC dX12_table_50 rfl 0 rfl ?_
    refine x_iconst hC dX12_table_51 rfl ?_
    refine x_putI hC dX12_table_52 rfl fpX12_161 rfl (by decide) (by decide) rfl rfl hm (rgc 0 rfl) rfl hF (fun m2 hm2 hF => ?_)
    refine x_iconst hC dX12_table_55 rfl ?_
    refine x_istoreZ (lv' := [(0, .ref (b.1 + 54)), (1, iV v1), (2, iV v2), (3, iV v3)]) hC dX12_table_56 rfl (by decide) rfl (Or.inl rfl) hF (fun x3 hx3 hF => ?_)
    refine x_sub [1, 2, 3, 4, 0] rfl ?_
    exact WL_X12_table_58 hC 100000  v1 hv1 v2 hv2 v3 hv3 x3 (rg_01 hx3) m2 hm2 hF
  · refine x_iconst hC dX12_table_48 rfl ?_
    exact x_ireturn hC dX12_table_49 hm (rgc (-1) rfl) hF
set_option maxRecDepth 20000 in
set_option maxHeartbeats 4000000 in
theorem T_X12_table (b : Bs) (o : Mm) (m : Mm) (a1 : Int) (ha1 : inR a1) (a2 : Int) (ha2 : inR a2) (a3 : Int) (ha3 : inR a3) {r : Int} {m' : Mm} (h : F_X12_table a1 a2 a3 m = some (r, m')) : Cn yX12_table cX12_table 8 (some .int) (1) 0 0 1 b (false, o) m [.ref (b.1 + 54), iV a1, iV a2, iV a3] (F_X12_table a1 a2 a3 m) := by
  refine Cn_of rfl (Nat.le_of_ble_eq_true rfl) (fun g hC hm => ?_)
  have hF := okR_some h
  generalize hQ : (fun (r : Int) (m' : Mm) => F_X12_table a1 a2 a3 m = some (r, m')) = Q at hF ⊢
  clear hQ h
  replace hC : Cok g b RX12 cX12_table 8 1 (some .int) := hC
  refine x_lv (lv' := [(0, .ref (b.1 + 54)), (1, iV a1), (2, iV a2), (3, iV a3)]) rfl ?_
  unfold F_X12_table at hF
  refine x_iload_n hC dX12_table_0 rfl 1 rfl ?_
  refine x_i2l hC dX12_table_1 rfl ha1 ?_
  refine x_lconst (x := 1) hC dX12_table_2 rfl rfl ?_
  refine x_ldc2 (x := 12) hC dX12_table_3 rfl kwX12_387 ?_
  refine x_callS3 (kc2 := 0) (ks2 := 0) (As := [lV a1, lV 1, lV 12]) (rest := []) hC dX12_table_6 rfl hm (fun _ _ h => T_X12_lies b _ m a1 (rg_RL ha1) 1 (rgcL 1 rfl) 12 (rgcL 12 rfl) h) mlX12_147 vsX12_lies rfl rfl (Nat.le_of_ble_eq_true rfl) (by decide) (by decide) rfl rfl hF (fun r1 m2 hr1 hm2 hF => ?_)
  refine x_if_eq (tgt := 48) hC dX12_table_9 rfl rfl (rg_01 hr1) hF (fun hq3 hF => ?_) (fun hq3 hF => ?_)
  · refine x_iconst hC dX12_table_48 rfl ?_
    exact x_ireturn hC dX12_table_49 hm2 (rgc (-1) rfl) hF
  · refine x_iload_n hC dX12_table_12 rfl 2 rfl ?_
    refine x_i2l hC dX12_table_13 rfl ha2 ?_
    refine x_lconst (x := 1) hC dX12_table_14 rfl rfl ?_
    refine x_ldc2 (x := 5) hC dX12_table_15 rfl kwX12_483 ?_
    refine x_callS3 (kc2 := 0) (ks2 := 0) (As := [lV a2, lV 1, lV 5]) (rest := []) hC dX12_table_18 rfl hm2 (fun _ _ h => T_X12_lies b _ m2 a2 (rg_RL ha2) 1 (rgcL 1 rfl) 5 (rgcL 5 rfl) h) mlX12_147 vsX12_lies rfl rfl (Nat.le_of_ble_eq_true rfl) (by decide) (by decide) rfl rfl hF (fun r4 m5 hr4 hm5 hF => ?_)
    refine x_if_eq (tgt := 48) hC dX12_table_21 rfl rfl (rg_01 hr4) hF (fun hq6 hF => ?_) (fun hq6 hF => ?_)
    · refine x_iconst hC dX12_table_48 rfl ?_
      exact x_ireturn hC dX12_table_49 hm5 (rgc (-1) rfl) hF
    · refine x_iload_n hC dX12_table_24 rfl 3 rfl ?_
      refine x_iconst hC dX12_table_25 rfl ?_
      refine x_icmp_eq (tgt := 40) hC dX12_table_26 rfl rfl ha3 (rgc (-1) rfl) hF (fun hq7 hF => ?_) (fun hq7 hF => ?_)
      · exact WJ_X12_table_40 hC  a1 ha1 a2 ha2 a3 ha3 m5 hm5 hF
      · refine x_iload_n hC dX12_table_29 rfl 3 rfl ?_
        refine x_i2l hC dX12_table_30 rfl ha3 ?_
        refine x_lconst (x := 1) hC dX12_table_31 rfl rfl ?_
        refine x_iload_n hC dX12_table_32 rfl 1 rfl ?_
        refine x_i2l hC dX12_table_33 rfl ha1 ?_
        refine x_callS3 (kc2 := 0) (ks2 := 0) (As := [lV a3, lV 1, lV a1]) (rest := []) hC dX12_table_34 rfl hm5 (fun _ _ h => T_X12_lies b _ m5 a3 (rg_RL ha3) 1 (rgcL 1 rfl) a1 (rg_RL ha1) h) mlX12_147 vsX12_lies rfl rfl (Nat.le_of_ble_eq_true rfl) (by decide) (by decide) rfl rfl hF (fun r8 m9 hr8 hm9 hF => ?_)
        refine x_if_eq (tgt := 48) hC dX12_table_37 rfl rfl (rg_01 hr8) hF (fun hq10 hF => ?_) (fun hq10 hF => ?_)
        · refine x_iconst hC dX12_table_48 rfl ?_
          exact x_ireturn hC dX12_table_49 hm9 (rgc (-1) rfl) hF
        · exact WJ_X12_table_40 hC  a1 ha1 a2 ha2 a3 ha3 m9 hm9 hF
set_option maxRecDepth 20000 in
set_option maxHeartbeats 4000000 in
theorem WL_X12_meaningFor_2 {g : Gx} {b : Bs} {o : Mm} {Q : Int → Mm → Prop} (hC : Cok g b RX12 cX12_meaningFor 4 0 (some .int)) : ∀ n : Nat, ∀ v1 : Int, inR v1 → ∀ v2 : Int, inR v2 → ∀ v3 : Int, inR v3 → ∀ m : Mm, Rg m → okR (L_X12_meaningFor_2 n v1 v2 v3 m) Q → X g b (false, o) 4 (ZM g b (false, o) 1 Q) 2 [(0, .ref (b.1 + 54)), (1, iV v1), (2, iV v2), (3, iV v3)] [] m 0 0 := by
  intro n
  induction n with
  | zero => intro v1 hv1 v2 hv2 v3 hv3 m hm hF; exact absurd hF (fun z => z)
  | succ n ih =>
    intro v1 hv1 v2 hv2 v3 hv3 m hm hF
    have hF : okR (LB_X12_meaningFor_2 (L_X12_meaningFor_2 n) v1 v2 v3 m) Q := hF
    unfold LB_X12_meaningFor_2 at hF
    refine x_iload_n hC dX12_meaningFor_2 rfl 3 rfl ?_
    refine x_iload_n hC dX12_meaningFor_3 rfl 1 rfl ?_
    refine x_icmp_ge (tgt := 25) hC dX12_meaningFor_4 rfl rfl hv3 hv1 hF (fun hq1 hF => ?_) (fun hq1 hF => ?_)
    · refine x_iconst hC dX12_meaningFor_25 rfl ?_
      exact x_ireturn hC dX12_meaningFor_26 hm (rgc (-1) rfl) hF
    · refine x_aload_n hC dX12_meaningFor_7 rfl 0 rfl ?_
      refine x_getR (t := 92) hC dX12_meaningFor_8 rfl flX12_135 rfl (by decide) rfl rfl ?_
      refine x_iload_n hC dX12_meaningFor_11 rfl 3 rfl ?_
      refine x_iald hC dX12_meaningFor_12 rfl rfl (by decide) rfl hm hv3 hF (fun x2 hx2 hF => ?_)
      refine x_iload_n hC dX12_meaningFor_13 rfl 2 rfl ?_
      refine x_icmp_ne (tgt := 19) hC dX12_meaningFor_14 rfl rfl hx2 hv2 hF (fun hq3 hF => ?_) (fun hq3 hF => ?_)
      · refine x_iinc (p := 3) (lv' := [(0, .ref (b.1 + 54)), (1, iV v1), (2, iV v2)]) hC dX12_meaningFor_19 rfl rfl (by decide) rfl hF (fun x4 hx4 hF => ?_)
        refine x_goto (tgt := 2) hC dX12_meaningFor_22 rfl ?_
        refine x_sub [1, 2, 3, 0] rfl ?_
        exact ih v1 hv1 v2 hv2 x4 hx4 m hm hF
      · refine x_iload_n hC dX12_meaningFor_17 rfl 3 rfl ?_
        exact x_ireturn hC dX12_meaningFor_18 hm hv3 hF
set_option maxRecDepth 20000 in
set_option maxHeartbeats 4000000 in
theorem T_X12_meaningFor (b : Bs) (o : Mm) (m : Mm) (a1 : Int) (ha1 : inR a1) (a2 : Int) (ha2 : inR a2) {r : Int} {m' : Mm} (h : F_X12_meaningFor a1 a2 m = some (r, m')) : Cn yX12_meaningFor cX12_meaningFor 4 (some .int) (0) 0 0 1 b (false, o) m [.ref (b.1 + 54), iV a1, iV a2] (F_X12_meaningFor a1 a2 m) := by
  refine Cn_of rfl (Nat.le_of_ble_eq_true rfl) (fun g hC hm => ?_)
  have hF := okR_some h
  generalize hQ : (fun (r : Int) (m' : Mm) => F_X12_meaningFor a1 a2 m = some (r, m')) = Q at hF ⊢
  clear hQ h
  replace hC : Cok g b RX12 cX12_meaningFor 4 0 (some .int) := hC
  refine x_lv (lv' := [(0, .ref (b.1 + 54)), (1, iV a1), (2, iV a2)]) rfl ?_
  unfold F_X12_meaningFor at hF
  refine x_iconst hC dX12_meaningFor_0 rfl ?_
  refine x_istore_nZ (lv' := [(0, .ref (b.1 + 54)), (1, iV a1), (2, iV a2)]) hC dX12_meaningFor_1 rfl rfl (by decide) rfl (Or.inl rfl) hF (fun x1 hx1 hF => ?_)
  refine x_sub [1, 2, 3, 0] rfl ?_
  exact WL_X12_meaningFor_2 hC 100000  a1 ha1 a2 ha2 x1 (rg_01 hx1) m hm hF
set_option maxRecDepth 20000 in
set_option maxHeartbeats 4000000 in
theorem WJ_X12_alike_224 {g : Gx} {b : Bs} {o : Mm} {Q : Int → Mm → Prop} {k_120 : Int → Int → Int → Int → Int → Mm → Rs} {k_129 : Int → Int → Int → Int → Int → Int → Mm → Rs} (hC : Cok g b RX12 cX12_alike 9 1 (some .int)) (hk_120 : ∀ v1 : Int, inR v1 → ∀ v2 : Int, inR v2 → ∀ v3 : Int, inR v3 → ∀ v4 : Int, inR v4 → ∀ v5 : Int, inR v5 → ∀ m : Mm, Rg m → okR (k_120 v1 v2 v3 v4 v5 m) Q → X g b (false, o) 9 (ZM g b (false, o) 1 Q) 120 [(0, .ref (b.1 + 54)), (1, iV v1), (2, iV v2), (3, iV v3), (4, iV v4), (5, iV v5)] [] m 0 0) (hk_129 : ∀ v1 : Int, inR v1 → ∀ v2 : Int, inR v2 → ∀ v3 : Int, inR v3 → ∀ v4 : Int, inR v4 → ∀ v5 : Int, inR v5 → ∀ v6 : Int, inR v6 → ∀ m : Mm, Rg m → okR (k_129 v1 v2 v3 v4 v5 v6 m) Q → X g b (false, o) 9 (ZM g b (false, o) 1 Q) 129 [(0, .ref (b.1 + 54)), (1, iV v1), (2, iV v2), (3, iV v3), (4, iV v4), (5, iV v5), (6, iV v6)] [] m 0 0) (v1 : Int) (hv1 : inR v1) (v2 : Int) (hv2 : inR v2) (v3 : Int) (hv3 : inR v3) (v4 : Int) (hv4 : inR v4) (v5 : Int) (hv5 : inR v5) (v6 : Int) (hv6 : inR v6) (m : Mm) (hm : Rg m) (hF : okR (J_X12_alike_224 k_120 k_129 v1 v2 v3 v4 v5 v6 m) Q) : X g b (false, o) 9 (ZM g b (false, o) 1 Q) 224 [(0, .ref (b.1 + 54)), (1, iV v1), (2, iV v2), (3, iV v3), (4, iV v4), (5, iV v5), (6, iV v6)] [] m 0 0 := by
  unfold J_X12_alike_224 at hF
  refine x_iinc (p := 6) (lv' := [(0, .ref (b.1 + 54)), (1, iV v1), (2, iV v2), (3, iV v3), (4, iV v4), (5, iV v5)]) hC dX12_alike_224 rfl rfl (by decide) rfl hF (fun x1 hx1 hF => ?_)
  refine x_goto (tgt := 129) hC dX12_alike_227 rfl ?_
  refine x_sub [1, 2, 3, 4, 5, 6, 0] rfl ?_
  exact hk_129 v1 hv1 v2 hv2 v3 hv3 v4 hv4 v5 hv5 x1 hx1 m hm hF
set_option maxRecDepth 20000 in
set_option maxHeartbeats 4000000 in
theorem WJ_X12_alike_221 {g : Gx} {b : Bs} {o : Mm} {Q : Int → Mm → Prop} {k_120 : Int → Int → Int → Int → Int → Mm → Rs} {k_129 : Int → Int → Int → Int → Int → Int → Mm → Rs} (hC : Cok g b RX12 cX12_alike 9 1 (some .int)) (hk_120 : ∀ v1 : Int, inR v1 → ∀ v2 : Int, inR v2 → ∀ v3 : Int, inR v3 → ∀ v4 : Int, inR v4 → ∀ v5 : Int, inR v5 → ∀ m : Mm, Rg m → okR (k_120 v1 v2 v3 v4 v5 m) Q → X g b (false, o) 9 (ZM g b (false, o) 1 Q) 120 [(0, .ref (b.1 + 54)), (1, iV v1), (2, iV v2), (3, iV v3), (4, iV v4), (5, iV v5)] [] m 0 0) (hk_129 : ∀ v1 : Int, inR v1 → ∀ v2 : Int, inR v2 → ∀ v3 : Int, inR v3 → ∀ v4 : Int, inR v4 → ∀ v5 : Int, inR v5 → ∀ v6 : Int, inR v6 → ∀ m : Mm, Rg m → okR (k_129 v1 v2 v3 v4 v5 v6 m) Q → X g b (false, o) 9 (ZM g b (false, o) 1 Q) 129 [(0, .ref (b.1 + 54)), (1, iV v1), (2, iV v2), (3, iV v3), (4, iV v4), (5, iV v5), (6, iV v6)] [] m 0 0) (v1 : Int) (hv1 : inR v1) (v2 : Int) (hv2 : inR v2) (v3 : Int) (hv3 : inR v3) (v4 : Int) (hv4 : inR v4) (v5 : Int) (hv5 : inR v5) (v6 : Int) (hv6 : inR v6) (m : Mm) (hm : Rg m) (hF : okR (J_X12_alike_221 k_120 k_129 v1 v2 v3 v4 v5 v6 m) Q) : X g b (false, o) 9 (ZM g b (false, o) 1 Q) 221 [(0, .ref (b.1 + 54)), (1, iV v1), (2, iV v2), (3, iV v3), (4, iV v4), (5, iV v5), (6, iV v6)] [] m 0 0 := by
  unfold J_X12_alike_221 at hF
  refine x_iinc (p := 3) (lv' := [(0, .ref (b.1 + 54)), (1, iV v1), (2, iV v2), (4, iV v4), (5, iV v5), (6, iV v6)]) hC dX12_alike_221 rfl rfl (by decide) rfl hF (fun x1 hx1 hF => ?_)
  refine x_sub [1, 2, 3, 0, 4, 5, 6] rfl ?_
  exact WJ_X12_alike_224 hC hk_120 hk_129  v1 hv1 v2 hv2 x1 hx1 v4 hv4 v5 hv5 v6 hv6 m hm hF
set_option maxRecDepth 20000 in
set_option maxHeartbeats 4000000 in
theorem WL_X12_alike_129 {g : Gx} {b : Bs} {o : Mm} {Q : Int → Mm → Prop} {k_120 : Int → Int → Int → Int → Int → Mm → Rs} (hC : Cok g b RX12 cX12_alike 9 1 (some .int)) (hk_120 : ∀ v1 : Int, inR v1 → ∀ v2 : Int, inR v2 → ∀ v3 : Int, inR v3 → ∀ v4 : Int, inR v4 → ∀ v5 : Int, inR v5 → ∀ m : Mm, Rg m → okR (k_120 v1 v2 v3 v4 v5 m) Q → X g b (false, o) 9 (ZM g b (false, o) 1 Q) 120 [(0, .ref (b.1 + 54)), (1, iV v1), (2, iV v2), (3, iV v3), (4, iV v4), (5, iV v5)] [] m 0 0) : ∀ n : Nat, ∀ v1 : Int, inR v1 → ∀ v2 : Int, inR v2 → ∀ v3 : Int, inR v3 → ∀ v4 : Int, inR v4 → ∀ v5 : Int, inR v5 → ∀ v6 : Int, inR v6 → ∀ m : Mm, Rg m → okR (L_X12_alike_129 k_120 n v1 v2 v3 v4 v5 v6 m) Q → X g b (false, o) 9 (ZM g b (false, o) 1 Q) 129 [(0, .ref (b.1 + 54)), (1, iV v1), (2, iV v2), (3, iV v3), (4, iV v4), (5, iV v5), (6, iV v6)] [] m 0 0 := by
  intro n
  induction n with
  | zero => intro v1 hv1 v2 hv2 v3 hv3 v4 hv4 v5 hv5 v6 hv6 m hm hF; exact absurd hF (fun z => z)
  | succ n ih =>
    intro v1 hv1 v2 hv2 v3 hv3 v4 hv4 v5 hv5 v6 hv6 m hm hF
    have hF : okR (LB_X12_alike_129 k_120 (L_X12_alike_129 k_120 n) v1 v2 v3 v4 v5 v6 m) Q := hF
    unfold LB_X12_alike_129 at hF
    refine x_iload hC dX12_alike_129 rfl 6 rfl ?_
    refine x_iload_n hC dX12_alike_131 rfl 1 rfl ?_
    refine x_icmp_ge (tgt := 230) hC dX12_alike_132 rfl rfl hv6 hv1 hF (fun hq1 hF => ?_) (fun hq1 hF => ?_)
    · refine x_iinc (p := 5) (lv' := [(0, .ref (b.1 + 54)), (1, iV v1), (2, iV v2), (3, iV v3), (4, iV v4), (6, iV v6)]) hC dX12_alike_230 rfl rfl (by decide) rfl hF (fun x2 hx2 hF => ?_)
      refine x_goto (tgt := 120) hC dX12_alike_233 rfl ?_
      refine x_sub [1, 2, 3, 4, 5, 0] rfl ?_
      exact hk_120 v1 hv1 v2 hv2 v3 hv3 v4 hv4 x2 hx2 m hm hF
    · refine x_aload_n hC dX12_alike_135 rfl 0 rfl ?_
      refine x_iload_n hC dX12_alike_136 rfl 1 rfl ?_
      refine x_aload_n hC dX12_alike_137 rfl 0 rfl ?_
      refine x_getR (t := 92) hC dX12_alike_138 rfl flX12_135 rfl (by decide) rfl rfl ?_
      refine x_iload hC dX12_alike_141 rfl 5 rfl ?_
      refine x_iald hC dX12_alike_143 rfl rfl (by decide) rfl hm hv5 hF (fun x3 hx3 hF => ?_)
      refine x_iconst hC dX12_alike_144 rfl ?_
      refine x_iadd hC dX12_alike_145 rfl ?_
      refine x_callV1 (kc2 := 0) (ks2 := 0) (k := 54) (As := [iV v1, iV (wr (x3 + 1))]) (rest := []) hC dX12_alike_146 rfl hm (fun _ _ h => T_X12_meaningFor b _ m v1 hv1 (wr (x3 + 1)) (rg_wr _) h) mlX12_485 vlX12_meaningFor rfl (by decide) rfl rfl (Nat.le_of_ble_eq_true rfl) (by decide) (by decide) rfl rfl hF (fun r4 m5 hr4 hm5 hF => ?_)
      refine x_istore (lv' := [(0, .ref (b.1 + 54)), (1, iV v1), (2, iV v2), (3, iV v3), (4, iV v4), (5, iV v5), (6, iV v6)]) hC dX12_alike_149 rfl (by decide) rfl hr4 hF (fun x6 hx6 hF => ?_)
      refine x_aload_n hC dX12_alike_151 rfl 1 rfl ?_
      refine x_iload_n hC dX12_alike_152 rfl 2 rfl ?_
      refine x_aload_n hC dX12_alike_153 rfl 1 rfl ?_
      refine x_getR (t := 92) hC dX12_alike_154 rfl flX12_135 rfl (by decide) rfl rfl ?_
      refine x_iload hC dX12_alike_157 rfl 7 rfl ?_
      refine x_iald hC dX12_alike_159 rfl rfl (by decide) rfl hm5 hv6 hF (fun x7 hx7 hF => ?_)
      refine x_iconst hC dX12_alike_160 rfl ?_
      refine x_isub hC dX12_alike_161 rfl ?_
      refine x_callV1 (kc2 := 0) (ks2 := 0) (k := 54) (As := [iV v1, iV (wr (x7 - 1))]) (rest := []) hC dX12_alike_162 rfl hm5 (fun _ _ h => T_X12_meaningFor b _ m5 v1 hv1 (wr (x7 - 1)) (rg_wr _) h) mlX12_485 vlX12_meaningFor rfl (by decide) rfl rfl (Nat.le_of_ble_eq_true rfl) (by decide) (by decide) rfl rfl hF (fun r8 m9 hr8 hm9 hF => ?_)
      refine x_istore (lv' := [(7, iV x6), (0, .ref (b.1 + 54)), (1, iV v1), (2, iV v2), (3, iV v3), (4, iV v4), (5, iV v5), (6, iV v6)]) hC dX12_alike_165 rfl (by decide) rfl hr8 hF (fun x10 hx10 hF => ?_)
      refine x_iload hC dX12_alike_167 rfl 1 rfl ?_
      refine x_iconst hC dX12_alike_169 rfl ?_
      refine x_icmp_eq (tgt := 224) hC dX12_alike_170 rfl rfl hx6 (rgc (-1) rfl) hF (fun hq11 hF => ?_) (fun hq11 hF => ?_)
      · refine x_sub [2, 3, 4, 5, 6, 7, 8] rfl ?_
        exact WJ_X12_alike_224 hC hk_120 ih  v1 hv1 v2 hv2 v3 hv3 v4 hv4 v5 hv5 v6 hv6 m9 hm9 hF
      · refine x_iload hC dX12_alike_173 rfl 0 rfl ?_
        refine x_iconst hC dX12_alike_175 rfl ?_
        refine x_icmp_ne (tgt := 182) hC dX12_alike_176 rfl rfl hx10 (rgc (-1) rfl) hF (fun hq12 hF => ?_) (fun hq12 hF => ?_)
        · refine x_iload_n hC dX12_alike_182 rfl 5 rfl ?_
          refine x_if_ne (tgt := 221) hC dX12_alike_183 rfl rfl hv3 hF (fun hq13 hF => ?_) (fun hq13 hF => ?_)
          · refine x_sub [2, 3, 4, 5, 6, 7, 8] rfl ?_
            exact WJ_X12_alike_221 hC hk_120 ih  v1 hv1 v2 hv2 v3 hv3 v4 hv4 v5 hv5 v6 hv6 m9 hm9 hF
          · refine x_iconst hC dX12_alike_186 rfl ?_
            refine x_iload_n hC dX12_alike_187 rfl 4 rfl ?_
            refine x_if_ne (tgt := 196) hC dX12_alike_188 rfl rfl hv2 hF (fun hq14 hF => ?_) (fun hq14 hF => ?_)
            · refine x_iload_n hC dX12_alike_196 rfl 4 rfl ?_
              refine x_iconst hC dX12_alike_197 rfl ?_
              refine x_icmp_ne (tgt := 206) hC dX12_alike_198 rfl rfl hv2 (rgc 1 rfl) hF (fun hq15 hF => ?_) (fun hq15 hF => ?_)
              · refine x_iload_n hC dX12_alike_206 rfl 4 rfl ?_
                refine x_iconst hC dX12_alike_207 rfl ?_
                refine x_icmp_ne (tgt := 216) hC dX12_alike_208 rfl rfl hv2 (rgc 2 rfl) hF (fun hq16 hF => ?_) (fun hq16 hF => ?_)
                · refine x_iload hC dX12_alike_216 rfl 0 rfl ?_
                  refine x_iadd hC dX12_alike_218 rfl ?_
                  refine x_istore (lv' := [(8, iV x10), (7, iV x6), (0, .ref (b.1 + 54)), (1, iV v1), (2, iV v2), (3, iV v3), (5, iV v5), (6, iV v6)]) hC dX12_alike_219 rfl (by decide) rfl (rg_wr _) hF (fun x17 hx17 hF => ?_)
                  refine x_sub [3, 4, 5, 6, 0, 7, 8] rfl ?_
                  exact WJ_X12_alike_221 hC hk_120 ih  v1 hv1 v2 hv2 v3 hv3 x17 hx17 v5 hv5 v6 hv6 m9 hm9 hF
                · refine x_iload hC dX12_alike_211 rfl 1 rfl ?_
                  refine x_goto (tgt := 218) hC dX12_alike_213 rfl ?_
                  refine x_iadd hC dX12_alike_218 rfl ?_
                  refine x_istore (lv' := [(8, iV x10), (7, iV x6), (0, .ref (b.1 + 54)), (1, iV v1), (2, iV v2), (3, iV v3), (5, iV v5), (6, iV v6)]) hC dX12_alike_219 rfl (by decide) rfl (rg_wr _) hF (fun x18 hx18 hF => ?_)
                  refine x_sub [3, 4, 5, 6, 0, 7, 8] rfl ?_
                  exact WJ_X12_alike_221 hC hk_120 ih  v1 hv1 v2 hv2 v3 hv3 x18 hx18 v5 hv5 v6 hv6 m9 hm9 hF
              · refine x_iload hC dX12_alike_201 rfl 8 rfl ?_
                refine x_goto (tgt := 218) hC dX12_alike_203 rfl ?_
                refine x_iadd hC dX12_alike_218 rfl ?_
                refine x_istore (lv' := [(8, iV x10), (7, iV x6), (0, .ref (b.1 + 54)), (1, iV v1), (2, iV v2), (3, iV v3), (5, iV v5), (6, iV v6)]) hC dX12_alike_219 rfl (by decide) rfl (rg_wr _) hF (fun x19 hx19 hF => ?_)
                refine x_sub [3, 4, 5, 6, 0, 7, 8] rfl ?_
                exact WJ_X12_alike_221 hC hk_120 ih  v1 hv1 v2 hv2 v3 hv3 x19 hx19 v5 hv5 v6 hv6 m9 hm9 hF
            · refine x_iload hC dX12_alike_191 rfl 7 rfl ?_
              refine x_goto (tgt := 218) hC dX12_alike_193 rfl ?_
              refine x_iadd hC dX12_alike_218 rfl ?_
              refine x_istore (lv' := [(8, iV x10), (7, iV x6), (0, .ref (b.1 + 54)), (1, iV v1), (2, iV v2), (3, iV v3), (5, iV v5), (6, iV v6)]) hC dX12_alike_219 rfl (by decide) rfl (rg_wr _) hF (fun x20 hx20 hF => ?_)
              refine x_sub [3, 4, 5, 6, 0, 7, 8] rfl ?_
              exact WJ_X12_alike_221 hC hk_120 ih  v1 hv1 v2 hv2 v3 hv3 x20 hx20 v5 hv5 v6 hv6 m9 hm9 hF
        · refine x_goto (tgt := 224) hC dX12_alike_179 rfl ?_
          refine x_sub [2, 3, 4, 5, 6, 7, 8] rfl ?_
          exact WJ_X12_alike_224 hC hk_120 ih  v1 hv1 v2 hv2 v3 hv3 v4 hv4 v5 hv5 v6 hv6 m9 hm9 hF
set_option maxRecDepth 20000 in
set_option maxHeartbeats 4000000 in
theorem WL_X12_alike_120 {g : Gx} {b : Bs} {o : Mm} {Q : Int → Mm → Prop} (hC : Cok g b RX12 cX12_alike 9 1 (some .int)) : ∀ n : Nat, ∀ v1 : Int, inR v1 → ∀ v2 : Int, inR v2 → ∀ v3 : Int, inR v3 → ∀ v4 : Int, inR v4 → ∀ v5 : Int, inR v5 → ∀ m : Mm, Rg m → okR (L_X12_alike_120 n v1 v2 v3 v4 v5 m) Q → X g b (false, o) 9 (ZM g b (false, o) 1 Q) 120 [(0, .ref (b.1 + 54)), (1, iV v1), (2, iV v2), (3, iV v3), (4, iV v4), (5, iV v5)] [] m 0 0 := by
  intro n
  induction n with
  | zero => intro v1 hv1 v2 hv2 v3 hv3 v4 hv4 v5 hv5 m hm hF; exact absurd hF (fun z => z)
  | succ n ih =>
    intro v1 hv1 v2 hv2 v3 hv3 v4 hv4 v5 hv5 m hm hF
    have hF : okR (LB_X12_alike_120 (L_X12_alike_120 n) v1 v2 v3 v4 v5 m) Q := hF
    unfold LB_X12_alike_120 at hF
    refine x_iload hC dX12_alike_120 rfl 5 rfl ?_
    refine x_iload_n hC dX12_alike_122 rfl 1 rfl ?_
    refine x_icmp_ge (tgt := 236) hC dX12_alike_123 rfl rfl hv5 hv1 hF (fun hq1 hF => ?_) (fun hq1 hF => ?_)
    · refine x_iload_n hC dX12_alike_236 rfl 2 rfl ?_
      refine x_iconst hC dX12_alike_237 rfl ?_
      refine x_icmp_ne (tgt := 245) hC dX12_alike_238 rfl rfl hv2 (rgc 4 rfl) hF (fun hq2 hF => ?_) (fun hq2 hF => ?_)
      · refine x_iload hC dX12_alike_245 rfl 4 rfl ?_
        exact x_ireturn hC dX12_alike_247 hm hv4 hF
      · refine x_iload_n hC dX12_alike_241 rfl 3 rfl ?_
        refine x_goto (tgt := 247) hC dX12_alike_242 rfl ?_
        exact x_ireturn hC dX12_alike_247 hm hv3 hF
    · refine x_iconst hC dX12_alike_126 rfl ?_
      refine x_istoreZ (lv' := [(0, .ref (b.1 + 54)), (1, iV v1), (2, iV v2), (3, iV v3), (4, iV v4), (5, iV v5)]) hC dX12_alike_127 rfl (by decide) rfl (Or.inl rfl) hF (fun x3 hx3 hF => ?_)
      refine x_sub [1, 2, 3, 4, 5, 6, 0] rfl ?_
      exact WL_X12_alike_129 hC ih 100000  v1 hv1 v2 hv2 v3 hv3 v4 hv4 v5 hv5 x3 (rg_01 hx3) m hm hF
set_option maxRecDepth 20000 in
set_option maxHeartbeats 4000000 in
theorem WL_X12_alike_65 {g : Gx} {b : Bs} {o : Mm} {Q : Int → Mm → Prop} (hC : Cok g b RX12 cX12_alike 9 1 (some .int)) : ∀ n : Nat, ∀ v1 : Int, inR v1 → ∀ v2 : Int, inR v2 → ∀ v3 : Int, inR v3 → ∀ m : Mm, Rg m → okR (L_X12_alike_65 n v1 v2 v3 m) Q → X g b (false, o) 9 (ZM g b (false, o) 1 Q) 65 [(0, .ref (b.1 + 54)), (1, iV v1), (2, iV v2), (3, iV v3)] [] m 0 0 := by
  intro n
  induction n with
  | zero => intro v1 hv1 v2 hv2 v3 hv3 m hm hF; exact absurd hF (fun z => z)
  | succ n ih =>
    intro v1 hv1 v2 hv2 v3 hv3 m hm hF
    have hF : okR (LB_X12_alike_65 (L_X12_alike_65 n) v1 v2 v3 m) Q := hF
    unfold LB_X12_alike_65 at hF
    refine x_iload_n hC dX12_alike_65 rfl 3 rfl ?_
    refine x_iload_n hC dX12_alike_66 rfl 1 rfl ?_
    refine x_icmp_ge (tgt := 111) hC dX12_alike_67 rfl rfl hv3 hv1 hF (fun hq1 hF => ?_) (fun hq1 hF => ?_)
    · refine x_iconst hC dX12_alike_111 rfl ?_
      refine x_istore_nZ (lv' := [(0, .ref (b.1 + 54)), (1, iV v1), (2, iV v2)]) hC dX12_alike_112 rfl rfl (by decide) rfl (Or.inl rfl) hF (fun x2 hx2 hF => ?_)
      refine x_bipush hC dX12_alike_113 rfl rfl ?_
      refine x_istore (lv' := [(3, iV x2), (0, .ref (b.1 + 54)), (1, iV v1), (2, iV v2)]) hC dX12_alike_115 rfl (by decide) rfl (rgc (-3) rfl) hF (fun x3 hx3 hF => ?_)
      refine x_iconst hC dX12_alike_117 rfl ?_
      refine x_istoreZ (lv' := [(4, iV x3), (3, iV x2), (0, .ref (b.1 + 54)), (1, iV v1), (2, iV v2)]) hC dX12_alike_118 rfl (by decide) rfl (Or.inl rfl) hF (fun x4 hx4 hF => ?_)
      refine x_sub [3, 4, 5, 2, 1, 0] rfl ?_
      exact WL_X12_alike_120 hC 100000  v1 hv1 v2 hv2 x2 (rg_01 hx2) x3 hx3 x4 (rg_01 hx4) m hm hF
    · refine x_aload_n hC dX12_alike_70 rfl 0 rfl ?_
      refine x_getR (t := 92) hC dX12_alike_71 rfl flX12_135 rfl (by decide) rfl rfl ?_
      refine x_iload_n hC dX12_alike_74 rfl 3 rfl ?_
      refine x_iald hC dX12_alike_75 rfl rfl (by decide) rfl hm hv3 hF (fun x5 hx5 hF => ?_)
      refine x_i2l hC dX12_alike_76 rfl hx5 ?_
      refine x_lconst (x := 1) hC dX12_alike_77 rfl rfl ?_
      refine x_ldc2 (x := 63) hC dX12_alike_78 rfl kwX12_372 ?_
      refine x_callS3 (kc2 := 0) (ks2 := 0) (As := [lV x5, lV 1, lV 63]) (rest := []) hC dX12_alike_81 rfl hm (fun _ _ h => T_X12_lies b _ m x5 (rg_RL hx5) 1 (rgcL 1 rfl) 63 (rgcL 63 rfl) h) mlX12_147 vsX12_lies rfl rfl (Nat.le_of_ble_eq_true rfl) (by decide) (by decide) rfl rfl hF (fun r6 m7 hr6 hm7 hF => ?_)
      refine x_if_eq (tgt := 102) hC dX12_alike_84 rfl rfl (rg_01 hr6) hF (fun hq8 hF => ?_) (fun hq8 hF => ?_)
      · refine x_bipush hC dX12_alike_102 rfl rfl ?_
        exact x_ireturn hC dX12_alike_104 hm7 (rgc (-2) rfl) hF
      · refine x_aload_n hC dX12_alike_87 rfl 0 rfl ?_
        refine x_iload_n hC dX12_alike_88 rfl 1 rfl ?_
        refine x_aload_n hC dX12_alike_89 rfl 0 rfl ?_
        refine x_getR (t := 92) hC dX12_alike_90 rfl flX12_135 rfl (by decide) rfl rfl ?_
        refine x_iload_n hC dX12_alike_93 rfl 3 rfl ?_
        refine x_iald hC dX12_alike_94 rfl rfl (by decide) rfl hm7 hv3 hF (fun x9 hx9 hF => ?_)
        refine x_callV1 (kc2 := 0) (ks2 := 0) (k := 54) (As := [iV v1, iV x9]) (rest := []) hC dX12_alike_95 rfl hm7 (fun _ _ h => T_X12_meaningFor b _ m7 v1 hv1 x9 hx9 h) mlX12_485 vlX12_meaningFor rfl (by decide) rfl rfl (Nat.le_of_ble_eq_true rfl) (by decide) (by decide) rfl rfl hF (fun r10 m11 hr10 hm11 hF => ?_)
        refine x_iload_n hC dX12_alike_98 rfl 3 rfl ?_
        refine x_icmp_eq (tgt := 105) hC dX12_alike_99 rfl rfl hr10 hv3 hF (fun hq12 hF => ?_) (fun hq12 hF => ?_)
        · refine x_iinc (p := 3) (lv' := [(0, .ref (b.1 + 54)), (1, iV v1), (2, iV v2)]) hC dX12_alike_105 rfl rfl (by decide) rfl hF (fun x13 hx13 hF => ?_)
          refine x_goto (tgt := 65) hC dX12_alike_108 rfl ?_
          refine x_sub [1, 2, 3, 0] rfl ?_
          exact ih v1 hv1 v2 hv2 x13 hx13 m11 hm11 hF
        · refine x_bipush hC dX12_alike_102 rfl rfl ?_
          exact x_ireturn hC dX12_alike_104 hm11 (rgc (-2) rfl) hF
set_option maxRecDepth 20000 in
set_option maxHeartbeats 4000000 in
theorem WL_X12_alike_41 {g : Gx} {b : Bs} {o : Mm} {Q : Int → Mm → Prop} (hC : Cok g b RX12 cX12_alike 9 1 (some .int)) : ∀ n : Nat, ∀ v1 : Int, inR v1 → ∀ v2 : Int, inR v2 → ∀ v3 : Int, inR v3 → ∀ m : Mm, Rg m → okR (L_X12_alike_41 n v1 v2 v3 m) Q → X g b (false, o) 9 (ZM g b (false, o) 1 Q) 41 [(0, .ref (b.1 + 54)), (1, iV v1), (2, iV v2), (3, iV v3)] [] m 0 0 := by
  intro n
  induction n with
  | zero => intro v1 hv1 v2 hv2 v3 hv3 m hm hF; exact absurd hF (fun z => z)
  | succ n ih =>
    intro v1 hv1 v2 hv2 v3 hv3 m hm hF
    have hF : okR (LB_X12_alike_41 (L_X12_alike_41 n) v1 v2 v3 m) Q := hF
    unfold LB_X12_alike_41 at hF
    refine x_iload_n hC dX12_alike_41 rfl 3 rfl ?_
    refine x_iload_n hC dX12_alike_42 rfl 1 rfl ?_
    refine x_icmp_ge (tgt := 63) hC dX12_alike_43 rfl rfl hv3 hv1 hF (fun hq1 hF => ?_) (fun hq1 hF => ?_)
    · refine x_iconst hC dX12_alike_63 rfl ?_
      refine x_istore_nZ (lv' := [(0, .ref (b.1 + 54)), (1, iV v1), (2, iV v2)]) hC dX12_alike_64 rfl rfl (by decide) rfl (Or.inl rfl) hF (fun x2 hx2 hF => ?_)
      refine x_sub [1, 2, 3, 0] rfl ?_
      exact WL_X12_alike_65 hC 100000  v1 hv1 v2 hv2 x2 (rg_01 hx2) m hm hF
    · refine x_aload_n hC dX12_alike_46 rfl 0 rfl ?_
      refine x_getR (t := 92) hC dX12_alike_47 rfl flX12_135 rfl (by decide) rfl rfl ?_
      refine x_iload_n hC dX12_alike_50 rfl 3 rfl ?_
      refine x_aload_n hC dX12_alike_51 rfl 0 rfl ?_
      refine x_iload_n hC dX12_alike_52 rfl 3 rfl ?_
      refine x_callV1 (kc2 := 0) (ks2 := 0) (k := 54) (As := [iV v3]) (rest := [iV v3, .ref (b.1 + 92)]) hC dX12_alike_53 rfl hm (fun _ _ h => T_X12_byteAt b _ m v3 hv3 h) mlX12_327 vlX12_byteAt rfl (by decide) rfl rfl (Nat.le_of_ble_eq_true rfl) (by decide) (by decide) rfl rfl hF (fun r3 m4 hr3 hm4 hF => ?_)
      refine x_iast hC dX12_alike_56 rfl rfl (by decide) rfl hm4 hv3 hr3 hF (fun m5 hm5 hF => ?_)
      refine x_iinc (p := 3) (lv' := [(0, .ref (b.1 + 54)), (1, iV v1), (2, iV v2)]) hC dX12_alike_57 rfl rfl (by decide) rfl hF (fun x6 hx6 hF => ?_)
      refine x_goto (tgt := 41) hC dX12_alike_60 rfl ?_
      refine x_sub [1, 2, 3, 0] rfl ?_
      exact ih v1 hv1 v2 hv2 x6 hx6 m5 hm5 hF
set_option maxRecDepth 20000 in
set_option maxHeartbeats 4000000 in
theorem T_X12_alike (b : Bs) (o : Mm) (m : Mm) (a1 : Int) (ha1 : inR a1) (a2 : Int) (ha2 : inR a2) {r : Int} {m' : Mm} (h : F_X12_alike a1 a2 m = some (r, m')) : Cn yX12_alike cX12_alike 9 (some .int) (1) 0 0 1 b (false, o) m [.ref (b.1 + 54), iV a1, iV a2] (F_X12_alike a1 a2 m) := by
  refine Cn_of rfl (Nat.le_of_ble_eq_true rfl) (fun g hC hm => ?_)
  have hF := okR_some h
  generalize hQ : (fun (r : Int) (m' : Mm) => F_X12_alike a1 a2 m = some (r, m')) = Q at hF ⊢
  clear hQ h
  replace hC : Cok g b RX12 cX12_alike 9 1 (some .int) := hC
  refine x_lv (lv' := [(0, .ref (b.1 + 54)), (1, iV a1), (2, iV a2)]) rfl ?_
  unfold F_X12_alike at hF
  refine x_iload_n hC dX12_alike_0 rfl 1 rfl ?_
  refine x_i2l hC dX12_alike_1 rfl ha1 ?_
  refine x_lconst (x := 1) hC dX12_alike_2 rfl rfl ?_
  refine x_ldc2 (x := 12) hC dX12_alike_3 rfl kwX12_387 ?_
  refine x_callS3 (kc2 := 0) (ks2 := 0) (As := [lV a1, lV 1, lV 12]) (rest := []) hC dX12_alike_6 rfl hm (fun _ _ h => T_X12_lies b _ m a1 (rg_RL ha1) 1 (rgcL 1 rfl) 12 (rgcL 12 rfl) h) mlX12_147 vsX12_lies rfl rfl (Nat.le_of_ble_eq_true rfl) (by decide) (by decide) rfl rfl hF (fun r1 m2 hr1 hm2 hF => ?_)
  refine x_if_eq (tgt := 32) hC dX12_alike_9 rfl rfl (rg_01 hr1) hF (fun hq3 hF => ?_) (fun hq3 hF => ?_)
  · refine x_iconst hC dX12_alike_32 rfl ?_
    exact x_ireturn hC dX12_alike_33 hm2 (rgc (-1) rfl) hF
  · refine x_iload_n hC dX12_alike_12 rfl 2 rfl ?_
    refine x_i2l hC dX12_alike_13 rfl ha2 ?_
    refine x_lconst (x := 0) hC dX12_alike_14 rfl rfl ?_
    refine x_ldc2 (x := 4) hC dX12_alike_15 rfl kwX12_325 ?_
    refine x_callS3 (kc2 := 0) (ks2 := 0) (As := [lV a2, lV 0, lV 4]) (rest := []) hC dX12_alike_18 rfl hm2 (fun _ _ h => T_X12_lies b _ m2 a2 (rg_RL ha2) 0 (rgcL 0 rfl) 4 (rgcL 4 rfl) h) mlX12_147 vsX12_lies rfl rfl (Nat.le_of_ble_eq_true rfl) (by decide) (by decide) rfl rfl hF (fun r4 m5 hr4 hm5 hF => ?_)
    refine x_if_eq (tgt := 32) hC dX12_alike_21 rfl rfl (rg_01 hr4) hF (fun hq6 hF => ?_) (fun hq6 hF => ?_)
    · refine x_iconst hC dX12_alike_32 rfl ?_
      exact x_ireturn hC dX12_alike_33 hm5 (rgc (-1) rfl) hF
    · refine x_iload_n hC dX12_alike_24 rfl 1 rfl ?_
      refine x_aload_n hC dX12_alike_25 rfl 0 rfl ?_
      refine x_getI hC dX12_alike_26 rfl flX12_161 rfl (by decide) rfl rfl ?_
      refine x_icmp_le (tgt := 34) hC dX12_alike_29 rfl rfl ha1 (hm5.i 54 1 rfl) hF (fun hq7 hF => ?_) (fun hq7 hF => ?_)
      · refine x_aload_n hC dX12_alike_34 rfl 0 rfl ?_
        refine x_iconst hC dX12_alike_35 rfl ?_
        refine x_putI hC dX12_alike_36 rfl fpX12_161 rfl (by decide) (by decide) rfl rfl hm5 (rgc 0 rfl) rfl hF (fun m8 hm8 hF => ?_)
        refine x_iconst hC dX12_alike_39 rfl ?_
        refine x_istore_nZ (lv' := [(0, .ref (b.1 + 54)), (1, iV a1), (2, iV a2)]) hC dX12_alike_40 rfl rfl (by decide) rfl (Or.inl rfl) hF (fun x9 hx9 hF => ?_)
        refine x_sub [1, 2, 3, 0] rfl ?_
        exact WL_X12_alike_41 hC 100000  a1 ha1 a2 ha2 x9 (rg_01 hx9) m8 hm8 hF
      · refine x_iconst hC dX12_alike_32 rfl ?_
        exact x_ireturn hC dX12_alike_33 hm5 (rgc (-1) rfl) hF
set_option maxRecDepth 20000 in
set_option maxHeartbeats 4000000 in
theorem T_X12_seed (b : Bs) (o : Mm) (m : Mm) (a1 : Int) (ha1 : inR a1) {r : Int} {m' : Mm} (h : F_X12_seed a1 m = some (r, m')) : Cn yX12_seed cX12_seed 2 (some .boolean) (1) 0 0 3 b (false, o) m [.ref (b.1 + 54), iV a1] (F_X12_seed a1 m) := by
  refine Cn_of rfl (Nat.le_of_ble_eq_true rfl) (fun g hC hm => ?_)
  have hF := okR_some h
  generalize hQ : (fun (r : Int) (m' : Mm) => F_X12_seed a1 m = some (r, m')) = Q at hF ⊢
  clear hQ h
  replace hC : Cok g b RX12 cX12_seed 2 1 (some .boolean) := hC
  refine x_lv (lv' := [(0, .ref (b.1 + 54)), (1, iV a1)]) rfl ?_
  unfold F_X12_seed at hF
  refine x_iload_n hC dX12_seed_0 rfl 1 rfl ?_
  refine x_i2l hC dX12_seed_1 rfl ha1 ?_
  refine x_lconst (x := 0) hC dX12_seed_2 rfl rfl ?_
  refine x_ldc2 (x := 65535) hC dX12_seed_3 rfl kwX12_488 ?_
  refine x_callS3 (kc2 := 0) (ks2 := 0) (As := [lV a1, lV 0, lV 65535]) (rest := []) hC dX12_seed_6 rfl hm (fun _ _ h => T_X12_lies b _ m a1 (rg_RL ha1) 0 (rgcL 0 rfl) 65535 (rgcL 65535 rfl) h) mlX12_147 vsX12_lies rfl rfl (Nat.le_of_ble_eq_true rfl) (by decide) (by decide) rfl rfl hF (fun r1 m2 hr1 hm2 hF => ?_)
  refine x_if_ne (tgt := 14) hC dX12_seed_9 rfl rfl (rg_01 hr1) hF (fun hq3 hF => ?_) (fun hq3 hF => ?_)
  · refine x_aload_n hC dX12_seed_14 rfl 0 rfl ?_
    refine x_iload_n hC dX12_seed_15 rfl 1 rfl ?_
    refine x_putI hC dX12_seed_16 rfl fpX12_20 rfl (by decide) (by decide) rfl rfl hm2 ha1 rfl hF (fun m4 hm4 hF => ?_)
    refine x_iconst hC dX12_seed_19 rfl ?_
    exact x_zreturn hC dX12_seed_20 hm4 (Or.inr rfl) hF
  · refine x_iconst hC dX12_seed_12 rfl ?_
    exact x_zreturn hC dX12_seed_13 hm2 (Or.inl rfl) hF
set_option maxRecDepth 20000 in
set_option maxHeartbeats 4000000 in
theorem WJ_X12_draw_147 {g : Gx} {b : Bs} {o : Mm} {Q : Int → Mm → Prop} {k_44 : Int → Int → Int → Int → Mm → Rs} (hC : Cok g b RX12 cX12_draw 7 3 (some .int)) (hk_44 : ∀ v1 : Int, inR v1 → ∀ v2 : Int, inR v2 → ∀ v3 : Int, inR v3 → ∀ v4 : Int, inR v4 → ∀ m : Mm, Rg m → okR (k_44 v1 v2 v3 v4 m) Q → X g b (false, o) 7 (ZM g b (false, o) 1 Q) 44 [(0, .ref (b.1 + 54)), (1, iV v1), (2, iV v2), (3, iV v3), (4, iV v4)] [] m 0 0) (v1 : Int) (hv1 : inR v1) (v2 : Int) (hv2 : inR v2) (v3 : Int) (hv3 : inR v3) (v4 : Int) (hv4 : inR v4) (m : Mm) (hm : Rg m) (hF : okR (J_X12_draw_147 k_44 v1 v2 v3 v4 m) Q) : X g b (false, o) 7 (ZM g b (false, o) 1 Q) 147 [(0, .ref (b.1 + 54)), (1, iV v1), (2, iV v2), (3, iV v3), (4, iV v4)] [] m 0 0 := by
  unfold J_X12_draw_147 at hF
  refine x_iinc (p := 4) (lv' := [(0, .ref (b.1 + 54)), (1, iV v1), (2, iV v2), (3, iV v3)]) hC dX12_draw_147 rfl rfl (by decide) rfl hF (fun x1 hx1 hF => ?_)
  refine x_goto (tgt := 44) hC dX12_draw_150 rfl ?_
  refine x_sub [1, 2, 3, 4, 0] rfl ?_
  exact hk_44 v1 hv1 v2 hv2 v3 hv3 x1 hx1 m hm hF
set_option maxRecDepth 20000 in
set_option maxHeartbeats 4000000 in
theorem WL_X12_draw_44 {g : Gx} {b : Bs} {o : Mm} {Q : Int → Mm → Prop} (hC : Cok g b RX12 cX12_draw 7 3 (some .int)) : ∀ n : Nat, ∀ v1 : Int, inR v1 → ∀ v2 : Int, inR v2 → ∀ v3 : Int, inR v3 → ∀ v4 : Int, inR v4 → ∀ m : Mm, Rg m → okR (L_X12_draw_44 n v1 v2 v3 v4 m) Q → X g b (false, o) 7 (ZM g b (false, o) 1 Q) 44 [(0, .ref (b.1 + 54)), (1, iV v1), (2, iV v2), (3, iV v3), (4, iV v4)] [] m 0 0 := by
  intro n
  induction n with
  | zero => intro v1 hv1 v2 hv2 v3 hv3 v4 hv4 m hm hF; exact absurd hF (fun z => z)
  | succ n ih =>
    intro v1 hv1 v2 hv2 v3 hv3 v4 hv4 m hm hF
    have hF : okR (LB_X12_draw_44 (L_X12_draw_44 n) v1 v2 v3 v4 m) Q := hF
    unfold LB_X12_draw_44 at hF
    refine x_iload hC dX12_draw_44 rfl 4 rfl ?_
    refine x_iload_n hC dX12_draw_46 rfl 1 rfl ?_
    refine x_icmp_ge (tgt := 153) hC dX12_draw_47 rfl rfl hv4 hv1 hF (fun hq1 hF => ?_) (fun hq1 hF => ?_)
    · refine x_iload_n hC dX12_draw_153 rfl 3 rfl ?_
      exact x_ireturn hC dX12_draw_154 hm hv3 hF
    · refine x_aload_n hC dX12_draw_50 rfl 0 rfl ?_
      refine x_sipush hC dX12_draw_51 rfl rfl ?_
      refine x_aload_n hC dX12_draw_54 rfl 0 rfl ?_
      refine x_getI hC dX12_draw_55 rfl flX12_20 rfl (by decide) rfl rfl ?_
      refine x_imul hC dX12_draw_58 rfl ?_
      refine x_sipush hC dX12_draw_59 rfl rfl ?_
      refine x_iadd hC dX12_draw_62 rfl ?_
      refine x_ldc_w (x := 65536) hC dX12_draw_63 rfl kwX12_490 ?_
      refine x_irem hC dX12_draw_66 rfl (rg_wr _) (rgc 65536 rfl) hF (fun hz2 hF => ?_)
      refine x_putI hC dX12_draw_67 rfl fpX12_20 rfl (by decide) (by decide) rfl rfl hm (rg_wr _) rfl hF (fun m3 hm3 hF => ?_)
      refine x_aload_n hC dX12_draw_70 rfl 0 rfl ?_
      refine x_getI hC dX12_draw_71 rfl flX12_20 rfl (by decide) rfl rfl ?_
      refine x_bipush hC dX12_draw_74 rfl rfl ?_
      refine x_irem hC dX12_draw_76 rfl (hm3.i 54 6 rfl) (rgc 8 rfl) hF (fun hz4 hF => ?_)
      refine x_istore (lv' := [(0, .ref (b.1 + 54)), (1, iV v1), (2, iV v2), (3, iV v3), (4, iV v4)]) hC dX12_draw_77 rfl (by decide) rfl (rg_wr _) hF (fun x5 hx5 hF => ?_)
      refine x_aload_n hC dX12_draw_79 rfl 1 rfl ?_
      refine x_iload hC dX12_draw_80 rfl 0 rfl ?_
      refine x_callV3 (kc2 := 0) (ks2 := 0) (k := 54) (As := [iV x5]) (rest := []) hC dX12_draw_82 rfl hm3 (fun _ _ h => T_X12_isMouth b _ m3 x5 hx5 h) mlX12_322 vlX12_isMouth rfl (by decide) rfl rfl (Nat.le_of_ble_eq_true rfl) (by decide) (by decide) rfl rfl hF (fun r6 m7 hr6 hm7 hF => ?_)
      refine x_if_eq (tgt := 147) hC dX12_draw_85 rfl rfl (rg_01 hr6) hF (fun hq8 hF => ?_) (fun hq8 hF => ?_)
      · refine x_sub [1, 2, 3, 4, 5] rfl ?_
        exact WJ_X12_draw_147 hC ih  v1 hv1 v2 hv2 v3 hv3 v4 hv4 m7 hm7 hF
      · refine x_aload_n hC dX12_draw_88 rfl 1 rfl ?_
        refine x_getI hC dX12_draw_89 rfl flX12_20 rfl (by decide) rfl rfl ?_
        refine x_bipush hC dX12_draw_92 rfl rfl ?_
        refine x_idiv hC dX12_draw_94 rfl (hm7.i 54 6 rfl) (rgc 8 rfl) hF (fun hz9 hF => ?_)
        refine x_sipush hC dX12_draw_95 rfl rfl ?_
        refine x_irem hC dX12_draw_98 rfl (rg_wr _) (rgc 1000 rfl) hF (fun hz10 hF => ?_)
        refine x_aload_n hC dX12_draw_99 rfl 1 rfl ?_
        refine x_getR (t := 58) hC dX12_draw_100 rfl flX12_30 rfl (by decide) rfl rfl ?_
        refine x_iload hC dX12_draw_103 rfl 0 rfl ?_
        refine x_iald hC dX12_draw_105 rfl rfl (by decide) rfl hm7 hx5 hF (fun x11 hx11 hF => ?_)
        refine x_icmp_ge (tgt := 147) hC dX12_draw_106 rfl rfl (rg_wr _) hx11 hF (fun hq12 hF => ?_) (fun hq12 hF => ?_)
        · refine x_sub [1, 2, 3, 4, 5] rfl ?_
          exact WJ_X12_draw_147 hC ih  v1 hv1 v2 hv2 v3 hv3 v4 hv4 m7 hm7 hF
        · refine x_iload_n hC dX12_draw_109 rfl 3 rfl ?_
          refine x_iload hC dX12_draw_110 rfl 5 rfl ?_
          refine x_iadd hC dX12_draw_112 rfl ?_
          refine x_sipush hC dX12_draw_113 rfl rfl ?_
          refine x_icmp_gt (tgt := 147) hC dX12_draw_116 rfl rfl (rg_wr _) (rgc 9999 rfl) hF (fun hq13 hF => ?_) (fun hq13 hF => ?_)
          · refine x_sub [1, 2, 3, 4, 5] rfl ?_
            exact WJ_X12_draw_147 hC ih  v1 hv1 v2 hv2 v3 hv3 v4 hv4 m7 hm7 hF
          · refine x_aload_n hC dX12_draw_119 rfl 1 rfl ?_
            refine x_getI hC dX12_draw_120 rfl flX12_332 rfl (by decide) rfl rfl ?_
            refine x_sipush hC dX12_draw_123 rfl rfl ?_
            refine x_icmp_ne (tgt := 132) hC dX12_draw_126 rfl rfl (hm7.i 54 5 rfl) (rgc 150 rfl) hF (fun hq14 hF => ?_) (fun hq14 hF => ?_)
            · refine x_aload_n hC dX12_draw_132 rfl 1 rfl ?_
              refine x_iload hC dX12_draw_133 rfl 0 rfl ?_
              refine x_iload_n hC dX12_draw_135 rfl 3 rfl ?_
              refine x_iload hC dX12_draw_136 rfl 5 rfl ?_
              refine x_iadd hC dX12_draw_138 rfl ?_
              refine x_callV1 (kc2 := 0) (ks2 := 0) (k := 54) (As := [iV x5, iV (wr (v2 + v4))]) (rest := []) hC dX12_draw_139 rfl hm7 (fun _ _ h => T_X12_say b _ m7 x5 hx5 (wr (v2 + v4)) (rg_wr _) h) mlX12_491 vlX12_say rfl (by decide) rfl rfl (Nat.le_of_ble_eq_true rfl) (by decide) (by decide) rfl rfl hF (fun r15 m16 hr15 hm16 hF => ?_)
              refine x_istore (lv' := [(5, iV x5), (0, .ref (b.1 + 54)), (1, iV v1), (2, iV v2), (3, iV v3), (4, iV v4)]) hC dX12_draw_142 rfl (by decide) rfl hr15 hF (fun x17 hx17 hF => ?_)
              refine x_iinc (p := 5) (lv' := [(6, iV x17), (5, iV x5), (0, .ref (b.1 + 54)), (1, iV v1), (2, iV v2), (4, iV v4)]) hC dX12_draw_144 rfl rfl (by decide) rfl hF (fun x18 hx18 hF => ?_)
              refine x_sub [3, 4, 5, 0, 6] rfl ?_
              exact WJ_X12_draw_147 hC ih  v1 hv1 v2 hv2 x18 hx18 v4 hv4 m16 hm16 hF
            · refine x_goto (tgt := 147) hC dX12_draw_129 rfl ?_
              refine x_sub [1, 2, 3, 4, 5] rfl ?_
              exact WJ_X12_draw_147 hC ih  v1 hv1 v2 hv2 v3 hv3 v4 hv4 m7 hm7 hF
set_option maxRecDepth 20000 in
set_option maxHeartbeats 4000000 in
theorem WJ_X12_draw_39 {g : Gx} {b : Bs} {o : Mm} {Q : Int → Mm → Prop} (hC : Cok g b RX12 cX12_draw 7 3 (some .int)) (v1 : Int) (hv1 : inR v1) (v2 : Int) (hv2 : inR v2) (m : Mm) (hm : Rg m) (hF : okR (J_X12_draw_39 v1 v2 m) Q) : X g b (false, o) 7 (ZM g b (false, o) 1 Q) 39 [(0, .ref (b.1 + 54)), (1, iV v1), (2, iV v2)] [] m 0 0 := by
  unfold J_X12_draw_39 at hF
  refine x_iconst hC dX12_draw_39 rfl ?_
  refine x_istore_nZ (lv' := [(0, .ref (b.1 + 54)), (1, iV v1), (2, iV v2)]) hC dX12_draw_40 rfl rfl (by decide) rfl (Or.inl rfl) hF (fun x1 hx1 hF => ?_)
  refine x_iconst hC dX12_draw_41 rfl ?_
  refine x_istoreZ (lv' := [(3, iV x1), (0, .ref (b.1 + 54)), (1, iV v1), (2, iV v2)]) hC dX12_draw_42 rfl (by decide) rfl (Or.inl rfl) hF (fun x2 hx2 hF => ?_)
  refine x_sub [2, 3, 4, 1, 0] rfl ?_
  exact WL_X12_draw_44 hC 100000  v1 hv1 v2 hv2 x1 (rg_01 hx1) x2 (rg_01 hx2) m hm hF
set_option maxRecDepth 20000 in
set_option maxHeartbeats 4000000 in
theorem T_X12_draw (b : Bs) (o : Mm) (m : Mm) (a1 : Int) (ha1 : inR a1) {r : Int} {m' : Mm} (h : F_X12_draw a1 m = some (r, m')) : Cn yX12_draw cX12_draw 7 (some .int) (3) 0 0 1 b (false, o) m [.ref (b.1 + 54), iV a1] (F_X12_draw a1 m) := by
  refine Cn_of rfl (Nat.le_of_ble_eq_true rfl) (fun g hC hm => ?_)
  have hF := okR_some h
  generalize hQ : (fun (r : Int) (m' : Mm) => F_X12_draw a1 m = some (r, m')) = Q at hF ⊢
  clear hQ h
  replace hC : Cok g b RX12 cX12_draw 7 3 (some .int) := hC
  refine x_lv (lv' := [(0, .ref (b.1 + 54)), (1, iV a1)]) rfl ?_
  unfold F_X12_draw at hF
  refine x_iload_n hC dX12_draw_0 rfl 1 rfl ?_
  refine x_i2l hC dX12_draw_1 rfl ha1 ?_
  refine x_lconst (x := 1) hC dX12_draw_2 rfl rfl ?_
  refine x_ldc2 (x := 200) hC dX12_draw_3 rfl kwX12_157 ?_
  refine x_callS3 (kc2 := 0) (ks2 := 0) (As := [lV a1, lV 1, lV 200]) (rest := []) hC dX12_draw_6 rfl hm (fun _ _ h => T_X12_lies b _ m a1 (rg_RL ha1) 1 (rgcL 1 rfl) 200 (rgcL 200 rfl) h) mlX12_147 vsX12_lies rfl rfl (Nat.le_of_ble_eq_true rfl) (by decide) (by decide) rfl rfl hF (fun r1 m2 hr1 hm2 hF => ?_)
  refine x_if_ne (tgt := 14) hC dX12_draw_9 rfl rfl (rg_01 hr1) hF (fun hq3 hF => ?_) (fun hq3 hF => ?_)
  · refine x_aload_n hC dX12_draw_14 rfl 0 rfl ?_
    refine x_getI hC dX12_draw_15 rfl flX12_332 rfl (by decide) rfl rfl ?_
    refine x_if_ne (tgt := 25) hC dX12_draw_18 rfl rfl (hm2.i 54 5 rfl) hF (fun hq4 hF => ?_) (fun hq4 hF => ?_)
    · refine x_aload_n hC dX12_draw_25 rfl 0 rfl ?_
      refine x_getR (t := 62) hC dX12_draw_26 rfl flX12_42 rfl (by decide) rfl rfl ?_
      refine x_aload_n hC dX12_draw_29 rfl 0 rfl ?_
      refine x_getI hC dX12_draw_30 rfl flX12_332 rfl (by decide) rfl rfl ?_
      refine x_iconst hC dX12_draw_33 rfl ?_
      refine x_isub hC dX12_draw_34 rfl ?_
      refine x_iald hC dX12_draw_35 rfl rfl (by decide) rfl hm2 (rg_wr _) hF (fun x5 hx5 hF => ?_)
      refine x_iconst hC dX12_draw_36 rfl ?_
      refine x_iadd hC dX12_draw_37 rfl ?_
      refine x_istore_n (lv' := [(0, .ref (b.1 + 54)), (1, iV a1)]) hC dX12_draw_38 rfl rfl (by decide) rfl (rg_wr _) hF (fun x6 hx6 hF => ?_)
      refine x_sub [1, 2, 0] rfl ?_
      exact WJ_X12_draw_39 hC  a1 ha1 x6 hx6 m2 hm2 hF
    · refine x_iconst hC dX12_draw_21 rfl ?_
      refine x_goto (tgt := 38) hC dX12_draw_22 rfl ?_
      refine x_istore_nZ (lv' := [(0, .ref (b.1 + 54)), (1, iV a1)]) hC dX12_draw_38 rfl rfl (by decide) rfl (Or.inl rfl) hF (fun x7 hx7 hF => ?_)
      refine x_sub [1, 2, 0] rfl ?_
      exact WJ_X12_draw_39 hC  a1 ha1 x7 (rg_01 hx7) m2 hm2 hF
  · refine x_iconst hC dX12_draw_12 rfl ?_
    exact x_ireturn hC dX12_draw_13 hm2 (rgc (-1) rfl) hF
set_option maxRecDepth 20000 in
set_option maxHeartbeats 4000000 in
theorem WL_X12_keep_23 {g : Gx} {b : Bs} {o : Mm} {Q : Int → Mm → Prop} (hC : Cok g b RX12 cX12_keep 2 0 (some .int)) : ∀ n : Nat, ∀ v1 : Int, inR v1 → ∀ m : Mm, Rg m → okR (L_X12_keep_23 n v1 m) Q → X g b (false, o) 2 (ZM g b (false, o) 1 Q) 23 [(0, .ref (b.1 + 54)), (1, iV v1)] [] m 0 0 := by
  intro n
  induction n with
  | zero => intro v1 hv1 m hm hF; exact absurd hF (fun z => z)
  | succ n ih =>
    intro v1 hv1 m hm hF
    have hF : okR (LB_X12_keep_23 (L_X12_keep_23 n) v1 m) Q := hF
    unfold LB_X12_keep_23 at hF
    refine x_iload_n hC dX12_keep_23 rfl 1 rfl ?_
    refine x_sipush hC dX12_keep_24 rfl rfl ?_
    refine x_icmp_ge (tgt := 60) hC dX12_keep_27 rfl rfl hv1 (rgc 150 rfl) hF (fun hq1 hF => ?_) (fun hq1 hF => ?_)
    · refine x_aload_n hC dX12_keep_60 rfl 0 rfl ?_
      refine x_getI hC dX12_keep_61 rfl flX12_332 rfl (by decide) rfl rfl ?_
      exact x_ireturn hC dX12_keep_64 hm (hm.i 54 5 rfl) hF
    · refine x_aload_n hC dX12_keep_30 rfl 0 rfl ?_
      refine x_getR (t := 93) hC dX12_keep_31 rfl flX12_138 rfl (by decide) rfl rfl ?_
      refine x_iload_n hC dX12_keep_34 rfl 1 rfl ?_
      refine x_aload_n hC dX12_keep_35 rfl 0 rfl ?_
      refine x_getR (t := 61) hC dX12_keep_36 rfl flX12_39 rfl (by decide) rfl rfl ?_
      refine x_iload_n hC dX12_keep_39 rfl 1 rfl ?_
      refine x_iald hC dX12_keep_40 rfl rfl (by decide) rfl hm hv1 hF (fun x2 hx2 hF => ?_)
      refine x_iast hC dX12_keep_41 rfl rfl (by decide) rfl hm hv1 hx2 hF (fun m3 hm3 hF => ?_)
      refine x_aload_n hC dX12_keep_42 rfl 0 rfl ?_
      refine x_getR (t := 94) hC dX12_keep_43 rfl flX12_141 rfl (by decide) rfl rfl ?_
      refine x_iload_n hC dX12_keep_46 rfl 1 rfl ?_
      refine x_aload_n hC dX12_keep_47 rfl 0 rfl ?_
      refine x_getR (t := 62) hC dX12_keep_48 rfl flX12_42 rfl (by decide) rfl rfl ?_
      refine x_iload_n hC dX12_keep_51 rfl 1 rfl ?_
      refine x_iald hC dX12_keep_52 rfl rfl (by decide) rfl hm3 hv1 hF (fun x4 hx4 hF => ?_)
      refine x_iast hC dX12_keep_53 rfl rfl (by decide) rfl hm3 hv1 hx4 hF (fun m5 hm5 hF => ?_)
      refine x_iinc (p := 1) (lv' := [(0, .ref (b.1 + 54))]) hC dX12_keep_54 rfl rfl (by decide) rfl hF (fun x6 hx6 hF => ?_)
      refine x_goto (tgt := 23) hC dX12_keep_57 rfl ?_
      refine x_sub [1, 0] rfl ?_
      exact ih x6 hx6 m5 hm5 hF
set_option maxRecDepth 20000 in
set_option maxHeartbeats 4000000 in
theorem T_X12_keep (b : Bs) (o : Mm) (m : Mm) {r : Int} {m' : Mm} (h : F_X12_keep  m = some (r, m')) : Cn yX12_keep cX12_keep 2 (some .int) (0) 0 0 1 b (false, o) m [.ref (b.1 + 54)] (F_X12_keep  m) := by
  refine Cn_of rfl (Nat.le_of_ble_eq_true rfl) (fun g hC hm => ?_)
  have hF := okR_some h
  generalize hQ : (fun (r : Int) (m' : Mm) => F_X12_keep  m = some (r, m')) = Q at hF ⊢
  clear hQ h
  replace hC : Cok g b RX12 cX12_keep 2 0 (some .int) := hC
  refine x_lv (lv' := [(0, .ref (b.1 + 54))]) rfl ?_
  unfold F_X12_keep at hF
  refine x_aload_n hC dX12_keep_0 rfl 0 rfl ?_
  refine x_iconst hC dX12_keep_1 rfl ?_
  refine x_putZ hC dX12_keep_2 rfl fpX12_494 rfl (by decide) (by decide) rfl rfl hm (Or.inr rfl) rfl hF (fun m1 hm1 hF => ?_)
  refine x_aload_n hC dX12_keep_5 rfl 0 rfl ?_
  refine x_aload_n hC dX12_keep_6 rfl 0 rfl ?_
  refine x_getI hC dX12_keep_7 rfl flX12_332 rfl (by decide) rfl rfl ?_
  refine x_putI hC dX12_keep_10 rfl fpX12_497 rfl (by decide) (by decide) rfl rfl hm1 (hm1.i 54 5 rfl) rfl hF (fun m2 hm2 hF => ?_)
  refine x_aload_n hC dX12_keep_13 rfl 0 rfl ?_
  refine x_aload_n hC dX12_keep_14 rfl 0 rfl ?_
  refine x_getI hC dX12_keep_15 rfl flX12_20 rfl (by decide) rfl rfl ?_
  refine x_putI hC dX12_keep_18 rfl fpX12_500 rfl (by decide) (by decide) rfl rfl hm2 (hm2.i 54 6 rfl) rfl hF (fun m3 hm3 hF => ?_)
  refine x_iconst hC dX12_keep_21 rfl ?_
  refine x_istore_nZ (lv' := [(0, .ref (b.1 + 54))]) hC dX12_keep_22 rfl rfl (by decide) rfl (Or.inl rfl) hF (fun x4 hx4 hF => ?_)
  refine x_sub [1, 0] rfl ?_
  exact WL_X12_keep_23 hC 100000  x4 (rg_01 hx4) m3 hm3 hF

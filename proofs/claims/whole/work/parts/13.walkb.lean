set_option maxRecDepth 20000 in
set_option maxHeartbeats 4000000 in
theorem WJ_X1_dropDeadEnds_146 {g : Gx} {b : Bs} {o : Mm} {Q : Int → Mm → Prop} {k_38 : Int → Int → Mm → Rs} {k_61 : Int → Int → Int → Int → Mm → Rs} (hC : Cok g b RX1 cX1_dropDeadEnds 7 23 (some .int)) (hk_38 : ∀ v1 : Int, inR v1 → ∀ v2 : Int, inR v2 → ∀ m : Mm, Rg m → okR (k_38 v1 v2 m) Q → X g b (true, o) 7 (ZM g b (true, o) 1 Q) 38 [(0, .ref (b.1 + 43)), (1, iV v1), (2, iV v2)] [] m 0 0) (hk_61 : ∀ v1 : Int, inR v1 → ∀ v2 : Int, inR v2 → ∀ v3 : Int, inR v3 → ∀ v4 : Int, inR v4 → ∀ m : Mm, Rg m → okR (k_61 v1 v2 v3 v4 m) Q → X g b (true, o) 7 (ZM g b (true, o) 1 Q) 61 [(0, .ref (b.1 + 43)), (1, iV v1), (2, iV v2), (3, iV v3), (4, iV v4)] [] m 0 0) (v1 : Int) (hv1 : inR v1) (v2 : Int) (hv2 : inR v2) (v3 : Int) (hv3 : inR v3) (v4 : Int) (hv4 : inR v4) (m : Mm) (hm : Rg m) (hF : okR (J_X1_dropDeadEnds_146 k_38 k_61 v1 v2 v3 v4 m) Q) : X g b (true, o) 7 (ZM g b (true, o) 1 Q) 146 [(0, .ref (b.1 + 43)), (1, iV v1), (2, iV v2), (3, iV v3), (4, iV v4)] [] m 0 0 := by
  unfold J_X1_dropDeadEnds_146 at hF
  refine x_iinc (p := 4) (lv' := [(0, .ref (b.1 + 43)), (1, iV v1), (2, iV v2), (3, iV v3)]) hC dX1_dropDeadEnds_146 rfl rfl (by decide) rfl hF (fun x1 hx1 hF => ?_)
  refine x_goto (tgt := 61) hC dX1_dropDeadEnds_149 rfl ?_
  refine x_sub [1, 2, 3, 4, 0] rfl ?_
  exact hk_61 v1 hv1 v2 hv2 v3 hv3 x1 hx1 m hm hF
set_option maxRecDepth 20000 in
set_option maxHeartbeats 4000000 in
theorem WJ_X1_dropDeadEnds_132 {g : Gx} {b : Bs} {o : Mm} {Q : Int → Mm → Prop} {k_38 : Int → Int → Mm → Rs} {k_61 : Int → Int → Int → Int → Mm → Rs} (hC : Cok g b RX1 cX1_dropDeadEnds 7 23 (some .int)) (hk_38 : ∀ v1 : Int, inR v1 → ∀ v2 : Int, inR v2 → ∀ m : Mm, Rg m → okR (k_38 v1 v2 m) Q → X g b (true, o) 7 (ZM g b (true, o) 1 Q) 38 [(0, .ref (b.1 + 43)), (1, iV v1), (2, iV v2)] [] m 0 0) (hk_61 : ∀ v1 : Int, inR v1 → ∀ v2 : Int, inR v2 → ∀ v3 : Int, inR v3 → ∀ v4 : Int, inR v4 → ∀ m : Mm, Rg m → okR (k_61 v1 v2 v3 v4 m) Q → X g b (true, o) 7 (ZM g b (true, o) 1 Q) 61 [(0, .ref (b.1 + 43)), (1, iV v1), (2, iV v2), (3, iV v3), (4, iV v4)] [] m 0 0) (v1 : Int) (hv1 : inR v1) (v2 : Int) (hv2 : inR v2) (v3 : Int) (hv3 : inR v3) (v4 : Int) (hv4 : inR v4) (v5 : Int) (hv5 : inR v5) (v6 : Int) (hv6 : (v6 = 0 ∨ v6 = 1)) (m : Mm) (hm : Rg m) (hF : okR (J_X1_dropDeadEnds_132 k_38 k_61 v1 v2 v3 v4 v5 v6 m) Q) : X g b (true, o) 7 (ZM g b (true, o) 1 Q) 132 [(0, .ref (b.1 + 43)), (1, iV v1), (2, iV v2), (3, iV v3), (4, iV v4), (5, iV v5), (6, iV v6)] [] m 0 0 := by
  unfold J_X1_dropDeadEnds_132 at hF
  refine x_iload_n hC dX1_dropDeadEnds_132 rfl 3 rfl ?_
  refine x_iload hC dX1_dropDeadEnds_133 rfl 6 rfl ?_
  refine x_if_eq (tgt := 143) hC dX1_dropDeadEnds_135 rfl rfl (rg_01 hv6) hF (fun hq1 hF => ?_) (fun hq1 hF => ?_)
  · refine x_iconst hC dX1_dropDeadEnds_143 rfl ?_
    refine x_ior hC dX1_dropDeadEnds_144 rfl ?_
    refine x_istore_n (lv' := [(0, .ref (b.1 + 43)), (1, iV v1), (2, iV v2), (4, iV v4), (5, iV v5), (6, iV v6)]) hC dX1_dropDeadEnds_145 rfl rfl (by decide) rfl (rg_tI _) hF (fun x2 hx2 hF => ?_)
    refine x_sub [1, 2, 3, 0, 4] rfl ?_
    exact WJ_X1_dropDeadEnds_146 hC hk_38 hk_61  v1 hv1 v2 hv2 x2 hx2 v4 hv4 m hm hF
  · refine x_iload hC dX1_dropDeadEnds_138 rfl 5 rfl ?_
    refine x_goto (tgt := 144) hC dX1_dropDeadEnds_140 rfl ?_
    refine x_ior hC dX1_dropDeadEnds_144 rfl ?_
    refine x_istore_n (lv' := [(0, .ref (b.1 + 43)), (1, iV v1), (2, iV v2), (4, iV v4), (5, iV v5), (6, iV v6)]) hC dX1_dropDeadEnds_145 rfl rfl (by decide) rfl (rg_tI _) hF (fun x3 hx3 hF => ?_)
    refine x_sub [1, 2, 3, 0, 4] rfl ?_
    exact WJ_X1_dropDeadEnds_146 hC hk_38 hk_61  v1 hv1 v2 hv2 x3 hx3 v4 hv4 m hm hF
set_option maxRecDepth 20000 in
set_option maxHeartbeats 4000000 in
theorem WJ_X1_dropDeadEnds_129 {g : Gx} {b : Bs} {o : Mm} {Q : Int → Mm → Prop} {k_38 : Int → Int → Mm → Rs} {k_61 : Int → Int → Int → Int → Mm → Rs} (hC : Cok g b RX1 cX1_dropDeadEnds 7 23 (some .int)) (hk_38 : ∀ v1 : Int, inR v1 → ∀ v2 : Int, inR v2 → ∀ m : Mm, Rg m → okR (k_38 v1 v2 m) Q → X g b (true, o) 7 (ZM g b (true, o) 1 Q) 38 [(0, .ref (b.1 + 43)), (1, iV v1), (2, iV v2)] [] m 0 0) (hk_61 : ∀ v1 : Int, inR v1 → ∀ v2 : Int, inR v2 → ∀ v3 : Int, inR v3 → ∀ v4 : Int, inR v4 → ∀ m : Mm, Rg m → okR (k_61 v1 v2 v3 v4 m) Q → X g b (true, o) 7 (ZM g b (true, o) 1 Q) 61 [(0, .ref (b.1 + 43)), (1, iV v1), (2, iV v2), (3, iV v3), (4, iV v4)] [] m 0 0) (v1 : Int) (hv1 : inR v1) (v2 : Int) (hv2 : inR v2) (v3 : Int) (hv3 : inR v3) (v4 : Int) (hv4 : inR v4) (v5 : Int) (hv5 : inR v5) (m : Mm) (hm : Rg m) (hF : okR (J_X1_dropDeadEnds_129 k_38 k_61 v1 v2 v3 v4 v5 m) Q) : X g b (true, o) 7 (ZM g b (true, o) 1 Q) 129 [(0, .ref (b.1 + 43)), (1, iV v1), (2, iV v2), (3, iV v3), (4, iV v4), (5, iV v5)] [] m 0 0 := by
  unfold J_X1_dropDeadEnds_129 at hF
  refine x_iconst hC dX1_dropDeadEnds_129 rfl ?_
  refine x_istoreZ (lv' := [(0, .ref (b.1 + 43)), (1, iV v1), (2, iV v2), (3, iV v3), (4, iV v4), (5, iV v5)]) hC dX1_dropDeadEnds_130 rfl (by decide) rfl (Or.inl rfl) hF (fun x1 hx1 hF => ?_)
  refine x_sub [1, 2, 3, 4, 5, 6, 0] rfl ?_
  exact WJ_X1_dropDeadEnds_132 hC hk_38 hk_61  v1 hv1 v2 hv2 v3 hv3 v4 hv4 v5 hv5 x1 hx1 m hm hF
set_option maxRecDepth 20000 in
set_option maxHeartbeats 4000000 in
theorem WL_X1_dropDeadEnds_61 {g : Gx} {b : Bs} {o : Mm} {Q : Int → Mm → Prop} {k_38 : Int → Int → Mm → Rs} (hC : Cok g b RX1 cX1_dropDeadEnds 7 23 (some .int)) (hk_38 : ∀ v1 : Int, inR v1 → ∀ v2 : Int, inR v2 → ∀ m : Mm, Rg m → okR (k_38 v1 v2 m) Q → X g b (true, o) 7 (ZM g b (true, o) 1 Q) 38 [(0, .ref (b.1 + 43)), (1, iV v1), (2, iV v2)] [] m 0 0) : ∀ n : Nat, ∀ v1 : Int, inR v1 → ∀ v2 : Int, inR v2 → ∀ v3 : Int, inR v3 → ∀ v4 : Int, inR v4 → ∀ m : Mm, Rg m → okR (L_X1_dropDeadEnds_61 k_38 n v1 v2 v3 v4 m) Q → X g b (true, o) 7 (ZM g b (true, o) 1 Q) 61 [(0, .ref (b.1 + 43)), (1, iV v1), (2, iV v2), (3, iV v3), (4, iV v4)] [] m 0 0 := by
  intro n
  induction n with
  | zero => intro v1 hv1 v2 hv2 v3 hv3 v4 hv4 m hm hF; exact absurd hF (fun z => z)
  | succ n ih =>
    intro v1 hv1 v2 hv2 v3 hv3 v4 hv4 m hm hF
    have hF : okR (LB_X1_dropDeadEnds_61 k_38 (L_X1_dropDeadEnds_61 k_38 n) v1 v2 v3 v4 m) Q := hF
    unfold LB_X1_dropDeadEnds_61 at hF
    refine x_iload hC dX1_dropDeadEnds_61 rfl 4 rfl ?_
    refine x_bipush hC dX1_dropDeadEnds_63 rfl rfl ?_
    refine x_icmp_ge (tgt := 152) hC dX1_dropDeadEnds_65 rfl rfl hv4 (rgc 21 rfl) hF (fun hq1 hF => ?_) (fun hq1 hF => ?_)
    · refine x_aload_n hC dX1_dropDeadEnds_152 rfl 0 rfl ?_
      refine x_getR (t := 50) hC dX1_dropDeadEnds_153 rfl flX1_31 rfl (by decide) rfl rfl ?_
      refine x_iload_n hC dX1_dropDeadEnds_156 rfl 2 rfl ?_
      refine x_iconst hC dX1_dropDeadEnds_157 rfl ?_
      refine x_isub hC dX1_dropDeadEnds_158 rfl ?_
      refine x_iload_n hC dX1_dropDeadEnds_159 rfl 3 rfl ?_
      refine x_iast hC dX1_dropDeadEnds_160 rfl rfl (by decide) rfl hm (rg_wr _) hv3 hF (fun m2 hm2 hF => ?_)
      refine x_iinc (p := 2) (lv' := [(0, .ref (b.1 + 43)), (1, iV v1), (3, iV v3), (4, iV v4)]) hC dX1_dropDeadEnds_161 rfl rfl (by decide) rfl hF (fun x3 hx3 hF => ?_)
      refine x_goto (tgt := 38) hC dX1_dropDeadEnds_164 rfl ?_
      refine x_sub [1, 2, 0] rfl ?_
      exact hk_38 v1 hv1 x3 hx3 m2 hm2 hF
    · refine x_aload_n hC dX1_dropDeadEnds_68 rfl 0 rfl ?_
      refine x_getR (t := 50) hC dX1_dropDeadEnds_69 rfl flX1_31 rfl (by decide) rfl rfl ?_
      refine x_iload_n hC dX1_dropDeadEnds_72 rfl 2 rfl ?_
      refine x_iconst hC dX1_dropDeadEnds_73 rfl ?_
      refine x_isub hC dX1_dropDeadEnds_74 rfl ?_
      refine x_iald hC dX1_dropDeadEnds_75 rfl rfl (by decide) rfl hm (rg_wr _) hF (fun x4 hx4 hF => ?_)
      refine x_iconst hC dX1_dropDeadEnds_76 rfl ?_
      refine x_iload hC dX1_dropDeadEnds_77 rfl 4 rfl ?_
      refine x_ishl hC dX1_dropDeadEnds_79 rfl ?_
      refine x_iand hC dX1_dropDeadEnds_80 rfl ?_
      refine x_istore (lv' := [(0, .ref (b.1 + 43)), (1, iV v1), (2, iV v2), (3, iV v3), (4, iV v4)]) hC dX1_dropDeadEnds_81 rfl (by decide) rfl (rg_tI _) hF (fun x5 hx5 hF => ?_)
      refine x_iload hC dX1_dropDeadEnds_83 rfl 0 rfl ?_
      refine x_if_eq (tgt := 129) hC dX1_dropDeadEnds_85 rfl rfl hx5 hF (fun hq6 hF => ?_) (fun hq6 hF => ?_)
      · refine x_sub [1, 2, 3, 4, 5, 0] rfl ?_
        exact WJ_X1_dropDeadEnds_129 hC hk_38 ih  v1 hv1 v2 hv2 v3 hv3 v4 hv4 x5 hx5 m hm hF
      · refine x_aload_n hC dX1_dropDeadEnds_88 rfl 1 rfl ?_
        refine x_iload hC dX1_dropDeadEnds_89 rfl 0 rfl ?_
        refine x_iload_n hC dX1_dropDeadEnds_91 rfl 2 rfl ?_
        refine x_aload_n hC dX1_dropDeadEnds_92 rfl 1 rfl ?_
        refine x_getR (t := 48) hC dX1_dropDeadEnds_93 rfl flX1_25 rfl (by decide) rfl rfl ?_
        refine x_iload_n hC dX1_dropDeadEnds_96 rfl 3 rfl ?_
        refine x_iconst hC dX1_dropDeadEnds_97 rfl ?_
        refine x_isub hC dX1_dropDeadEnds_98 rfl ?_
        refine x_iald hC dX1_dropDeadEnds_99 rfl rfl (by decide) rfl hm (rg_wr _) hF (fun x7 hx7 hF => ?_)
        refine x_aload_n hC dX1_dropDeadEnds_100 rfl 1 rfl ?_
        refine x_getR (t := 48) hC dX1_dropDeadEnds_101 rfl flX1_25 rfl (by decide) rfl rfl ?_
        refine x_iload_n hC dX1_dropDeadEnds_104 rfl 3 rfl ?_
        refine x_iald hC dX1_dropDeadEnds_105 rfl rfl (by decide) rfl hm hv2 hF (fun x8 hx8 hF => ?_)
        refine x_aload_n hC dX1_dropDeadEnds_106 rfl 1 rfl ?_
        refine x_getI hC dX1_dropDeadEnds_107 rfl flX1_53 rfl (by decide) rfl rfl ?_
        refine x_iload_n hC dX1_dropDeadEnds_110 rfl 3 rfl ?_
        refine x_isub hC dX1_dropDeadEnds_111 rfl ?_
        refine x_callV1 (kc2 := 0) (ks2 := 0) (k := 43) (As := [iV x5, iV v1, iV x7, iV x8, iV (wr ((m 43 12) - v2))]) (rest := []) hC dX1_dropDeadEnds_112 rfl hm (fun _ _ h => T_X1_losslessGaps b _ m x5 hx5 v1 hv1 x7 hx7 x8 hx8 (wr ((m 43 12) - v2)) (rg_wr _) h) mlX1_110 vlX1_losslessGaps rfl (by decide) rfl rfl (Nat.le_of_ble_eq_true rfl) (by decide) (by decide) rfl rfl hF (fun r9 m10 hr9 hm10 hF => ?_)
        refine x_aload_n hC dX1_dropDeadEnds_115 rfl 1 rfl ?_
        refine x_getR (t := 50) hC dX1_dropDeadEnds_116 rfl flX1_31 rfl (by decide) rfl rfl ?_
        refine x_iload_n hC dX1_dropDeadEnds_119 rfl 3 rfl ?_
        refine x_iald hC dX1_dropDeadEnds_120 rfl rfl (by decide) rfl hm10 hv2 hF (fun x11 hx11 hF => ?_)
        refine x_iand hC dX1_dropDeadEnds_121 rfl ?_
        refine x_if_eq (tgt := 129) hC dX1_dropDeadEnds_122 rfl rfl (rg_tI _) hF (fun hq12 hF => ?_) (fun hq12 hF => ?_)
        · refine x_sub [1, 2, 3, 4, 5, 0] rfl ?_
          exact WJ_X1_dropDeadEnds_129 hC hk_38 ih  v1 hv1 v2 hv2 v3 hv3 v4 hv4 x5 hx5 m10 hm10 hF
        · refine x_iconst hC dX1_dropDeadEnds_125 rfl ?_
          refine x_goto (tgt := 130) hC dX1_dropDeadEnds_126 rfl ?_
          refine x_istoreZ (lv' := [(5, iV x5), (0, .ref (b.1 + 43)), (1, iV v1), (2, iV v2), (3, iV v3), (4, iV v4)]) hC dX1_dropDeadEnds_130 rfl (by decide) rfl (Or.inr rfl) hF (fun x13 hx13 hF => ?_)
          refine x_sub [2, 3, 4, 5, 6, 1, 0] rfl ?_
          exact WJ_X1_dropDeadEnds_132 hC hk_38 ih  v1 hv1 v2 hv2 v3 hv3 v4 hv4 x5 hx5 x13 hx13 m10 hm10 hF
set_option maxRecDepth 20000 in
set_option maxHeartbeats 4000000 in
theorem WL_X1_dropDeadEnds_38 {g : Gx} {b : Bs} {o : Mm} {Q : Int → Mm → Prop} (hC : Cok g b RX1 cX1_dropDeadEnds 7 23 (some .int)) : ∀ n : Nat, ∀ v1 : Int, inR v1 → ∀ v2 : Int, inR v2 → ∀ m : Mm, Rg m → okR (L_X1_dropDeadEnds_38 n v1 v2 m) Q → X g b (true, o) 7 (ZM g b (true, o) 1 Q) 38 [(0, .ref (b.1 + 43)), (1, iV v1), (2, iV v2)] [] m 0 0 := by
  intro n
  induction n with
  | zero => intro v1 hv1 v2 hv2 m hm hF; exact absurd hF (fun z => z)
  | succ n ih =>
    intro v1 hv1 v2 hv2 m hm hF
    have hF : okR (LB_X1_dropDeadEnds_38 (L_X1_dropDeadEnds_38 n) v1 v2 m) Q := hF
    unfold LB_X1_dropDeadEnds_38 at hF
    refine x_iload_n hC dX1_dropDeadEnds_38 rfl 2 rfl ?_
    refine x_iconst hC dX1_dropDeadEnds_39 rfl ?_
    refine x_icmp_lt (tgt := 167) hC dX1_dropDeadEnds_40 rfl rfl hv2 (rgc 1 rfl) hF (fun hq1 hF => ?_) (fun hq1 hF => ?_)
    · refine x_iload_n hC dX1_dropDeadEnds_167 rfl 1 rfl ?_
      exact x_ireturn hC dX1_dropDeadEnds_168 hm hv1 hF
    · refine x_iload_n hC dX1_dropDeadEnds_43 rfl 1 rfl ?_
      refine x_one hC dX1_dropDeadEnds_44 rfl kone_X1 ?_
      refine x_aload_n hC dX1_dropDeadEnds_47 rfl 0 rfl ?_
      refine x_getR (t := 48) hC dX1_dropDeadEnds_48 rfl flX1_25 rfl (by decide) rfl rfl ?_
      refine x_iload_n hC dX1_dropDeadEnds_51 rfl 2 rfl ?_
      refine x_iald hC dX1_dropDeadEnds_52 rfl rfl (by decide) rfl hm hv2 hF (fun x2 hx2 hF => ?_)
      refine x_oneld hC dX1_dropDeadEnds_53 rfl hx2 hF (fun x3 hx3 hF => ?_)
      refine x_isub hC dX1_dropDeadEnds_54 rfl ?_
      refine x_istore_n (lv' := [(0, .ref (b.1 + 43)), (2, iV v2)]) hC dX1_dropDeadEnds_55 rfl rfl (by decide) rfl (rg_wr _) hF (fun x4 hx4 hF => ?_)
      refine x_iconst hC dX1_dropDeadEnds_56 rfl ?_
      refine x_istore_nZ (lv' := [(1, iV x4), (0, .ref (b.1 + 43)), (2, iV v2)]) hC dX1_dropDeadEnds_57 rfl rfl (by decide) rfl (Or.inl rfl) hF (fun x5 hx5 hF => ?_)
      refine x_iconst hC dX1_dropDeadEnds_58 rfl ?_
      refine x_istoreZ (lv' := [(3, iV x5), (1, iV x4), (0, .ref (b.1 + 43)), (2, iV v2)]) hC dX1_dropDeadEnds_59 rfl (by decide) rfl (Or.inl rfl) hF (fun x6 hx6 hF => ?_)
      refine x_sub [3, 2, 4, 1, 0] rfl ?_
      exact WL_X1_dropDeadEnds_61 hC ih 100000  x4 hx4 v2 hv2 x5 (rg_01 hx5) x6 (rg_01 hx6) m hm hF
set_option maxRecDepth 20000 in
set_option maxHeartbeats 4000000 in
theorem WL_X1_dropDeadEnds_4 {g : Gx} {b : Bs} {o : Mm} {Q : Int → Mm → Prop} (hC : Cok g b RX1 cX1_dropDeadEnds 7 23 (some .int)) : ∀ n : Nat, ∀ v1 : Int, inR v1 → ∀ v2 : Int, inR v2 → ∀ m : Mm, Rg m → okR (L_X1_dropDeadEnds_4 n v1 v2 m) Q → X g b (true, o) 7 (ZM g b (true, o) 1 Q) 4 [(0, .ref (b.1 + 43)), (1, iV v1), (2, iV v2)] [] m 0 0 := by
  intro n
  induction n with
  | zero => intro v1 hv1 v2 hv2 m hm hF; exact absurd hF (fun z => z)
  | succ n ih =>
    intro v1 hv1 v2 hv2 m hm hF
    have hF : okR (LB_X1_dropDeadEnds_4 (L_X1_dropDeadEnds_4 n) v1 v2 m) Q := hF
    unfold LB_X1_dropDeadEnds_4 at hF
    refine x_iload_n hC dX1_dropDeadEnds_4 rfl 2 rfl ?_
    refine x_aload_n hC dX1_dropDeadEnds_5 rfl 0 rfl ?_
    refine x_getI hC dX1_dropDeadEnds_6 rfl flX1_53 rfl (by decide) rfl rfl ?_
    refine x_icmp_ge (tgt := 31) hC dX1_dropDeadEnds_9 rfl rfl hv2 (hm.i 43 12 rfl) hF (fun hq1 hF => ?_) (fun hq1 hF => ?_)
    · refine x_aload_n hC dX1_dropDeadEnds_31 rfl 0 rfl ?_
      refine x_getI hC dX1_dropDeadEnds_32 rfl flX1_53 rfl (by decide) rfl rfl ?_
      refine x_iconst hC dX1_dropDeadEnds_35 rfl ?_
      refine x_isub hC dX1_dropDeadEnds_36 rfl ?_
      refine x_istore_n (lv' := [(0, .ref (b.1 + 43)), (1, iV v1)]) hC dX1_dropDeadEnds_37 rfl rfl (by decide) rfl (rg_wr _) hF (fun x2 hx2 hF => ?_)
      refine x_sub [1, 2, 0] rfl ?_
      exact WL_X1_dropDeadEnds_38 hC 100000  v1 hv1 x2 hx2 m hm hF
    · refine x_iload_n hC dX1_dropDeadEnds_12 rfl 1 rfl ?_
      refine x_one hC dX1_dropDeadEnds_13 rfl kone_X1 ?_
      refine x_aload_n hC dX1_dropDeadEnds_16 rfl 0 rfl ?_
      refine x_getR (t := 48) hC dX1_dropDeadEnds_17 rfl flX1_25 rfl (by decide) rfl rfl ?_
      refine x_iload_n hC dX1_dropDeadEnds_20 rfl 2 rfl ?_
      refine x_iald hC dX1_dropDeadEnds_21 rfl rfl (by decide) rfl hm hv2 hF (fun x3 hx3 hF => ?_)
      refine x_oneld hC dX1_dropDeadEnds_22 rfl hx3 hF (fun x4 hx4 hF => ?_)
      refine x_iadd hC dX1_dropDeadEnds_23 rfl ?_
      refine x_istore_n (lv' := [(0, .ref (b.1 + 43)), (2, iV v2)]) hC dX1_dropDeadEnds_24 rfl rfl (by decide) rfl (rg_wr _) hF (fun x5 hx5 hF => ?_)
      refine x_iinc (p := 2) (lv' := [(1, iV x5), (0, .ref (b.1 + 43))]) hC dX1_dropDeadEnds_25 rfl rfl (by decide) rfl hF (fun x6 hx6 hF => ?_)
      refine x_goto (tgt := 4) hC dX1_dropDeadEnds_28 rfl ?_
      refine x_sub [2, 1, 0] rfl ?_
      exact ih x5 hx5 x6 hx6 m hm hF
set_option maxRecDepth 20000 in
set_option maxHeartbeats 4000000 in
theorem T_X1_dropDeadEnds (b : Bs) (o : Mm) (m : Mm) {r : Int} {m' : Mm} (h : F_X1_dropDeadEnds  m = some (r, m')) : Cn yX1_dropDeadEnds cX1_dropDeadEnds 7 (some .int) (23) 0 0 1 b (true, o) m [.ref (b.1 + 43)] (F_X1_dropDeadEnds  m) := by
  refine Cn_of rfl (Nat.le_of_ble_eq_true rfl) (fun g hC hm => ?_)
  have hF := okR_some h
  generalize hQ : (fun (r : Int) (m' : Mm) => F_X1_dropDeadEnds  m = some (r, m')) = Q at hF ⊢
  clear hQ h
  replace hC : Cok g b RX1 cX1_dropDeadEnds 7 23 (some .int) := hC
  refine x_lv (lv' := [(0, .ref (b.1 + 43))]) rfl ?_
  unfold F_X1_dropDeadEnds at hF
  refine x_iconst hC dX1_dropDeadEnds_0 rfl ?_
  refine x_istore_nZ (lv' := [(0, .ref (b.1 + 43))]) hC dX1_dropDeadEnds_1 rfl rfl (by decide) rfl (Or.inl rfl) hF (fun x1 hx1 hF => ?_)
  refine x_iconst hC dX1_dropDeadEnds_2 rfl ?_
  refine x_istore_nZ (lv' := [(1, iV x1), (0, .ref (b.1 + 43))]) hC dX1_dropDeadEnds_3 rfl rfl (by decide) rfl (Or.inl rfl) hF (fun x2 hx2 hF => ?_)
  refine x_sub [2, 1, 0] rfl ?_
  exact WL_X1_dropDeadEnds_4 hC 100000  x1 (rg_01 hx1) x2 (rg_01 hx2) m hm hF
set_option maxRecDepth 20000 in
set_option maxHeartbeats 4000000 in
theorem WL_X1_findGaps_32 {g : Gx} {b : Bs} {o : Mm} {Q : Int → Mm → Prop} (hC : Cok g b RX1 cX1_findGaps 5 24 none) : ∀ n : Nat, ∀ v1 : Int, inR v1 → ∀ v2 : Int, inR v2 → ∀ v3 : Int, inR v3 → ∀ m : Mm, Rg m → okR (L_X1_findGaps_32 n v1 v2 v3 m) Q → X g b (true, o) 5 (ZM g b (true, o) 0 Q) 32 [(0, .ref (b.1 + 43)), (1, iV v1), (2, iV v2), (3, iV v3)] [] m 0 0 := by
  intro n
  induction n with
  | zero => intro v1 hv1 v2 hv2 v3 hv3 m hm hF; exact absurd hF (fun z => z)
  | succ n ih =>
    intro v1 hv1 v2 hv2 v3 hv3 m hm hF
    have hF : okR (LB_X1_findGaps_32 (L_X1_findGaps_32 n) v1 v2 v3 m) Q := hF
    unfold LB_X1_findGaps_32 at hF
    refine x_iload_n hC dX1_findGaps_32 rfl 3 rfl ?_
    refine x_aload_n hC dX1_findGaps_33 rfl 0 rfl ?_
    refine x_getI hC dX1_findGaps_34 rfl flX1_53 rfl (by decide) rfl rfl ?_
    refine x_icmp_ge (tgt := 114) hC dX1_findGaps_37 rfl rfl hv3 (hm.i 43 12 rfl) hF (fun hq1 hF => ?_) (fun hq1 hF => ?_)
    · exact x_return hC dX1_findGaps_114 hm hF
    · refine x_aload_n hC dX1_findGaps_40 rfl 0 rfl ?_
      refine x_iconst hC dX1_findGaps_41 rfl ?_
      refine x_iload_n hC dX1_findGaps_42 rfl 2 rfl ?_
      refine x_ishl hC dX1_findGaps_43 rfl ?_
      refine x_iload_n hC dX1_findGaps_44 rfl 1 rfl ?_
      refine x_aload_n hC dX1_findGaps_45 rfl 0 rfl ?_
      refine x_getR (t := 48) hC dX1_findGaps_46 rfl flX1_25 rfl (by decide) rfl rfl ?_
      refine x_iload_n hC dX1_findGaps_49 rfl 3 rfl ?_
      refine x_iconst hC dX1_findGaps_50 rfl ?_
      refine x_isub hC dX1_findGaps_51 rfl ?_
      refine x_iald hC dX1_findGaps_52 rfl rfl (by decide) rfl hm (rg_wr _) hF (fun x2 hx2 hF => ?_)
      refine x_aload_n hC dX1_findGaps_53 rfl 0 rfl ?_
      refine x_getR (t := 48) hC dX1_findGaps_54 rfl flX1_25 rfl (by decide) rfl rfl ?_
      refine x_iload_n hC dX1_findGaps_57 rfl 3 rfl ?_
      refine x_iald hC dX1_findGaps_58 rfl rfl (by decide) rfl hm hv3 hF (fun x3 hx3 hF => ?_)
      refine x_aload_n hC dX1_findGaps_59 rfl 0 rfl ?_
      refine x_getI hC dX1_findGaps_60 rfl flX1_53 rfl (by decide) rfl rfl ?_
      refine x_iload_n hC dX1_findGaps_63 rfl 3 rfl ?_
      refine x_isub hC dX1_findGaps_64 rfl ?_
      refine x_callV1 (kc2 := 0) (ks2 := 0) (k := 43) (As := [iV (ishl 1 v2), iV v1, iV x2, iV x3, iV (wr ((m 43 12) - v3))]) (rest := []) hC dX1_findGaps_65 rfl hm (fun _ _ h => T_X1_losslessGaps b _ m (ishl 1 v2) (rg_tI _) v1 hv1 x2 hx2 x3 hx3 (wr ((m 43 12) - v3)) (rg_wr _) h) mlX1_110 vlX1_losslessGaps rfl (by decide) rfl rfl (Nat.le_of_ble_eq_true rfl) (by decide) (by decide) rfl rfl hF (fun r4 m5 hr4 hm5 hF => ?_)
      refine x_aload_n hC dX1_findGaps_68 rfl 0 rfl ?_
      refine x_getR (t := 50) hC dX1_findGaps_69 rfl flX1_31 rfl (by decide) rfl rfl ?_
      refine x_iload_n hC dX1_findGaps_72 rfl 3 rfl ?_
      refine x_iald hC dX1_findGaps_73 rfl rfl (by decide) rfl hm5 hv3 hF (fun x6 hx6 hF => ?_)
      refine x_iand hC dX1_findGaps_74 rfl ?_
      refine x_istore (lv' := [(0, .ref (b.1 + 43)), (1, iV v1), (2, iV v2), (3, iV v3)]) hC dX1_findGaps_75 rfl (by decide) rfl (rg_tI _) hF (fun x7 hx7 hF => ?_)
      refine x_bipush hC dX1_findGaps_77 rfl rfl ?_
      refine x_iload hC dX1_findGaps_79 rfl 0 rfl ?_
      refine x_callS1 (kc2 := 0) (ks2 := 0) (As := [iV x7]) (rest := [iV 20]) hC dX1_findGaps_81 rfl hm5 (fun _ _ h => T_J6_numberOfTrailingZeros_0f7a4 b _ m5 x7 hx7 h) mlX1_118 vsJ6_numberOfTrailingZeros_0f7a4 rfl rfl (Nat.le_of_ble_eq_true rfl) (by decide) (by decide) rfl rfl hF (fun r8 m9 hr8 hm9 hF => ?_)
      refine x_callS1 (kc2 := 0) (ks2 := 0) (As := [iV 20, iV r8]) (rest := []) hC dX1_findGaps_84 rfl hm9 (fun _ _ h => T_J9_min_7cf53 b _ m9 20 (rgc 20 rfl) r8 hr8 h) mlX1_92 vsJ9_min_7cf53 rfl rfl (Nat.le_of_ble_eq_true rfl) (by decide) (by decide) rfl rfl hF (fun r10 m11 hr10 hm11 hF => ?_)
      refine x_istore_n (lv' := [(4, iV x7), (0, .ref (b.1 + 43)), (1, iV v1), (3, iV v3)]) hC dX1_findGaps_87 rfl rfl (by decide) rfl hr10 hF (fun x12 hx12 hF => ?_)
      refine x_aload_n hC dX1_findGaps_88 rfl 2 rfl ?_
      refine x_getR (t := 49) hC dX1_findGaps_89 rfl flX1_28 rfl (by decide) rfl rfl ?_
      refine x_iload_n hC dX1_findGaps_92 rfl 4 rfl ?_
      refine x_iload_n hC dX1_findGaps_93 rfl 0 rfl ?_
      refine x_iast hC dX1_findGaps_94 rfl rfl (by decide) rfl hm11 hv3 hx12 hF (fun m13 hm13 hF => ?_)
      refine x_iload_n hC dX1_findGaps_95 rfl 3 rfl ?_
      refine x_one hC dX1_findGaps_96 rfl kone_X1 ?_
      refine x_aload_n hC dX1_findGaps_99 rfl 2 rfl ?_
      refine x_getR (t := 48) hC dX1_findGaps_100 rfl flX1_25 rfl (by decide) rfl rfl ?_
      refine x_iload_n hC dX1_findGaps_103 rfl 4 rfl ?_
      refine x_iald hC dX1_findGaps_104 rfl rfl (by decide) rfl hm13 hv3 hF (fun x14 hx14 hF => ?_)
      refine x_oneld hC dX1_findGaps_105 rfl hx14 hF (fun x15 hx15 hF => ?_)
      refine x_iadd hC dX1_findGaps_106 rfl ?_
      refine x_istore_n (lv' := [(2, iV x12), (4, iV x7), (0, .ref (b.1 + 43)), (3, iV v3)]) hC dX1_findGaps_107 rfl rfl (by decide) rfl (rg_wr _) hF (fun x16 hx16 hF => ?_)
      refine x_iinc (p := 4) (lv' := [(1, iV x16), (2, iV x12), (4, iV x7), (0, .ref (b.1 + 43))]) hC dX1_findGaps_108 rfl rfl (by decide) rfl hF (fun x17 hx17 hF => ?_)
      refine x_goto (tgt := 32) hC dX1_findGaps_111 rfl ?_
      refine x_sub [4, 1, 2, 0] rfl ?_
      exact ih x16 hx16 x12 hx12 x17 hx17 m13 hm13 hF
set_option maxRecDepth 20000 in
set_option maxHeartbeats 4000000 in
theorem T_X1_findGaps (b : Bs) (o : Mm) (m : Mm) {r : Int} {m' : Mm} (h : F_X1_findGaps  m = some (r, m')) : Cn yX1_findGaps cX1_findGaps 5 none (24) 0 0 0 b (true, o) m [.ref (b.1 + 43)] (F_X1_findGaps  m) := by
  refine Cn_of rfl (Nat.le_of_ble_eq_true rfl) (fun g hC hm => ?_)
  have hF := okR_some h
  generalize hQ : (fun (r : Int) (m' : Mm) => F_X1_findGaps  m = some (r, m')) = Q at hF ⊢
  clear hQ h
  replace hC : Cok g b RX1 cX1_findGaps 5 24 none := hC
  refine x_lv (lv' := [(0, .ref (b.1 + 43))]) rfl ?_
  unfold F_X1_findGaps at hF
  refine x_aload_n hC dX1_findGaps_0 rfl 0 rfl ?_
  refine x_callV3 (kc2 := 0) (ks2 := 0) (k := 43) (As := []) (rest := []) hC dX1_findGaps_1 rfl hm (fun _ _ h => T_X1_canBe b _ m  h) mlX1_106 vlX1_canBe rfl (by decide) rfl rfl (Nat.le_of_ble_eq_true rfl) (by decide) (by decide) rfl rfl hF (fun r1 m2 hr1 hm2 hF => ?_)
  refine x_if_eq (tgt := 14) hC dX1_findGaps_4 rfl rfl (rg_01 hr1) hF (fun hq3 hF => ?_) (fun hq3 hF => ?_)
  · exact x_return hC dX1_findGaps_14 hm2 hF
  · refine x_aload_n hC dX1_findGaps_7 rfl 0 rfl ?_
    refine x_getI hC dX1_findGaps_8 rfl flX1_53 rfl (by decide) rfl rfl ?_
    refine x_if_ne (tgt := 15) hC dX1_findGaps_11 rfl rfl (hm2.i 43 12 rfl) hF (fun hq4 hF => ?_) (fun hq4 hF => ?_)
    · refine x_aload_n hC dX1_findGaps_15 rfl 0 rfl ?_
      refine x_callV1 (kc2 := 0) (ks2 := 0) (k := 43) (As := []) (rest := []) hC dX1_findGaps_16 rfl hm2 (fun _ _ h => T_X1_dropDeadEnds b _ m2  h) mlX1_114 vlX1_dropDeadEnds rfl (by decide) rfl rfl (Nat.le_of_ble_eq_true rfl) (by decide) (by decide) rfl rfl hF (fun r5 m6 hr5 hm6 hF => ?_)
      refine x_istore_n (lv' := [(0, .ref (b.1 + 43))]) hC dX1_findGaps_19 rfl rfl (by decide) rfl hr5 hF (fun x7 hx7 hF => ?_)
      refine x_iconst hC dX1_findGaps_20 rfl ?_
      refine x_istore_nZ (lv' := [(1, iV x7), (0, .ref (b.1 + 43))]) hC dX1_findGaps_21 rfl rfl (by decide) rfl (Or.inl rfl) hF (fun x8 hx8 hF => ?_)
      refine x_aload_n hC dX1_findGaps_22 rfl 2 rfl ?_
      refine x_getR (t := 49) hC dX1_findGaps_23 rfl flX1_28 rfl (by decide) rfl rfl ?_
      refine x_iconst hC dX1_findGaps_26 rfl ?_
      refine x_bipush hC dX1_findGaps_27 rfl rfl ?_
      refine x_iast hC dX1_findGaps_29 rfl rfl (by decide) rfl hm6 (rgc 0 rfl) (rgc 63 rfl) hF (fun m9 hm9 hF => ?_)
      refine x_iconst hC dX1_findGaps_30 rfl ?_
      refine x_istore_nZ (lv' := [(2, iV x8), (1, iV x7), (0, .ref (b.1 + 43))]) hC dX1_findGaps_31 rfl rfl (by decide) rfl (Or.inr rfl) hF (fun x10 hx10 hF => ?_)
      refine x_sub [3, 2, 1, 0] rfl ?_
      exact WL_X1_findGaps_32 hC 100000  x7 hx7 x8 (rg_01 hx8) x10 (rg_01 hx10) m9 hm9 hF
    · exact x_return hC dX1_findGaps_14 hm2 hF
set_option maxRecDepth 20000 in
set_option maxHeartbeats 4000000 in
theorem T_X10_byteAt (b : Bs) (o : Mm) (m : Mm) (a1 : Int) (ha1 : inR a1) {r : Int} {m' : Mm} (h : F_X10_byteAt a1 m = some (r, m')) : Cn yX10_byteAt cX10_byteAt 2 (some .int) (0) 0 0 1 b (true, o) m [.ref (b.1 + 7), iV a1] (F_X10_byteAt a1 m) := by
  refine Cn_of rfl (Nat.le_of_ble_eq_true rfl) (fun g hC hm => ?_)
  have hF := okR_some h
  generalize hQ : (fun (r : Int) (m' : Mm) => F_X10_byteAt a1 m = some (r, m')) = Q at hF ⊢
  clear hQ h
  replace hC : Cok g b RX10 cX10_byteAt 2 0 (some .int) := hC
  refine x_lv (lv' := [(0, .ref (b.1 + 7)), (1, iV a1)]) rfl ?_
  unfold F_X10_byteAt at hF
  refine x_iload_n hC dX10_byteAt_0 rfl 1 rfl ?_
  refine x_if_lt (tgt := 21) hC dX10_byteAt_1 rfl rfl ha1 hF (fun hq1 hF => ?_) (fun hq1 hF => ?_)
  · refine x_iconst hC dX10_byteAt_21 rfl ?_
    exact x_ireturn hC dX10_byteAt_22 hm (rgc (-1) rfl) hF
  · refine x_iload_n hC dX10_byteAt_4 rfl 1 rfl ?_
    refine x_aload_n hC dX10_byteAt_5 rfl 0 rfl ?_
    refine x_getI hC dX10_byteAt_6 rfl flX10_15 rfl (by decide) rfl rfl ?_
    refine x_icmp_ge (tgt := 21) hC dX10_byteAt_9 rfl rfl ha1 (hm.i 7 1 rfl) hF (fun hq2 hF => ?_) (fun hq2 hF => ?_)
    · refine x_iconst hC dX10_byteAt_21 rfl ?_
      exact x_ireturn hC dX10_byteAt_22 hm (rgc (-1) rfl) hF
    · refine x_aload_n hC dX10_byteAt_12 rfl 0 rfl ?_
      refine x_getR (t := 8) hC dX10_byteAt_13 rfl flX10_9 rfl (by decide) rfl rfl ?_
      refine x_iload_n hC dX10_byteAt_16 rfl 1 rfl ?_
      refine x_iald hC dX10_byteAt_17 rfl rfl (by decide) rfl hm ha1 hF (fun x3 hx3 hF => ?_)
      refine x_goto (tgt := 22) hC dX10_byteAt_18 rfl ?_
      exact x_ireturn hC dX10_byteAt_22 hm hx3 hF
set_option maxRecDepth 20000 in
set_option maxHeartbeats 4000000 in
theorem T_X2_fail (b : Bs) (o : Mm) (m : Mm) (a1 : Int) (ha1 : inR a1) {r : Int} {m' : Mm} (h : F_X2_fail a1 m = some (r, m')) : Cn yX2_fail cX2_fail 2 none (0) 0 0 0 b (true, o) m [.ref (b.1 + 32), iV a1] (F_X2_fail a1 m) := by
  refine Cn_of rfl (Nat.le_of_ble_eq_true rfl) (fun g hC hm => ?_)
  have hF := okR_some h
  generalize hQ : (fun (r : Int) (m' : Mm) => F_X2_fail a1 m = some (r, m')) = Q at hF ⊢
  clear hQ h
  replace hC : Cok g b RX2 cX2_fail 2 0 none := hC
  refine x_lv (lv' := [(0, .ref (b.1 + 32)), (1, iV a1)]) rfl ?_
  unfold F_X2_fail at hF
  refine x_aload_n hC dX2_fail_0 rfl 0 rfl ?_
  refine x_getI hC dX2_fail_1 rfl flX2_46 rfl (by decide) rfl rfl ?_
  refine x_if_ne (tgt := 12) hC dX2_fail_4 rfl rfl (hm.i 32 5 rfl) hF (fun hq1 hF => ?_) (fun hq1 hF => ?_)
  · exact x_return hC dX2_fail_12 hm hF
  · refine x_aload_n hC dX2_fail_7 rfl 0 rfl ?_
    refine x_iload_n hC dX2_fail_8 rfl 1 rfl ?_
    refine x_putI hC dX2_fail_9 rfl fpX2_46 rfl (by decide) (by decide) rfl rfl hm ha1 rfl hF (fun m2 hm2 hF => ?_)
    exact x_return hC dX2_fail_12 hm2 hF
set_option maxRecDepth 20000 in
set_option maxHeartbeats 4000000 in
theorem T_X2_enter (b : Bs) (o : Mm) (m : Mm) {r : Int} {m' : Mm} (h : F_X2_enter  m = some (r, m')) : Cn yX2_enter cX2_enter 1 none (1) 0 0 0 b (true, o) m [.ref (b.1 + 32)] (F_X2_enter  m) := by
  refine Cn_of rfl (Nat.le_of_ble_eq_true rfl) (fun g hC hm => ?_)
  have hF := okR_some h
  generalize hQ : (fun (r : Int) (m' : Mm) => F_X2_enter  m = some (r, m')) = Q at hF ⊢
  clear hQ h
  replace hC : Cok g b RX2 cX2_enter 1 1 none := hC
  refine x_lv (lv' := [(0, .ref (b.1 + 32))]) rfl ?_
  unfold F_X2_enter at hF
  refine x_aload_n hC dX2_enter_0 rfl 0 rfl ?_
  refine x_getI hC dX2_enter_1 rfl flX2_43 rfl (by decide) rfl rfl ?_
  refine x_bipush hC dX2_enter_4 rfl rfl ?_
  refine x_icmp_lt (tgt := 15) hC dX2_enter_6 rfl rfl (hm.i 32 4 rfl) (rgc 6 rfl) hF (fun hq1 hF => ?_) (fun hq1 hF => ?_)
  · refine x_aload_n hC dX2_enter_15 rfl 0 rfl ?_
    refine x_dup hC dX2_enter_16 rfl rfl ?_
    refine x_getI hC dX2_enter_17 rfl flX2_43 rfl (by decide) rfl rfl ?_
    refine x_iconst hC dX2_enter_20 rfl ?_
    refine x_iadd hC dX2_enter_21 rfl ?_
    refine x_putI hC dX2_enter_22 rfl fpX2_43 rfl (by decide) (by decide) rfl rfl hm (rg_wr _) rfl hF (fun m2 hm2 hF => ?_)
    refine x_aload_n hC dX2_enter_25 rfl 0 rfl ?_
    refine x_dup hC dX2_enter_26 rfl rfl ?_
    refine x_getI hC dX2_enter_27 rfl flX2_40 rfl (by decide) rfl rfl ?_
    refine x_iconst hC dX2_enter_30 rfl ?_
    refine x_iadd hC dX2_enter_31 rfl ?_
    refine x_putI hC dX2_enter_32 rfl fpX2_40 rfl (by decide) (by decide) rfl rfl hm2 (rg_wr _) rfl hF (fun m3 hm3 hF => ?_)
    exact x_return hC dX2_enter_35 hm3 hF
  · refine x_aload_n hC dX2_enter_9 rfl 0 rfl ?_
    refine x_iconst hC dX2_enter_10 rfl ?_
    refine x_callV0 (kc2 := 0) (ks2 := 0) (k := 32) (As := [iV 5]) (rest := []) hC dX2_enter_11 rfl hm (fun _ _ h => T_X2_fail b _ m 5 (rgc 5 rfl) h) mlX2_63 vlX2_fail rfl (by decide) rfl rfl (Nat.le_of_ble_eq_true rfl) (by decide) (by decide) rfl rfl hF (fun r4 m5 hr4 hm5 hF => ?_)
    exact x_return hC dX2_enter_14 hm5 hF
set_option maxRecDepth 20000 in
set_option maxHeartbeats 4000000 in
theorem T_X2_next (b : Bs) (o : Mm) (m : Mm) {r : Int} {m' : Mm} (h : F_X2_next  m = some (r, m')) : Cn yX2_next cX2_next 1 (some .int) (0) 0 0 1 b (true, o) m [.ref (b.1 + 32)] (F_X2_next  m) := by
  refine Cn_of rfl (Nat.le_of_ble_eq_true rfl) (fun g hC hm => ?_)
  have hF := okR_some h
  generalize hQ : (fun (r : Int) (m' : Mm) => F_X2_next  m = some (r, m')) = Q at hF ⊢
  clear hQ h
  replace hC : Cok g b RX2 cX2_next 1 0 (some .int) := hC
  refine x_lv (lv' := [(0, .ref (b.1 + 32))]) rfl ?_
  unfold F_X2_next at hF
  refine x_aload_n hC dX2_next_0 rfl 0 rfl ?_
  refine x_getI hC dX2_next_1 rfl flX2_40 rfl (by decide) rfl rfl ?_
  refine x_if_lt (tgt := 30) hC dX2_next_4 rfl rfl (hm.i 32 3 rfl) hF (fun hq1 hF => ?_) (fun hq1 hF => ?_)
  · refine x_iconst hC dX2_next_30 rfl ?_
    exact x_ireturn hC dX2_next_31 hm (rgc (-1) rfl) hF
  · refine x_aload_n hC dX2_next_7 rfl 0 rfl ?_
    refine x_getI hC dX2_next_8 rfl flX2_40 rfl (by decide) rfl rfl ?_
    refine x_aload_n hC dX2_next_11 rfl 0 rfl ?_
    refine x_getI hC dX2_next_12 rfl flX2_25 rfl (by decide) rfl rfl ?_
    refine x_icmp_ge (tgt := 30) hC dX2_next_15 rfl rfl (hm.i 32 3 rfl) (hm.i 32 2 rfl) hF (fun hq2 hF => ?_) (fun hq2 hF => ?_)
    · refine x_iconst hC dX2_next_30 rfl ?_
      exact x_ireturn hC dX2_next_31 hm (rgc (-1) rfl) hF
    · refine x_aload_n hC dX2_next_18 rfl 0 rfl ?_
      refine x_getR (t := 33) hC dX2_next_19 rfl flX2_9 rfl (by decide) rfl rfl ?_
      refine x_aload_n hC dX2_next_22 rfl 0 rfl ?_
      refine x_getI hC dX2_next_23 rfl flX2_40 rfl (by decide) rfl rfl ?_
      refine x_iald hC dX2_next_26 rfl rfl (by decide) rfl hm (hm.i 32 3 rfl) hF (fun x3 hx3 hF => ?_)
      refine x_goto (tgt := 31) hC dX2_next_27 rfl ?_
      exact x_ireturn hC dX2_next_31 hm hx3 hF
set_option maxRecDepth 20000 in
set_option maxHeartbeats 4000000 in
theorem T_X2_pass (b : Bs) (o : Mm) (m : Mm) (a1 : Int) (ha1 : inR a1) {r : Int} {m' : Mm} (h : F_X2_pass a1 m = some (r, m')) : Cn yX2_pass cX2_pass 2 none (1) 0 0 0 b (true, o) m [.ref (b.1 + 32), iV a1] (F_X2_pass a1 m) := by
  refine Cn_of rfl (Nat.le_of_ble_eq_true rfl) (fun g hC hm => ?_)
  have hF := okR_some h
  generalize hQ : (fun (r : Int) (m' : Mm) => F_X2_pass a1 m = some (r, m')) = Q at hF ⊢
  clear hQ h
  replace hC : Cok g b RX2 cX2_pass 2 1 none := hC
  refine x_lv (lv' := [(0, .ref (b.1 + 32)), (1, iV a1)]) rfl ?_
  unfold F_X2_pass at hF
  refine x_aload_n hC dX2_pass_0 rfl 0 rfl ?_
  refine x_getI hC dX2_pass_1 rfl flX2_46 rfl (by decide) rfl rfl ?_
  refine x_if_eq (tgt := 8) hC dX2_pass_4 rfl rfl (hm.i 32 5 rfl) hF (fun hq1 hF => ?_) (fun hq1 hF => ?_)
  · refine x_aload_n hC dX2_pass_8 rfl 0 rfl ?_
    refine x_callV1 (kc2 := 0) (ks2 := 0) (k := 32) (As := []) (rest := []) hC dX2_pass_9 rfl hm (fun _ _ h => T_X2_next b _ m  h) mlX2_59 vlX2_next rfl (by decide) rfl rfl (Nat.le_of_ble_eq_true rfl) (by decide) (by decide) rfl rfl hF (fun r2 m3 hr2 hm3 hF => ?_)
    refine x_iload_n hC dX2_pass_12 rfl 1 rfl ?_
    refine x_icmp_ne (tgt := 29) hC dX2_pass_13 rfl rfl hr2 ha1 hF (fun hq4 hF => ?_) (fun hq4 hF => ?_)
    · refine x_aload_n hC dX2_pass_29 rfl 0 rfl ?_
      refine x_iconst hC dX2_pass_30 rfl ?_
      refine x_callV0 (kc2 := 0) (ks2 := 0) (k := 32) (As := [iV 1]) (rest := []) hC dX2_pass_31 rfl hm3 (fun _ _ h => T_X2_fail b _ m3 1 (rgc 1 rfl) h) mlX2_63 vlX2_fail rfl (by decide) rfl rfl (Nat.le_of_ble_eq_true rfl) (by decide) (by decide) rfl rfl hF (fun r5 m6 hr5 hm6 hF => ?_)
      exact x_return hC dX2_pass_34 hm6 hF
    · refine x_aload_n hC dX2_pass_16 rfl 0 rfl ?_
      refine x_dup hC dX2_pass_17 rfl rfl ?_
      refine x_getI hC dX2_pass_18 rfl flX2_40 rfl (by decide) rfl rfl ?_
      refine x_iconst hC dX2_pass_21 rfl ?_
      refine x_iadd hC dX2_pass_22 rfl ?_
      refine x_putI hC dX2_pass_23 rfl fpX2_40 rfl (by decide) (by decide) rfl rfl hm3 (rg_wr _) rfl hF (fun m7 hm7 hF => ?_)
      refine x_goto (tgt := 34) hC dX2_pass_26 rfl ?_
      exact x_return hC dX2_pass_34 hm7 hF
  · exact x_return hC dX2_pass_7 hm hF
set_option maxRecDepth 20000 in
set_option maxHeartbeats 4000000 in
theorem T_X2_isDigit (b : Bs) (o : Mm) (m : Mm) (a1 : Int) (ha1 : inR a1) {r : Int} {m' : Mm} (h : F_X2_isDigit a1 m = some (r, m')) : Cn yX2_isDigit cX2_isDigit 1 (some .boolean) (0) 0 0 3 b (true, o) m [iV a1] (F_X2_isDigit a1 m) := by
  refine Cn_of rfl (Nat.le_of_ble_eq_true rfl) (fun g hC hm => ?_)
  have hF := okR_some h
  generalize hQ : (fun (r : Int) (m' : Mm) => F_X2_isDigit a1 m = some (r, m')) = Q at hF ⊢
  clear hQ h
  replace hC : Cok g b RX2 cX2_isDigit 1 0 (some .boolean) := hC
  refine x_lv (lv' := [(0, iV a1)]) rfl ?_
  unfold F_X2_isDigit at hF
  refine x_iload_n hC dX2_isDigit_0 rfl 0 rfl ?_
  refine x_bipush hC dX2_isDigit_1 rfl rfl ?_
  refine x_icmp_lt (tgt := 16) hC dX2_isDigit_3 rfl rfl ha1 (rgc 48 rfl) hF (fun hq1 hF => ?_) (fun hq1 hF => ?_)
  · refine x_iconst hC dX2_isDigit_16 rfl ?_
    exact x_zreturn hC dX2_isDigit_17 hm (Or.inl rfl) hF
  · refine x_iload_n hC dX2_isDigit_6 rfl 0 rfl ?_
    refine x_bipush hC dX2_isDigit_7 rfl rfl ?_
    refine x_icmp_gt (tgt := 16) hC dX2_isDigit_9 rfl rfl ha1 (rgc 57 rfl) hF (fun hq2 hF => ?_) (fun hq2 hF => ?_)
    · refine x_iconst hC dX2_isDigit_16 rfl ?_
      exact x_zreturn hC dX2_isDigit_17 hm (Or.inl rfl) hF
    · refine x_iconst hC dX2_isDigit_12 rfl ?_
      refine x_goto (tgt := 17) hC dX2_isDigit_13 rfl ?_
      exact x_zreturn hC dX2_isDigit_17 hm (Or.inr rfl) hF
set_option maxRecDepth 20000 in
set_option maxHeartbeats 4000000 in
theorem T_J0_isLatin1_aae02 (b : Bs) (o : Mm) (m : Mm) {r : Int} {m' : Mm} (h : F_J0_isLatin1_aae02  m = some (r, m')) : Cn yJ0_isLatin1_aae02 cJ0_isLatin1_aae02 1 (some .boolean) (0) 0 0 3 b (true, o) m [.ref (bT b)] (F_J0_isLatin1_aae02  m) := by
  refine Cn_ofF (by decide +kernel) (Nat.le_of_ble_eq_true rfl) (fun g hC hm => ?_)
  have hF := okR_some h
  generalize hQ : (fun (r : Int) (m' : Mm) => F_J0_isLatin1_aae02  m = some (r, m')) = Q at hF ⊢
  clear hQ h
  replace hC : Cok g b RJ0 cJ0_isLatin1_aae02 1 0 (some .boolean) := hC
  refine x_lv (lv' := [(0, .ref (bT b))]) rfl ?_
  unfold F_J0_isLatin1_aae02 at hF
  refine x_strK hC dJ0_isLatin1_aae02_0 rfl kst_38 ?_
  refine x_if_eq (tgt := 17) hC dJ0_isLatin1_aae02_3 rfl rfl (rgc 1 rfl) hF (fun hq1 hF => ?_) (fun hq1 hF => ?_)
  · refine x_iconst hC dJ0_isLatin1_aae02_17 rfl ?_
    exact x_zreturn hC dJ0_isLatin1_aae02_18 hm (Or.inl rfl) hF
  · refine x_aload_n hC dJ0_isLatin1_aae02_6 rfl 0 rfl ?_
    refine x_strC hC dJ0_isLatin1_aae02_7 rfl kst_15 ?_
    refine x_if_ne (tgt := 17) hC dJ0_isLatin1_aae02_10 rfl rfl (rgc 0 rfl) hF (fun hq2 hF => ?_) (fun hq2 hF => ?_)
    · refine x_iconst hC dJ0_isLatin1_aae02_17 rfl ?_
      exact x_zreturn hC dJ0_isLatin1_aae02_18 hm (Or.inl rfl) hF
    · refine x_iconst hC dJ0_isLatin1_aae02_13 rfl ?_
      refine x_goto (tgt := 18) hC dJ0_isLatin1_aae02_14 rfl ?_
      exact x_zreturn hC dJ0_isLatin1_aae02_18 hm (Or.inr rfl) hF
set_option maxRecDepth 20000 in
set_option maxHeartbeats 4000000 in
theorem T_J0_coder_7d493 (b : Bs) (o : Mm) (m : Mm) {r : Int} {m' : Mm} (h : F_J0_coder_7d493  m = some (r, m')) : Cn yJ0_coder_7d493 cJ0_coder_7d493 1 (some .byte) (0) 0 0 3 b (true, o) m [.ref (bT b)] (F_J0_coder_7d493  m) := by
  refine Cn_ofF (by decide +kernel) (Nat.le_of_ble_eq_true rfl) (fun g hC hm => ?_)
  have hF := okR_some h
  generalize hQ : (fun (r : Int) (m' : Mm) => F_J0_coder_7d493  m = some (r, m')) = Q at hF ⊢
  clear hQ h
  replace hC : Cok g b RJ0 cJ0_coder_7d493 1 0 (some .byte) := hC
  refine x_lv (lv' := [(0, .ref (bT b))]) rfl ?_
  unfold F_J0_coder_7d493 at hF
  refine x_strK hC dJ0_coder_7d493_0 rfl kst_38 ?_
  refine x_if_eq (tgt := 13) hC dJ0_coder_7d493_3 rfl rfl (rgc 1 rfl) hF (fun hq1 hF => ?_) (fun hq1 hF => ?_)
  · refine x_iconst hC dJ0_coder_7d493_13 rfl ?_
    exact x_breturn hC dJ0_coder_7d493_14 hm (Or.inr rfl) hF
  · refine x_aload_n hC dJ0_coder_7d493_6 rfl 0 rfl ?_
    refine x_strC hC dJ0_coder_7d493_7 rfl kst_15 ?_
    refine x_goto (tgt := 14) hC dJ0_coder_7d493_10 rfl ?_
    exact x_breturn hC dJ0_coder_7d493_14 hm (Or.inl rfl) hF
set_option maxRecDepth 20000 in
set_option maxHeartbeats 4000000 in
theorem T_J0_length_8abf5 (b : Bs) (o : Mm) (m : Mm) {r : Int} {m' : Mm} (h : F_J0_length_8abf5  m = some (r, m')) : Cn yJ0_length_8abf5 cJ0_length_8abf5 1 (some .int) (1) 0 0 1 b (true, o) m [.ref (bT b)] (F_J0_length_8abf5  m) := by
  refine Cn_ofF (by decide +kernel) (Nat.le_of_ble_eq_true rfl) (fun g hC hm => ?_)
  have hF := okR_some h
  generalize hQ : (fun (r : Int) (m' : Mm) => F_J0_length_8abf5  m = some (r, m')) = Q at hF ⊢
  clear hQ h
  replace hC : Cok g b RJ0 cJ0_length_8abf5 1 1 (some .int) := hC
  refine x_lv (lv' := [(0, .ref (bT b))]) rfl ?_
  unfold F_J0_length_8abf5 at hF
  refine x_aload_n hC dJ0_length_8abf5_0 rfl 0 rfl ?_
  refine x_strV hC dJ0_length_8abf5_1 rfl kst_9 ?_
  refine x_strL hC dJ0_length_8abf5_4 rfl ?_
  refine x_aload_n hC dJ0_length_8abf5_5 rfl 0 rfl ?_
  refine x_callVS3 (kc2 := 0) (ks2 := 0) (As := []) (rest := [iV 10]) hC dJ0_length_8abf5_6 rfl hm (fun _ _ h => T_J0_coder_7d493 b _ m  h) mlJ0_335 vlJ0_coder_7d493 rfl rfl (Nat.le_of_ble_eq_true rfl) (by decide) (by decide) rfl rfl hF (fun r1 m2 hr1 hm2 hF => ?_)
  refine x_ishr hC dJ0_length_8abf5_9 rfl ?_
  exact x_ireturn hC dJ0_length_8abf5_10 hm2 (rg_tI _) hF
set_option maxRecDepth 20000 in
set_option maxHeartbeats 4000000 in
theorem T_J1_canEncode_9a6ad (b : Bs) (o : Mm) (m : Mm) (a1 : Int) (ha1 : inR a1) {r : Int} {m' : Mm} (h : F_J1_canEncode_9a6ad a1 m = some (r, m')) : Cn yJ1_canEncode_9a6ad cJ1_canEncode_9a6ad 1 (some .boolean) (0) 0 0 3 b (true, o) m [iV a1] (F_J1_canEncode_9a6ad a1 m) := by
  refine Cn_ofF (by decide +kernel) (Nat.le_of_ble_eq_true rfl) (fun g hC hm => ?_)
  have hF := okR_some h
  generalize hQ : (fun (r : Int) (m' : Mm) => F_J1_canEncode_9a6ad a1 m = some (r, m')) = Q at hF ⊢
  clear hQ h
  replace hC : Cok g b RJ1 cJ1_canEncode_9a6ad 1 0 (some .boolean) := hC
  refine x_lv (lv' := [(0, iV a1)]) rfl ?_
  unfold F_J1_canEncode_9a6ad at hF
  refine x_iload_n hC dJ1_canEncode_9a6ad_0 rfl 0 rfl ?_
  refine x_if_lt (tgt := 15) hC dJ1_canEncode_9a6ad_1 rfl rfl ha1 hF (fun hq1 hF => ?_) (fun hq1 hF => ?_)
  · refine x_iconst hC dJ1_canEncode_9a6ad_15 rfl ?_
    exact x_zreturn hC dJ1_canEncode_9a6ad_16 hm (Or.inl rfl) hF
  · refine x_iload_n hC dJ1_canEncode_9a6ad_4 rfl 0 rfl ?_
    refine x_sipush hC dJ1_canEncode_9a6ad_5 rfl rfl ?_
    refine x_icmp_gt (tgt := 15) hC dJ1_canEncode_9a6ad_8 rfl rfl ha1 (rgc 255 rfl) hF (fun hq2 hF => ?_) (fun hq2 hF => ?_)
    · refine x_iconst hC dJ1_canEncode_9a6ad_15 rfl ?_
      exact x_zreturn hC dJ1_canEncode_9a6ad_16 hm (Or.inl rfl) hF
    · refine x_iconst hC dJ1_canEncode_9a6ad_11 rfl ?_
      refine x_goto (tgt := 16) hC dJ1_canEncode_9a6ad_12 rfl ?_
      exact x_zreturn hC dJ1_canEncode_9a6ad_16 hm (Or.inr rfl) hF
set_option maxRecDepth 20000 in
set_option maxHeartbeats 4000000 in
theorem WL_J1_indexOfChar_4cfef_7 {g : Gx} {b : Bs} {o : Mm} {Q : Int → Mm → Prop} (hC : Cok g b RJ1 cJ1_indexOfChar_4cfef 6 0 (some .int)) : ∀ n : Nat, ∀ v3 : Int, inR v3 → ∀ v4 : Int, inR v4 → ∀ v5 : Int, inR v5 → ∀ m : Mm, Rg m → okR (L_J1_indexOfChar_4cfef_7 n v3 v4 v5 m) Q → X g b (true, o) 6 (ZM g b (true, o) 1 Q) 7 [(0, .ref (bU b)), (3, iV v3), (4, iV v4), (5, iV v5)] [] m 0 0 := by
  intro n
  induction n with
  | zero => intro v3 hv3 v4 hv4 v5 hv5 m hm hF; exact absurd hF (fun z => z)
  | succ n ih =>
    intro v3 hv3 v4 hv4 v5 hv5 m hm hF
    have hF : okR (LB_J1_indexOfChar_4cfef_7 (L_J1_indexOfChar_4cfef_7 n) v3 v4 v5 m) Q := hF
    unfold LB_J1_indexOfChar_4cfef_7 at hF
    refine x_iload hC dJ1_indexOfChar_4cfef_7 rfl 3 rfl ?_
    refine x_iload_n hC dJ1_indexOfChar_4cfef_9 rfl 1 rfl ?_
    refine x_icmp_ge (tgt := 31) hC dJ1_indexOfChar_4cfef_10 rfl rfl hv5 hv3 hF (fun hq1 hF => ?_) (fun hq1 hF => ?_)
    · refine x_iconst hC dJ1_indexOfChar_4cfef_31 rfl ?_
      exact x_ireturn hC dJ1_indexOfChar_4cfef_32 hm (rgc (-1) rfl) hF
    · refine x_aload_n hC dJ1_indexOfChar_4cfef_13 rfl 0 rfl ?_
      refine x_iload hC dJ1_indexOfChar_4cfef_14 rfl 3 rfl ?_
      refine x_strB hC dJ1_indexOfChar_4cfef_16 rfl hv5 hF (fun x2 hx2 hF => ?_)
      refine x_iload hC dJ1_indexOfChar_4cfef_17 rfl 2 rfl ?_
      refine x_icmp_ne (tgt := 25) hC dJ1_indexOfChar_4cfef_19 rfl rfl hx2 hv4 hF (fun hq3 hF => ?_) (fun hq3 hF => ?_)
      · refine x_iinc (p := 3) (lv' := [(0, .ref (bU b)), (3, iV v3), (4, iV v4)]) hC dJ1_indexOfChar_4cfef_25 rfl rfl (by decide) rfl hF (fun x4 hx4 hF => ?_)
        refine x_goto (tgt := 7) hC dJ1_indexOfChar_4cfef_28 rfl ?_
        refine x_sub [1, 2, 3, 0] rfl ?_
        exact ih v3 hv3 v4 hv4 x4 hx4 m hm hF
      · refine x_iload hC dJ1_indexOfChar_4cfef_22 rfl 3 rfl ?_
        exact x_ireturn hC dJ1_indexOfChar_4cfef_24 hm hv5 hF
set_option maxRecDepth 20000 in
set_option maxHeartbeats 4000000 in
theorem T_J1_indexOfChar_4cfef (b : Bs) (o : Mm) (m : Mm) (a1 : Int) (ha1 : inR a1) (a2 : Int) (ha2 : inR a2) (a3 : Int) (ha3 : inR a3) {r : Int} {m' : Mm} (h : F_J1_indexOfChar_4cfef a1 a2 a3 m = some (r, m')) : Cn yJ1_indexOfChar_4cfef cJ1_indexOfChar_4cfef 6 (some .int) (0) 0 0 1 b (true, o) m [.ref (bU b), iV a1, iV a2, iV a3] (F_J1_indexOfChar_4cfef a1 a2 a3 m) := by
  refine Cn_ofF (by decide +kernel) (Nat.le_of_ble_eq_true rfl) (fun g hC hm => ?_)
  have hF := okR_some h
  generalize hQ : (fun (r : Int) (m' : Mm) => F_J1_indexOfChar_4cfef a1 a2 a3 m = some (r, m')) = Q at hF ⊢
  clear hQ h
  replace hC : Cok g b RJ1 cJ1_indexOfChar_4cfef 6 0 (some .int) := hC
  refine x_lv (lv' := [(0, .ref (bU b)), (1, iV a1), (2, iV a2), (3, iV a3)]) rfl ?_
  unfold F_J1_indexOfChar_4cfef at hF
  refine x_iload_n hC dJ1_indexOfChar_4cfef_0 rfl 1 rfl ?_
  refine x_i2b hC dJ1_indexOfChar_4cfef_1 rfl ?_
  refine x_istore (lv' := [(0, .ref (bU b)), (1, iV a1), (2, iV a2), (3, iV a3)]) hC dJ1_indexOfChar_4cfef_2 rfl (by decide) rfl (rg_tI _) hF (fun x1 hx1 hF => ?_)
  refine x_iload_n hC dJ1_indexOfChar_4cfef_4 rfl 3 rfl ?_
  refine x_istore (lv' := [(4, iV x1), (0, .ref (bU b)), (1, iV a1), (2, iV a2), (3, iV a3)]) hC dJ1_indexOfChar_4cfef_5 rfl (by decide) rfl ha2 hF (fun x2 hx2 hF => ?_)
  refine x_sub [2, 5, 1, 0] rfl ?_
  exact WL_J1_indexOfChar_4cfef_7 hC 100000  a3 ha3 x1 hx1 x2 hx2 m hm hF
set_option maxRecDepth 20000 in
set_option maxHeartbeats 4000000 in
theorem T_J1_indexOf_4cfef (b : Bs) (o : Mm) (m : Mm) (a1 : Int) (ha1 : inR a1) (a2 : Int) (ha2 : inR a2) (a3 : Int) (ha3 : inR a3) {r : Int} {m' : Mm} (h : F_J1_indexOf_4cfef a1 a2 a3 m = some (r, m')) : Cn yJ1_indexOf_4cfef cJ1_indexOf_4cfef 4 (some .int) (1) 0 0 1 b (true, o) m [.ref (bU b), iV a1, iV a2, iV a3] (F_J1_indexOf_4cfef a1 a2 a3 m) := by
  refine Cn_ofF (by decide +kernel) (Nat.le_of_ble_eq_true rfl) (fun g hC hm => ?_)
  have hF := okR_some h
  generalize hQ : (fun (r : Int) (m' : Mm) => F_J1_indexOf_4cfef a1 a2 a3 m = some (r, m')) = Q at hF ⊢
  clear hQ h
  replace hC : Cok g b RJ1 cJ1_indexOf_4cfef 4 1 (some .int) := hC
  refine x_lv (lv' := [(0, .ref (bU b)), (1, iV a1), (2, iV a2), (3, iV a3)]) rfl ?_
  unfold F_J1_indexOf_4cfef at hF
  refine x_iload_n hC dJ1_indexOf_4cfef_0 rfl 1 rfl ?_
  refine x_callS3 (kc2 := 0) (ks2 := 0) (As := [iV a1]) (rest := []) hC dJ1_indexOf_4cfef_1 rfl hm (fun _ _ h => T_J1_canEncode_9a6ad b _ m a1 ha1 h) mlJ1_88 vsJ1_canEncode_9a6ad rfl rfl (Nat.le_of_ble_eq_true rfl) (by decide) (by decide) rfl rfl hF (fun r1 m2 hr1 hm2 hF => ?_)
  refine x_if_ne (tgt := 9) hC dJ1_indexOf_4cfef_4 rfl rfl (rg_01 hr1) hF (fun hq3 hF => ?_) (fun hq3 hF => ?_)
  · refine x_iload_n hC dJ1_indexOf_4cfef_9 rfl 2 rfl ?_
    refine x_iconst hC dJ1_indexOf_4cfef_10 rfl ?_
    refine x_callS1 (kc2 := 0) (ks2 := 0) (As := [iV a2, iV 0]) (rest := []) hC dJ1_indexOf_4cfef_11 rfl hm2 (fun _ _ h => T_J9_max_7cf53 b _ m2 a2 ha2 0 (rgc 0 rfl) h) mlJ1_92 vsJ9_max_7cf53 rfl rfl (Nat.le_of_ble_eq_true rfl) (by decide) (by decide) rfl rfl hF (fun r4 m5 hr4 hm5 hF => ?_)
    refine x_istore_n (lv' := [(0, .ref (bU b)), (1, iV a1), (3, iV a3)]) hC dJ1_indexOf_4cfef_14 rfl rfl (by decide) rfl hr4 hF (fun x6 hx6 hF => ?_)
    refine x_iload_n hC dJ1_indexOf_4cfef_15 rfl 3 rfl ?_
    refine x_aload_n hC dJ1_indexOf_4cfef_16 rfl 1 rfl ?_
    refine x_strL hC dJ1_indexOf_4cfef_17 rfl ?_
    refine x_callS1 (kc2 := 0) (ks2 := 0) (As := [iV a3, iV 10]) (rest := []) hC dJ1_indexOf_4cfef_18 rfl hm5 (fun _ _ h => T_J9_min_7cf53 b _ m5 a3 ha3 10 (rgc 10 rfl) h) mlJ1_38 vsJ9_min_7cf53 rfl rfl (Nat.le_of_ble_eq_true rfl) (by decide) (by decide) rfl rfl hF (fun r7 m8 hr7 hm8 hF => ?_)
    refine x_istore_n (lv' := [(2, iV x6), (0, .ref (bU b)), (1, iV a1)]) hC dJ1_indexOf_4cfef_21 rfl rfl (by decide) rfl hr7 hF (fun x9 hx9 hF => ?_)
    refine x_iload_n hC dJ1_indexOf_4cfef_22 rfl 1 rfl ?_
    refine x_iload_n hC dJ1_indexOf_4cfef_23 rfl 0 rfl ?_
    refine x_icmp_lt (tgt := 29) hC dJ1_indexOf_4cfef_24 rfl rfl hx6 hx9 hF (fun hq10 hF => ?_) (fun hq10 hF => ?_)
    · refine x_aload_n hC dJ1_indexOf_4cfef_29 rfl 2 rfl ?_
      refine x_iload_n hC dJ1_indexOf_4cfef_30 rfl 3 rfl ?_
      refine x_iload_n hC dJ1_indexOf_4cfef_31 rfl 1 rfl ?_
      refine x_iload_n hC dJ1_indexOf_4cfef_32 rfl 0 rfl ?_
      refine x_callS1 (kc2 := 0) (ks2 := 0) (As := [.ref (bU b), iV a1, iV x6, iV x9]) (rest := []) hC dJ1_indexOf_4cfef_33 rfl hm8 (fun _ _ h => T_J1_indexOfChar_4cfef b _ m8 a1 ha1 x6 hx6 x9 hx9 h) mlJ1_95 vsJ1_indexOfChar_4cfef rfl rfl (Nat.le_of_ble_eq_true rfl) (by decide) (by decide) rfl rfl hF (fun r11 m12 hr11 hm12 hF => ?_)
      exact x_ireturn hC dJ1_indexOf_4cfef_36 hm12 hr11 hF
    · refine x_iconst hC dJ1_indexOf_4cfef_27 rfl ?_
      exact x_ireturn hC dJ1_indexOf_4cfef_28 hm8 (rgc (-1) rfl) hF
  · refine x_iconst hC dJ1_indexOf_4cfef_7 rfl ?_
    exact x_ireturn hC dJ1_indexOf_4cfef_8 hm2 (rgc (-1) rfl) hF
set_option maxRecDepth 20000 in
set_option maxHeartbeats 4000000 in
theorem T_J0_indexOf_7cf53 (b : Bs) (o : Mm) (m : Mm) (a1 : Int) (ha1 : inR a1) (a2 : Int) (ha2 : inR a2) {r : Int} {m' : Mm} (h : F_J0_indexOf_7cf53 a1 a2 m = some (r, m')) : Cn yJ0_indexOf_7cf53 cJ0_indexOf_7cf53 3 (some .int) (2) 0 0 1 b (true, o) m [.ref (bT b), iV a1, iV a2] (F_J0_indexOf_7cf53 a1 a2 m) := by
  refine Cn_ofF (by decide +kernel) (Nat.le_of_ble_eq_true rfl) (fun g hC hm => ?_)
  have hF := okR_some h
  generalize hQ : (fun (r : Int) (m' : Mm) => F_J0_indexOf_7cf53 a1 a2 m = some (r, m')) = Q at hF ⊢
  clear hQ h
  replace hC : Cok g b RJ0 cJ0_indexOf_7cf53 3 2 (some .int) := hC
  refine x_lv (lv' := [(0, .ref (bT b)), (1, iV a1), (2, iV a2)]) rfl ?_
  unfold F_J0_indexOf_7cf53 at hF
  refine x_aload_n hC dJ0_indexOf_7cf53_0 rfl 0 rfl ?_
  refine x_callVS3 (kc2 := 0) (ks2 := 0) (As := []) (rest := []) hC dJ0_indexOf_7cf53_1 rfl hm (fun _ _ h => T_J0_isLatin1_aae02 b _ m  h) mlJ0_492 vlJ0_isLatin1_aae02 rfl rfl (Nat.le_of_ble_eq_true rfl) (by decide) (by decide) rfl rfl hF (fun r1 m2 hr1 hm2 hF => ?_)
  refine x_if_eq (tgt := 23) hC dJ0_indexOf_7cf53_4 rfl rfl (rg_01 hr1) hF (fun hq3 hF => ?_) (fun hq3 hF => ?_)
  · exact absurd hF (fun z => z)
  · refine x_aload_n hC dJ0_indexOf_7cf53_7 rfl 0 rfl ?_
    refine x_strV hC dJ0_indexOf_7cf53_8 rfl kst_9 ?_
    refine x_iload_n hC dJ0_indexOf_7cf53_11 rfl 1 rfl ?_
    refine x_iload_n hC dJ0_indexOf_7cf53_12 rfl 2 rfl ?_
    refine x_aload_n hC dJ0_indexOf_7cf53_13 rfl 0 rfl ?_
    refine x_callVS1 (kc2 := 0) (ks2 := 0) (As := []) (rest := [iV a2, iV a1, .ref (bU b)]) hC dJ0_indexOf_7cf53_14 rfl hm2 (fun _ _ h => T_J0_length_8abf5 b _ m2  h) mlJ0_505 vlJ0_length_8abf5 rfl rfl (Nat.le_of_ble_eq_true rfl) (by decide) (by decide) rfl rfl hF (fun r4 m5 hr4 hm5 hF => ?_)
    refine x_callS1 (kc2 := 0) (ks2 := 0) (As := [.ref (bU b), iV a1, iV a2, iV r4]) (rest := []) hC dJ0_indexOf_7cf53_17 rfl hm5 (fun _ _ h => T_J1_indexOf_4cfef b _ m5 a1 ha1 a2 ha2 r4 hr4 h) mlJ0_637 vsJ1_indexOf_4cfef rfl rfl (Nat.le_of_ble_eq_true rfl) (by decide) (by decide) rfl rfl hF (fun r6 m7 hr6 hm7 hF => ?_)
    refine x_goto (tgt := 36) hC dJ0_indexOf_7cf53_20 rfl ?_
    exact x_ireturn hC dJ0_indexOf_7cf53_36 hm7 hr6 hF
set_option maxRecDepth 20000 in
set_option maxHeartbeats 4000000 in
theorem T_J0_indexOf_0f7a4 (b : Bs) (o : Mm) (m : Mm) (a1 : Int) (ha1 : inR a1) {r : Int} {m' : Mm} (h : F_J0_indexOf_0f7a4 a1 m = some (r, m')) : Cn yJ0_indexOf_0f7a4 cJ0_indexOf_0f7a4 2 (some .int) (3) 0 0 1 b (true, o) m [.ref (bT b), iV a1] (F_J0_indexOf_0f7a4 a1 m) := by
  refine Cn_ofF (by decide +kernel) (Nat.le_of_ble_eq_true rfl) (fun g hC hm => ?_)
  have hF := okR_some h
  generalize hQ : (fun (r : Int) (m' : Mm) => F_J0_indexOf_0f7a4 a1 m = some (r, m')) = Q at hF ⊢
  clear hQ h
  replace hC : Cok g b RJ0 cJ0_indexOf_0f7a4 2 3 (some .int) := hC
  refine x_lv (lv' := [(0, .ref (bT b)), (1, iV a1)]) rfl ?_
  unfold F_J0_indexOf_0f7a4 at hF
  refine x_aload_n hC dJ0_indexOf_0f7a4_0 rfl 0 rfl ?_
  refine x_iload_n hC dJ0_indexOf_0f7a4_1 rfl 1 rfl ?_
  refine x_iconst hC dJ0_indexOf_0f7a4_2 rfl ?_
  refine x_callVS1 (kc2 := 0) (ks2 := 0) (As := [iV a1, iV 0]) (rest := []) hC dJ0_indexOf_0f7a4_3 rfl hm (fun _ _ h => T_J0_indexOf_7cf53 b _ m a1 ha1 0 (rgc 0 rfl) h) mlJ0_633 vlJ0_indexOf_7cf53 rfl rfl (Nat.le_of_ble_eq_true rfl) (by decide) (by decide) rfl rfl hF (fun r1 m2 hr1 hm2 hF => ?_)
  exact x_ireturn hC dJ0_indexOf_0f7a4_6 hm2 hr1 hF
set_option maxRecDepth 20000 in
set_option maxHeartbeats 4000000 in
theorem WJ_X2_letter_40 {g : Gx} {b : Bs} {o : Mm} {Q : Int → Mm → Prop} (hC : Cok g b RX2 cX2_letter 3 4 none) (v2 : Int) (hv2 : inR v2) (m : Mm) (hm : Rg m) (hF : okR (J_X2_letter_40 v2 m) Q) : X g b (true, o) 3 (ZM g b (true, o) 0 Q) 40 [(0, .ref (b.1 + 32)), (2, iV v2)] [] m 0 0 := by
  unfold J_X2_letter_40 at hF
  refine x_aload_n hC dX2_letter_40 rfl 0 rfl ?_
  refine x_dup hC dX2_letter_41 rfl rfl ?_
  refine x_getI hC dX2_letter_42 rfl flX2_40 rfl (by decide) rfl rfl ?_
  refine x_iconst hC dX2_letter_45 rfl ?_
  refine x_iadd hC dX2_letter_46 rfl ?_
  refine x_putI hC dX2_letter_47 rfl fpX2_40 rfl (by decide) (by decide) rfl rfl hm (rg_wr _) rfl hF (fun m1 hm1 hF => ?_)
  refine x_aload_n hC dX2_letter_50 rfl 0 rfl ?_
  refine x_getD hC dX2_letter_51 rfl flX2_15 rfl (by decide) rfl rfl ?_
  refine x_iconst hC dX2_letter_54 rfl ?_
  refine x_iload_n hC dX2_letter_55 rfl 1 rfl ?_
  refine x_grd hF (fun hg2 hF => ?_)
  refine x_callV1 (kc2 := 0) (ks2 := 0) (k := (m1 32 1).toNat) (As := [iV 1, iV v2]) (rest := []) hC dX2_letter_56 rfl hm1 (fun _ _ h => T_X0_add b _ m1 (m1 32 1).toNat (isCd_k hg2) 1 (rgc 1 rfl) v2 hv2 h) mlX2_88 vlX0_add (isCd_k hg2).1 (isCd_k hg2).2.1 rfl rfl (Nat.le_of_ble_eq_true rfl) (by decide) (by decide) rfl rfl hF (fun r3 m4 hr3 hm4 hF => ?_)
  refine x_pop hC dX2_letter_59 rfl rfl ?_
  exact x_return hC dX2_letter_60 hm4 hF
set_option maxRecDepth 20000 in
set_option maxHeartbeats 4000000 in
theorem WJ_X2_letter_16 {g : Gx} {b : Bs} {o : Mm} {Q : Int → Mm → Prop} (hC : Cok g b RX2 cX2_letter 3 4 none) (v2 : Int) (hv2 : inR v2) (m : Mm) (hm : Rg m) (hF : okR (J_X2_letter_16 v2 m) Q) : X g b (true, o) 3 (ZM g b (true, o) 0 Q) 16 [(0, .ref (b.1 + 32)), (2, iV v2)] [] m 0 0 := by
  unfold J_X2_letter_16 at hF
  refine x_iload_n hC dX2_letter_16 rfl 1 rfl ?_
  refine x_if_ge (tgt := 26) hC dX2_letter_17 rfl rfl hv2 hF (fun hq1 hF => ?_) (fun hq1 hF => ?_)
  · refine x_iload_n hC dX2_letter_26 rfl 1 rfl ?_
    refine x_bipush hC dX2_letter_27 rfl rfl ?_
    refine x_icmp_ne (tgt := 40) hC dX2_letter_29 rfl rfl hv2 (rgc 9 rfl) hF (fun hq2 hF => ?_) (fun hq2 hF => ?_)
    · exact WJ_X2_letter_40 hC  v2 hv2 m hm hF
    · refine x_aload_n hC dX2_letter_32 rfl 0 rfl ?_
      refine x_getD hC dX2_letter_33 rfl flX2_15 rfl (by decide) rfl rfl ?_
      refine x_iconst hC dX2_letter_36 rfl ?_
      refine x_grd hF (fun hg3 hF => ?_)
      refine x_putZ hC dX2_letter_37 rfl fpX2_125 (isCd_k hg3).1 (isCd_k hg3).2.1 (isCd_k hg3).n0 rfl (isCd_k hg3).2.2.1 hm (Or.inr rfl) (isCd_k hg3).lg hF (fun m4 hm4 hF => ?_)
      exact WJ_X2_letter_40 hC  v2 hv2 m4 hm4 hF
  · refine x_aload_n hC dX2_letter_20 rfl 0 rfl ?_
    refine x_iconst hC dX2_letter_21 rfl ?_
    refine x_callV0 (kc2 := 0) (ks2 := 0) (k := 32) (As := [iV 1]) (rest := []) hC dX2_letter_22 rfl hm (fun _ _ h => T_X2_fail b _ m 1 (rgc 1 rfl) h) mlX2_63 vlX2_fail rfl (by decide) rfl rfl (Nat.le_of_ble_eq_true rfl) (by decide) (by decide) rfl rfl hF (fun r5 m6 hr5 hm6 hF => ?_)
    exact x_return hC dX2_letter_25 hm6 hF
set_option maxRecDepth 20000 in
set_option maxHeartbeats 4000000 in
theorem T_X2_letter (b : Bs) (o : Mm) (m : Mm) (a1 : Int) (ha1 : inR a1) {r : Int} {m' : Mm} (h : F_X2_letter a1 m = some (r, m')) : Cn yX2_letter cX2_letter 3 none (4) 0 0 0 b (true, o) m [.ref (b.1 + 32), iV a1] (F_X2_letter a1 m) := by
  refine Cn_of rfl (Nat.le_of_ble_eq_true rfl) (fun g hC hm => ?_)
  have hF := okR_some h
  generalize hQ : (fun (r : Int) (m' : Mm) => F_X2_letter a1 m = some (r, m')) = Q at hF ⊢
  clear hQ h
  replace hC : Cok g b RX2 cX2_letter 3 4 none := hC
  refine x_lv (lv' := [(0, .ref (b.1 + 32)), (1, iV a1)]) rfl ?_
  unfold F_X2_letter at hF
  refine x_iload_n hC dX2_letter_0 rfl 1 rfl ?_
  refine x_if_ge (tgt := 8) hC dX2_letter_1 rfl rfl ha1 hF (fun hq1 hF => ?_) (fun hq1 hF => ?_)
  · refine x_ldcS hC dX2_letter_8 rfl ?_
    refine x_iload_n hC dX2_letter_10 rfl 1 rfl ?_
    refine x_i2c hC dX2_letter_11 rfl ?_
    refine x_callVS1 (kc2 := 0) (ks2 := 0) (As := [iV (i2c a1)]) (rest := []) hC dX2_letter_12 rfl hm (fun _ _ h => T_J0_indexOf_0f7a4 b _ m (i2c a1) (rg_tI _) h) mlX2_118 vlJ0_indexOf_0f7a4 rfl rfl (Nat.le_of_ble_eq_true rfl) (by decide) (by decide) rfl rfl hF (fun r2 m3 hr2 hm3 hF => ?_)
    refine x_istore_n (lv' := [(0, .ref (b.1 + 32)), (1, iV a1)]) hC dX2_letter_15 rfl rfl (by decide) rfl hr2 hF (fun x4 hx4 hF => ?_)
    refine x_sub [1, 0] rfl ?_
    exact WJ_X2_letter_16 hC  x4 hx4 m3 hm3 hF
  · refine x_iconst hC dX2_letter_4 rfl ?_
    refine x_goto (tgt := 15) hC dX2_letter_5 rfl ?_
    refine x_istore_n (lv' := [(0, .ref (b.1 + 32)), (1, iV a1)]) hC dX2_letter_15 rfl rfl (by decide) rfl (rgc (-1) rfl) hF (fun x5 hx5 hF => ?_)
    refine x_sub [1, 0] rfl ?_
    exact WJ_X2_letter_16 hC  x5 hx5 m hm hF
set_option maxRecDepth 20000 in
set_option maxHeartbeats 4000000 in
theorem WL_X2_number_4 {g : Gx} {b : Bs} {o : Mm} {Q : Int → Mm → Prop} (hC : Cok g b RX2 cX2_number 3 1 none) : ∀ n : Nat, ∀ v1 : Int, inR v1 → ∀ v2 : Int, inR v2 → ∀ m : Mm, Rg m → okR (L_X2_number_4 n v1 v2 m) Q → X g b (true, o) 3 (ZM g b (true, o) 0 Q) 4 [(0, .ref (b.1 + 32)), (1, iV v1), (2, iV v2)] [] m 0 0 := by
  intro n
  induction n with
  | zero => intro v1 hv1 v2 hv2 m hm hF; exact absurd hF (fun z => z)
  | succ n ih =>
    intro v1 hv1 v2 hv2 m hm hF
    have hF : okR (LB_X2_number_4 (L_X2_number_4 n) v1 v2 m) Q := hF
    unfold LB_X2_number_4 at hF
    refine x_aload_n hC dX2_number_4 rfl 0 rfl ?_
    refine x_callV1 (kc2 := 0) (ks2 := 0) (k := 32) (As := []) (rest := []) hC dX2_number_5 rfl hm (fun _ _ h => T_X2_next b _ m  h) mlX2_59 vlX2_next rfl (by decide) rfl rfl (Nat.le_of_ble_eq_true rfl) (by decide) (by decide) rfl rfl hF (fun r1 m2 hr1 hm2 hF => ?_)
    refine x_callS3 (kc2 := 0) (ks2 := 0) (As := [iV r1]) (rest := []) hC dX2_number_8 rfl hm2 (fun _ _ h => T_X2_isDigit b _ m2 r1 hr1 h) mlX2_106 vsX2_isDigit rfl rfl (Nat.le_of_ble_eq_true rfl) (by decide) (by decide) rfl rfl hF (fun r3 m4 hr3 hm4 hF => ?_)
    refine x_if_eq (tgt := 54) hC dX2_number_11 rfl rfl (rg_01 hr3) hF (fun hq5 hF => ?_) (fun hq5 hF => ?_)
    · refine x_aload_n hC dX2_number_54 rfl 0 rfl ?_
      refine x_getD hC dX2_number_55 rfl flX2_15 rfl (by decide) rfl rfl ?_
      refine x_iconst hC dX2_number_58 rfl ?_
      refine x_iload_n hC dX2_number_59 rfl 1 rfl ?_
      refine x_grd hF (fun hg6 hF => ?_)
      refine x_callV1 (kc2 := 0) (ks2 := 0) (k := (m4 32 1).toNat) (As := [iV 0, iV v1]) (rest := []) hC dX2_number_60 rfl hm4 (fun _ _ h => T_X0_add b _ m4 (m4 32 1).toNat (isCd_k hg6) 0 (rgc 0 rfl) v1 hv1 h) mlX2_88 vlX0_add (isCd_k hg6).1 (isCd_k hg6).2.1 rfl rfl (Nat.le_of_ble_eq_true rfl) (by decide) (by decide) rfl rfl hF (fun r7 m8 hr7 hm8 hF => ?_)
      refine x_pop hC dX2_number_63 rfl rfl ?_
      exact x_return hC dX2_number_64 hm8 hF
    · refine x_iload_n hC dX2_number_14 rfl 2 rfl ?_
      refine x_iconst hC dX2_number_15 rfl ?_
      refine x_icmp_ne (tgt := 25) hC dX2_number_16 rfl rfl hv2 (rgc 5 rfl) hF (fun hq9 hF => ?_) (fun hq9 hF => ?_)
      · refine x_bipush hC dX2_number_25 rfl rfl ?_
        refine x_iload_n hC dX2_number_27 rfl 1 rfl ?_
        refine x_imul hC dX2_number_28 rfl ?_
        refine x_aload_n hC dX2_number_29 rfl 0 rfl ?_
        refine x_callV1 (kc2 := 0) (ks2 := 0) (k := 32) (As := []) (rest := [iV (wr (10 * v1))]) hC dX2_number_30 rfl hm4 (fun _ _ h => T_X2_next b _ m4  h) mlX2_59 vlX2_next rfl (by decide) rfl rfl (Nat.le_of_ble_eq_true rfl) (by decide) (by decide) rfl rfl hF (fun r10 m11 hr10 hm11 hF => ?_)
        refine x_iadd hC dX2_number_33 rfl ?_
        refine x_bipush hC dX2_number_34 rfl rfl ?_
        refine x_isub hC dX2_number_36 rfl ?_
        refine x_istore_n (lv' := [(0, .ref (b.1 + 32)), (2, iV v2)]) hC dX2_number_37 rfl rfl (by decide) rfl (rg_wr _) hF (fun x12 hx12 hF => ?_)
        refine x_aload_n hC dX2_number_38 rfl 1 rfl ?_
        refine x_dup hC dX2_number_39 rfl rfl ?_
        refine x_getI hC dX2_number_40 rfl flX2_40 rfl (by decide) rfl rfl ?_
        refine x_iconst hC dX2_number_43 rfl ?_
        refine x_iadd hC dX2_number_44 rfl ?_
        refine x_putI hC dX2_number_45 rfl fpX2_40 rfl (by decide) (by decide) rfl rfl hm11 (rg_wr _) rfl hF (fun m13 hm13 hF => ?_)
        refine x_iinc (p := 2) (lv' := [(1, iV x12), (0, .ref (b.1 + 32))]) hC dX2_number_48 rfl rfl (by decide) rfl hF (fun x14 hx14 hF => ?_)
        refine x_goto (tgt := 4) hC dX2_number_51 rfl ?_
        refine x_sub [2, 1, 0] rfl ?_
        exact ih x12 hx12 x14 hx14 m13 hm13 hF
      · refine x_aload_n hC dX2_number_19 rfl 0 rfl ?_
        refine x_iconst hC dX2_number_20 rfl ?_
        refine x_callV0 (kc2 := 0) (ks2 := 0) (k := 32) (As := [iV 2]) (rest := []) hC dX2_number_21 rfl hm4 (fun _ _ h => T_X2_fail b _ m4 2 (rgc 2 rfl) h) mlX2_63 vlX2_fail rfl (by decide) rfl rfl (Nat.le_of_ble_eq_true rfl) (by decide) (by decide) rfl rfl hF (fun r15 m16 hr15 hm16 hF => ?_)
        exact x_return hC dX2_number_24 hm16 hF
set_option maxRecDepth 20000 in
set_option maxHeartbeats 4000000 in
theorem T_X2_number (b : Bs) (o : Mm) (m : Mm) {r : Int} {m' : Mm} (h : F_X2_number  m = some (r, m')) : Cn yX2_number cX2_number 3 none (1) 0 0 0 b (true, o) m [.ref (b.1 + 32)] (F_X2_number  m) := by
  refine Cn_of rfl (Nat.le_of_ble_eq_true rfl) (fun g hC hm => ?_)
  have hF := okR_some h
  generalize hQ : (fun (r : Int) (m' : Mm) => F_X2_number  m = some (r, m')) = Q at hF ⊢
  clear hQ h
  replace hC : Cok g b RX2 cX2_number 3 1 none := hC
  refine x_lv (lv' := [(0, .ref (b.1 + 32))]) rfl ?_
  unfold F_X2_number at hF
  refine x_iconst hC dX2_number_0 rfl ?_
  refine x_istore_nZ (lv' := [(0, .ref (b.1 + 32))]) hC dX2_number_1 rfl rfl (by decide) rfl (Or.inl rfl) hF (fun x1 hx1 hF => ?_)
  refine x_iconst hC dX2_number_2 rfl ?_
  refine x_istore_nZ (lv' := [(1, iV x1), (0, .ref (b.1 + 32))]) hC dX2_number_3 rfl rfl (by decide) rfl (Or.inl rfl) hF (fun x2 hx2 hF => ?_)
  refine x_sub [2, 1, 0] rfl ?_
  exact WL_X2_number_4 hC 100000  x1 (rg_01 hx1) x2 (rg_01 hx2) m hm hF
set_option maxRecDepth 20000 in
set_option maxHeartbeats 4000000 in
theorem WJ_X2_sum_38 {g : Gx} {b : Bs} {o : Mm} {Q : Int → Mm → Prop} {d : Nat} {f_product : Mm → Rs} {k_6 : Int → Mm → Rs} (hC : Cok g b RX2 cX2_sum 3 (d + 5 + 1) none) (hf_product : ∀ (m : Mm)  {r : Int} {m' : Mm}, f_product  m = some (r, m') → Cn yX2_product cX2_product 3 none (d + 5) 0 0 0 b (true, o) m [.ref (b.1 + 32)] (f_product  m)) (hk_6 : ∀ v1 : Int, inR v1 → ∀ m : Mm, Rg m → okR (k_6 v1 m) Q → X g b (true, o) 3 (ZM g b (true, o) 0 Q) 6 [(0, .ref (b.1 + 32)), (1, iV v1)] [] m 0 0) (v1 : Int) (hv1 : inR v1) (v2 : Int) (hv2 : inR v2) (m : Mm) (hm : Rg m) (hF : okR (J_X2_sum_38 f_product k_6 v1 v2 m) Q) : X g b (true, o) 3 (ZM g b (true, o) 0 Q) 38 [(0, .ref (b.1 + 32)), (1, iV v1), (2, iV v2)] [] m 0 0 := by
  unfold J_X2_sum_38 at hF
  refine x_aload_n hC dX2_sum_38 rfl 0 rfl ?_
  refine x_dup hC dX2_sum_39 rfl rfl ?_
  refine x_getI hC dX2_sum_40 rfl flX2_40 rfl (by decide) rfl rfl ?_
  refine x_iconst hC dX2_sum_43 rfl ?_
  refine x_iadd hC dX2_sum_44 rfl ?_
  refine x_putI hC dX2_sum_45 rfl fpX2_40 rfl (by decide) (by decide) rfl rfl hm (rg_wr _) rfl hF (fun m1 hm1 hF => ?_)
  refine x_aload_n hC dX2_sum_48 rfl 0 rfl ?_
  refine x_callV0 (kc2 := 0) (ks2 := 0) (k := 32) (As := []) (rest := []) hC dX2_sum_49 rfl hm1 (fun _ _ h => hf_product m1  h) mlX2_100 vlX2_product rfl (by decide) rfl rfl (Nat.le_of_ble_eq_true rfl) (by omega) (by decide) rfl rfl hF (fun r2 m3 hr2 hm3 hF => ?_)
  refine x_aload_n hC dX2_sum_52 rfl 0 rfl ?_
  refine x_getD hC dX2_sum_53 rfl flX2_15 rfl (by decide) rfl rfl ?_
  refine x_iload_n hC dX2_sum_56 rfl 2 rfl ?_
  refine x_iconst hC dX2_sum_57 rfl ?_
  refine x_grd hF (fun hg4 hF => ?_)
  refine x_callV1 (kc2 := 0) (ks2 := 0) (k := (m3 32 1).toNat) (As := [iV v2, iV 0]) (rest := []) hC dX2_sum_58 rfl hm3 (fun _ _ h => T_X0_add b _ m3 (m3 32 1).toNat (isCd_k hg4) v2 hv2 0 (rgc 0 rfl) h) mlX2_88 vlX0_add (isCd_k hg4).1 (isCd_k hg4).2.1 rfl rfl (Nat.le_of_ble_eq_true rfl) (by omega) (by decide) rfl rfl hF (fun r5 m6 hr5 hm6 hF => ?_)
  refine x_pop hC dX2_sum_61 rfl rfl ?_
  refine x_iinc (p := 1) (lv' := [(0, .ref (b.1 + 32)), (2, iV v2)]) hC dX2_sum_62 rfl rfl (by decide) rfl hF (fun x7 hx7 hF => ?_)
  refine x_goto (tgt := 6) hC dX2_sum_65 rfl ?_
  refine x_sub [1, 0] rfl ?_
  exact hk_6 x7 hx7 m6 hm6 hF
set_option maxRecDepth 20000 in
set_option maxHeartbeats 4000000 in
theorem WL_X2_sum_6 {g : Gx} {b : Bs} {o : Mm} {Q : Int → Mm → Prop} {d : Nat} {f_product : Mm → Rs} (hC : Cok g b RX2 cX2_sum 3 (d + 5 + 1) none) (hf_product : ∀ (m : Mm)  {r : Int} {m' : Mm}, f_product  m = some (r, m') → Cn yX2_product cX2_product 3 none (d + 5) 0 0 0 b (true, o) m [.ref (b.1 + 32)] (f_product  m)) : ∀ n : Nat, ∀ v1 : Int, inR v1 → ∀ m : Mm, Rg m → okR (L_X2_sum_6 f_product n v1 m) Q → X g b (true, o) 3 (ZM g b (true, o) 0 Q) 6 [(0, .ref (b.1 + 32)), (1, iV v1)] [] m 0 0 := by
  intro n
  induction n with
  | zero => intro v1 hv1 m hm hF; exact absurd hF (fun z => z)
  | succ n ih =>
    intro v1 hv1 m hm hF
    have hF : okR (LB_X2_sum_6 f_product (L_X2_sum_6 f_product n) v1 m) Q := hF
    unfold LB_X2_sum_6 at hF
    refine x_iload_n hC dX2_sum_6 rfl 1 rfl ?_
    refine x_sipush hC dX2_sum_7 rfl rfl ?_
    refine x_icmp_ge (tgt := 68) hC dX2_sum_10 rfl rfl hv1 (rgc 200 rfl) hF (fun hq1 hF => ?_) (fun hq1 hF => ?_)
    · exact x_return hC dX2_sum_68 hm hF
    · refine x_aload_n hC dX2_sum_13 rfl 0 rfl ?_
      refine x_getI hC dX2_sum_14 rfl flX2_46 rfl (by decide) rfl rfl ?_
      refine x_if_ne (tgt := 68) hC dX2_sum_17 rfl rfl (hm.i 32 5 rfl) hF (fun hq2 hF => ?_) (fun hq2 hF => ?_)
      · exact x_return hC dX2_sum_68 hm hF
      · refine x_aload_n hC dX2_sum_20 rfl 0 rfl ?_
        refine x_callV1 (kc2 := 0) (ks2 := 0) (k := 32) (As := []) (rest := []) hC dX2_sum_21 rfl hm (fun _ _ h => T_X2_next b _ m  h) mlX2_59 vlX2_next rfl (by decide) rfl rfl (Nat.le_of_ble_eq_true rfl) (by omega) (by decide) rfl rfl hF (fun r3 m4 hr3 hm4 hF => ?_)
        refine x_istore_n (lv' := [(0, .ref (b.1 + 32)), (1, iV v1)]) hC dX2_sum_24 rfl rfl (by decide) rfl hr3 hF (fun x5 hx5 hF => ?_)
        refine x_iload_n hC dX2_sum_25 rfl 0 rfl ?_
        refine x_bipush hC dX2_sum_26 rfl rfl ?_
        refine x_icmp_eq (tgt := 38) hC dX2_sum_28 rfl rfl hx5 (rgc 43 rfl) hF (fun hq6 hF => ?_) (fun hq6 hF => ?_)
        · refine x_sub [1, 2, 0] rfl ?_
          exact WJ_X2_sum_38 hC hf_product ih  v1 hv1 x5 hx5 m4 hm4 hF
        · refine x_iload_n hC dX2_sum_31 rfl 0 rfl ?_
          refine x_bipush hC dX2_sum_32 rfl rfl ?_
          refine x_icmp_eq (tgt := 38) hC dX2_sum_34 rfl rfl hx5 (rgc 45 rfl) hF (fun hq7 hF => ?_) (fun hq7 hF => ?_)
          · refine x_sub [1, 2, 0] rfl ?_
            exact WJ_X2_sum_38 hC hf_product ih  v1 hv1 x5 hx5 m4 hm4 hF
          · exact x_return hC dX2_sum_37 hm4 hF
set_option maxRecDepth 20000 in
set_option maxHeartbeats 4000000 in
theorem TO_X2_sum (b : Bs) (o : Mm) (d : Nat) (f_product : Mm → Rs) (hf_product : ∀ (m : Mm)  {r : Int} {m' : Mm}, f_product  m = some (r, m') → Cn yX2_product cX2_product 3 none (d + 5) 0 0 0 b (true, o) m [.ref (b.1 + 32)] (f_product  m)) (m : Mm) {r : Int} {m' : Mm} (h : O_X2_sum f_product  m = some (r, m')) : Cn yX2_sum cX2_sum 3 none ((d + 5 + 1)) 0 0 0 b (true, o) m [.ref (b.1 + 32)] (O_X2_sum f_product  m) := by
  refine Cn_of rfl (Nat.le_of_ble_eq_true rfl) (fun g hC hm => ?_)
  have hF := okR_some h
  generalize hQ : (fun (r : Int) (m' : Mm) => O_X2_sum f_product  m = some (r, m')) = Q at hF ⊢
  clear hQ h
  replace hC : Cok g b RX2 cX2_sum 3 (d + 5 + 1) none := hC
  refine x_lv (lv' := [(0, .ref (b.1 + 32))]) rfl ?_
  unfold O_X2_sum at hF
  refine x_aload_n hC dX2_sum_0 rfl 0 rfl ?_
  refine x_callV0 (kc2 := 0) (ks2 := 0) (k := 32) (As := []) (rest := []) hC dX2_sum_1 rfl hm (fun _ _ h => hf_product m  h) mlX2_100 vlX2_product rfl (by decide) rfl rfl (Nat.le_of_ble_eq_true rfl) (by omega) (by decide) rfl rfl hF (fun r1 m2 hr1 hm2 hF => ?_)
  refine x_iconst hC dX2_sum_4 rfl ?_
  refine x_istore_nZ (lv' := [(0, .ref (b.1 + 32))]) hC dX2_sum_5 rfl rfl (by decide) rfl (Or.inl rfl) hF (fun x3 hx3 hF => ?_)
  refine x_sub [1, 0] rfl ?_
  exact WL_X2_sum_6 hC hf_product 100000  x3 (rg_01 hx3) m2 hm2 hF
set_option maxRecDepth 20000 in
set_option maxHeartbeats 4000000 in
theorem WJ_X2_product_44 {g : Gx} {b : Bs} {o : Mm} {Q : Int → Mm → Prop} {d : Nat} {f_factor : Mm → Rs} {k_6 : Int → Mm → Rs} (hC : Cok g b RX2 cX2_product 3 (d + 5 + 1) none) (hf_factor : ∀ (m : Mm)  {r : Int} {m' : Mm}, f_factor  m = some (r, m') → Cn yX2_factor cX2_factor 2 none (d + 5) 0 0 0 b (true, o) m [.ref (b.1 + 32)] (f_factor  m)) (hk_6 : ∀ v1 : Int, inR v1 → ∀ m : Mm, Rg m → okR (k_6 v1 m) Q → X g b (true, o) 3 (ZM g b (true, o) 0 Q) 6 [(0, .ref (b.1 + 32)), (1, iV v1)] [] m 0 0) (v1 : Int) (hv1 : inR v1) (v2 : Int) (hv2 : inR v2) (m : Mm) (hm : Rg m) (hF : okR (J_X2_product_44 f_factor k_6 v1 v2 m) Q) : X g b (true, o) 3 (ZM g b (true, o) 0 Q) 44 [(0, .ref (b.1 + 32)), (1, iV v1), (2, iV v2)] [] m 0 0 := by
  unfold J_X2_product_44 at hF
  refine x_aload_n hC dX2_product_44 rfl 0 rfl ?_
  refine x_dup hC dX2_product_45 rfl rfl ?_
  refine x_getI hC dX2_product_46 rfl flX2_40 rfl (by decide) rfl rfl ?_
  refine x_iconst hC dX2_product_49 rfl ?_
  refine x_iadd hC dX2_product_50 rfl ?_
  refine x_putI hC dX2_product_51 rfl fpX2_40 rfl (by decide) (by decide) rfl rfl hm (rg_wr _) rfl hF (fun m1 hm1 hF => ?_)
  refine x_aload_n hC dX2_product_54 rfl 0 rfl ?_
  refine x_callV0 (kc2 := 0) (ks2 := 0) (k := 32) (As := []) (rest := []) hC dX2_product_55 rfl hm1 (fun _ _ h => hf_factor m1  h) mlX2_103 vlX2_factor rfl (by decide) rfl rfl (Nat.le_of_ble_eq_true rfl) (by omega) (by decide) rfl rfl hF (fun r2 m3 hr2 hm3 hF => ?_)
  refine x_aload_n hC dX2_product_58 rfl 0 rfl ?_
  refine x_getD hC dX2_product_59 rfl flX2_15 rfl (by decide) rfl rfl ?_
  refine x_iload_n hC dX2_product_62 rfl 2 rfl ?_
  refine x_iconst hC dX2_product_63 rfl ?_
  refine x_grd hF (fun hg4 hF => ?_)
  refine x_callV1 (kc2 := 0) (ks2 := 0) (k := (m3 32 1).toNat) (As := [iV v2, iV 0]) (rest := []) hC dX2_product_64 rfl hm3 (fun _ _ h => T_X0_add b _ m3 (m3 32 1).toNat (isCd_k hg4) v2 hv2 0 (rgc 0 rfl) h) mlX2_88 vlX0_add (isCd_k hg4).1 (isCd_k hg4).2.1 rfl rfl (Nat.le_of_ble_eq_true rfl) (by omega) (by decide) rfl rfl hF (fun r5 m6 hr5 hm6 hF => ?_)
  refine x_pop hC dX2_product_67 rfl rfl ?_
  refine x_iinc (p := 1) (lv' := [(0, .ref (b.1 + 32)), (2, iV v2)]) hC dX2_product_68 rfl rfl (by decide) rfl hF (fun x7 hx7 hF => ?_)
  refine x_goto (tgt := 6) hC dX2_product_71 rfl ?_
  refine x_sub [1, 0] rfl ?_
  exact hk_6 x7 hx7 m6 hm6 hF
set_option maxRecDepth 20000 in
set_option maxHeartbeats 4000000 in
theorem WL_X2_product_6 {g : Gx} {b : Bs} {o : Mm} {Q : Int → Mm → Prop} {d : Nat} {f_factor : Mm → Rs} (hC : Cok g b RX2 cX2_product 3 (d + 5 + 1) none) (hf_factor : ∀ (m : Mm)  {r : Int} {m' : Mm}, f_factor  m = some (r, m') → Cn yX2_factor cX2_factor 2 none (d + 5) 0 0 0 b (true, o) m [.ref (b.1 + 32)] (f_factor  m)) : ∀ n : Nat, ∀ v1 : Int, inR v1 → ∀ m : Mm, Rg m → okR (L_X2_product_6 f_factor n v1 m) Q → X g b (true, o) 3 (ZM g b (true, o) 0 Q) 6 [(0, .ref (b.1 + 32)), (1, iV v1)] [] m 0 0 := by
  intro n
  induction n with
  | zero => intro v1 hv1 m hm hF; exact absurd hF (fun z => z)
  | succ n ih =>
    intro v1 hv1 m hm hF
    have hF : okR (LB_X2_product_6 f_factor (L_X2_product_6 f_factor n) v1 m) Q := hF
    unfold LB_X2_product_6 at hF
    refine x_iload_n hC dX2_product_6 rfl 1 rfl ?_
    refine x_sipush hC dX2_product_7 rfl rfl ?_
    refine x_icmp_ge (tgt := 74) hC dX2_product_10 rfl rfl hv1 (rgc 200 rfl) hF (fun hq1 hF => ?_) (fun hq1 hF => ?_)
    · exact x_return hC dX2_product_74 hm hF
    · refine x_aload_n hC dX2_product_13 rfl 0 rfl ?_
      refine x_getI hC dX2_product_14 rfl flX2_46 rfl (by decide) rfl rfl ?_
      refine x_if_ne (tgt := 74) hC dX2_product_17 rfl rfl (hm.i 32 5 rfl) hF (fun hq2 hF => ?_) (fun hq2 hF => ?_)
      · exact x_return hC dX2_product_74 hm hF
      · refine x_aload_n hC dX2_product_20 rfl 0 rfl ?_
        refine x_callV1 (kc2 := 0) (ks2 := 0) (k := 32) (As := []) (rest := []) hC dX2_product_21 rfl hm (fun _ _ h => T_X2_next b _ m  h) mlX2_59 vlX2_next rfl (by decide) rfl rfl (Nat.le_of_ble_eq_true rfl) (by omega) (by decide) rfl rfl hF (fun r3 m4 hr3 hm4 hF => ?_)
        refine x_istore_n (lv' := [(0, .ref (b.1 + 32)), (1, iV v1)]) hC dX2_product_24 rfl rfl (by decide) rfl hr3 hF (fun x5 hx5 hF => ?_)
        refine x_iload_n hC dX2_product_25 rfl 0 rfl ?_
        refine x_bipush hC dX2_product_26 rfl rfl ?_
        refine x_icmp_eq (tgt := 44) hC dX2_product_28 rfl rfl hx5 (rgc 42 rfl) hF (fun hq6 hF => ?_) (fun hq6 hF => ?_)
        · refine x_sub [1, 2, 0] rfl ?_
          exact WJ_X2_product_44 hC hf_factor ih  v1 hv1 x5 hx5 m4 hm4 hF
        · refine x_iload_n hC dX2_product_31 rfl 0 rfl ?_
          refine x_bipush hC dX2_product_32 rfl rfl ?_
          refine x_icmp_eq (tgt := 44) hC dX2_product_34 rfl rfl hx5 (rgc 47 rfl) hF (fun hq7 hF => ?_) (fun hq7 hF => ?_)
          · refine x_sub [1, 2, 0] rfl ?_
            exact WJ_X2_product_44 hC hf_factor ih  v1 hv1 x5 hx5 m4 hm4 hF
          · refine x_iload_n hC dX2_product_37 rfl 0 rfl ?_
            refine x_bipush hC dX2_product_38 rfl rfl ?_
            refine x_icmp_eq (tgt := 44) hC dX2_product_40 rfl rfl hx5 (rgc 37 rfl) hF (fun hq8 hF => ?_) (fun hq8 hF => ?_)
            · refine x_sub [1, 2, 0] rfl ?_
              exact WJ_X2_product_44 hC hf_factor ih  v1 hv1 x5 hx5 m4 hm4 hF
            · exact x_return hC dX2_product_43 hm4 hF
set_option maxRecDepth 20000 in
set_option maxHeartbeats 4000000 in
theorem TO_X2_product (b : Bs) (o : Mm) (d : Nat) (f_factor : Mm → Rs) (hf_factor : ∀ (m : Mm)  {r : Int} {m' : Mm}, f_factor  m = some (r, m') → Cn yX2_factor cX2_factor 2 none (d + 5) 0 0 0 b (true, o) m [.ref (b.1 + 32)] (f_factor  m)) (m : Mm) {r : Int} {m' : Mm} (h : O_X2_product f_factor  m = some (r, m')) : Cn yX2_product cX2_product 3 none ((d + 5 + 1)) 0 0 0 b (true, o) m [.ref (b.1 + 32)] (O_X2_product f_factor  m) := by
  refine Cn_of rfl (Nat.le_of_ble_eq_true rfl) (fun g hC hm => ?_)
  have hF := okR_some h
  generalize hQ : (fun (r : Int) (m' : Mm) => O_X2_product f_factor  m = some (r, m')) = Q at hF ⊢
  clear hQ h
  replace hC : Cok g b RX2 cX2_product 3 (d + 5 + 1) none := hC
  refine x_lv (lv' := [(0, .ref (b.1 + 32))]) rfl ?_
  unfold O_X2_product at hF
  refine x_aload_n hC dX2_product_0 rfl 0 rfl ?_
  refine x_callV0 (kc2 := 0) (ks2 := 0) (k := 32) (As := []) (rest := []) hC dX2_product_1 rfl hm (fun _ _ h => hf_factor m  h) mlX2_103 vlX2_factor rfl (by decide) rfl rfl (Nat.le_of_ble_eq_true rfl) (by omega) (by decide) rfl rfl hF (fun r1 m2 hr1 hm2 hF => ?_)
  refine x_iconst hC dX2_product_4 rfl ?_
  refine x_istore_nZ (lv' := [(0, .ref (b.1 + 32))]) hC dX2_product_5 rfl rfl (by decide) rfl (Or.inl rfl) hF (fun x3 hx3 hF => ?_)
  refine x_sub [1, 0] rfl ?_
  exact WL_X2_product_6 hC hf_factor 100000  x3 (rg_01 hx3) m2 hm2 hF
set_option maxRecDepth 20000 in
set_option maxHeartbeats 4000000 in
theorem TO_X2_factor (b : Bs) (o : Mm) (d : Nat) (f_sum : Mm → Rs) (hf_sum : ∀ (m : Mm)  {r : Int} {m' : Mm}, f_sum  m = some (r, m') → Cn yX2_sum cX2_sum 3 none (d + 5) 0 0 0 b (true, o) m [.ref (b.1 + 32)] (f_sum  m)) (m : Mm) {r : Int} {m' : Mm} (h : O_X2_factor f_sum  m = some (r, m')) : Cn yX2_factor cX2_factor 2 none ((d + 5 + 1)) 0 0 0 b (true, o) m [.ref (b.1 + 32)] (O_X2_factor f_sum  m) := by
  refine Cn_of rfl (Nat.le_of_ble_eq_true rfl) (fun g hC hm => ?_)
  have hF := okR_some h
  generalize hQ : (fun (r : Int) (m' : Mm) => O_X2_factor f_sum  m = some (r, m')) = Q at hF ⊢
  clear hQ h
  replace hC : Cok g b RX2 cX2_factor 2 (d + 5 + 1) none := hC
  refine x_lv (lv' := [(0, .ref (b.1 + 32))]) rfl ?_
  unfold O_X2_factor at hF
  refine x_aload_n hC dX2_factor_0 rfl 0 rfl ?_
  refine x_getI hC dX2_factor_1 rfl flX2_46 rfl (by decide) rfl rfl ?_
  refine x_if_eq (tgt := 8) hC dX2_factor_4 rfl rfl (hm.i 32 5 rfl) hF (fun hq1 hF => ?_) (fun hq1 hF => ?_)
  · refine x_aload_n hC dX2_factor_8 rfl 0 rfl ?_
    refine x_callV1 (kc2 := 0) (ks2 := 0) (k := 32) (As := []) (rest := []) hC dX2_factor_9 rfl hm (fun _ _ h => T_X2_next b _ m  h) mlX2_59 vlX2_next rfl (by decide) rfl rfl (Nat.le_of_ble_eq_true rfl) (by omega) (by decide) rfl rfl hF (fun r2 m3 hr2 hm3 hF => ?_)
    refine x_istore_n (lv' := [(0, .ref (b.1 + 32))]) hC dX2_factor_12 rfl rfl (by decide) rfl hr2 hF (fun x4 hx4 hF => ?_)
    refine x_iload_n hC dX2_factor_13 rfl 0 rfl ?_
    refine x_bipush hC dX2_factor_14 rfl rfl ?_
    refine x_icmp_ne (tgt := 46) hC dX2_factor_16 rfl rfl hx4 (rgc 91 rfl) hF (fun hq5 hF => ?_) (fun hq5 hF => ?_)
    · refine x_iload_n hC dX2_factor_46 rfl 0 rfl ?_
      refine x_callS3 (kc2 := 0) (ks2 := 0) (As := [iV x4]) (rest := []) hC dX2_factor_47 rfl hm3 (fun _ _ h => T_X2_isDigit b _ m3 x4 hx4 h) mlX2_106 vsX2_isDigit rfl rfl (Nat.le_of_ble_eq_true rfl) (by omega) (by decide) rfl rfl hF (fun r6 m7 hr6 hm7 hF => ?_)
      refine x_if_eq (tgt := 60) hC dX2_factor_50 rfl rfl (rg_01 hr6) hF (fun hq8 hF => ?_) (fun hq8 hF => ?_)
      · refine x_aload_n hC dX2_factor_60 rfl 1 rfl ?_
        refine x_iload_n hC dX2_factor_61 rfl 0 rfl ?_
        refine x_callV0 (kc2 := 0) (ks2 := 0) (k := 32) (As := [iV x4]) (rest := []) hC dX2_factor_62 rfl hm7 (fun _ _ h => T_X2_letter b _ m7 x4 hx4 h) mlX2_113 vlX2_letter rfl (by decide) rfl rfl (Nat.le_of_ble_eq_true rfl) (by omega) (by decide) rfl rfl hF (fun r9 m10 hr9 hm10 hF => ?_)
        exact x_return hC dX2_factor_65 hm10 hF
      · refine x_aload_n hC dX2_factor_53 rfl 1 rfl ?_
        refine x_callV0 (kc2 := 0) (ks2 := 0) (k := 32) (As := []) (rest := []) hC dX2_factor_54 rfl hm7 (fun _ _ h => T_X2_number b _ m7  h) mlX2_110 vlX2_number rfl (by decide) rfl rfl (Nat.le_of_ble_eq_true rfl) (by omega) (by decide) rfl rfl hF (fun r11 m12 hr11 hm12 hF => ?_)
        refine x_goto (tgt := 65) hC dX2_factor_57 rfl ?_
        exact x_return hC dX2_factor_65 hm12 hF
    · refine x_aload_n hC dX2_factor_19 rfl 1 rfl ?_
      refine x_callV0 (kc2 := 0) (ks2 := 0) (k := 32) (As := []) (rest := []) hC dX2_factor_20 rfl hm3 (fun _ _ h => T_X2_enter b _ m3  h) mlX2_79 vlX2_enter rfl (by decide) rfl rfl (Nat.le_of_ble_eq_true rfl) (by omega) (by decide) rfl rfl hF (fun r13 m14 hr13 hm14 hF => ?_)
      refine x_aload_n hC dX2_factor_23 rfl 1 rfl ?_
      refine x_callV0 (kc2 := 0) (ks2 := 0) (k := 32) (As := []) (rest := []) hC dX2_factor_24 rfl hm14 (fun _ _ h => hf_sum m14  h) mlX2_70 vlX2_sum rfl (by decide) rfl rfl (Nat.le_of_ble_eq_true rfl) (by omega) (by decide) rfl rfl hF (fun r15 m16 hr15 hm16 hF => ?_)
      refine x_aload_n hC dX2_factor_27 rfl 1 rfl ?_
      refine x_bipush hC dX2_factor_28 rfl rfl ?_
      refine x_callV0 (kc2 := 0) (ks2 := 0) (k := 32) (As := [iV 93]) (rest := []) hC dX2_factor_30 rfl hm16 (fun _ _ h => T_X2_pass b _ m16 93 (rgc 93 rfl) h) mlX2_55 vlX2_pass rfl (by decide) rfl rfl (Nat.le_of_ble_eq_true rfl) (by omega) (by decide) rfl rfl hF (fun r17 m18 hr17 hm18 hF => ?_)
      refine x_aload_n hC dX2_factor_33 rfl 1 rfl ?_
      refine x_dup hC dX2_factor_34 rfl rfl ?_
      refine x_getI hC dX2_factor_35 rfl flX2_43 rfl (by decide) rfl rfl ?_
      refine x_iconst hC dX2_factor_38 rfl ?_
      refine x_isub hC dX2_factor_39 rfl ?_
      refine x_putI hC dX2_factor_40 rfl fpX2_43 rfl (by decide) (by decide) rfl rfl hm18 (rg_wr _) rfl hF (fun m19 hm19 hF => ?_)
      refine x_goto (tgt := 65) hC dX2_factor_43 rfl ?_
      exact x_return hC dX2_factor_65 hm19 hF
  · exact x_return hC dX2_factor_7 hm hF
set_option maxRecDepth 20000 in
set_option maxHeartbeats 4000000 in
theorem TG0 (b : Bs) (o : Mm) : ∀ d : Nat, (∀ (m : Mm) {r : Int} {m' : Mm}, Gr0 d 0 m = some (r, m') → Cn yX2_sum cX2_sum 3 none (d + 5) 0 0 0 b (true, o) m [.ref (b.1 + 32)] (Gr0 d 0 m)) ∧ (∀ (m : Mm) {r : Int} {m' : Mm}, Gr0 d 1 m = some (r, m') → Cn yX2_product cX2_product 3 none (d + 5) 0 0 0 b (true, o) m [.ref (b.1 + 32)] (Gr0 d 1 m)) ∧ (∀ (m : Mm) {r : Int} {m' : Mm}, Gr0 d 2 m = some (r, m') → Cn yX2_factor cX2_factor 2 none (d + 5) 0 0 0 b (true, o) m [.ref (b.1 + 32)] (Gr0 d 2 m)) := by
  intro d
  induction d with
  | zero => exact ⟨fun m _ _ h => (by cases h), fun m _ _ h => (by cases h), fun m _ _ h => (by cases h)⟩
  | succ d ih =>
    have e : d + 1 + 5 = d + 5 + 1 := by omega
    rw [e]
    exact ⟨fun m _ _ h => TO_X2_sum b o d (Gr0 d 1) (fun m _ _ h => ih.2.1 m h) m h, fun m _ _ h => TO_X2_product b o d (Gr0 d 2) (fun m _ _ h => ih.2.2 m h) m h, fun m _ _ h => TO_X2_factor b o d (Gr0 d 0) (fun m _ _ h => ih.1 m h) m h⟩
set_option maxRecDepth 20000 in
set_option maxHeartbeats 4000000 in
theorem T_X2_sum (b : Bs) (o : Mm) (m : Mm) {r : Int} {m' : Mm} (h : F_X2_sum m = some (r, m')) : Cn yX2_sum cX2_sum 3 none (65) 0 0 0 b (true, o) m [.ref (b.1 + 32)] (F_X2_sum m) := (TG0 b o 60).1 m h
set_option maxRecDepth 20000 in
set_option maxHeartbeats 4000000 in
theorem T_X2_product (b : Bs) (o : Mm) (m : Mm) {r : Int} {m' : Mm} (h : F_X2_product m = some (r, m')) : Cn yX2_product cX2_product 3 none (65) 0 0 0 b (true, o) m [.ref (b.1 + 32)] (F_X2_product m) := (TG0 b o 60).2.1 m h
set_option maxRecDepth 20000 in
set_option maxHeartbeats 4000000 in
theorem T_X2_factor (b : Bs) (o : Mm) (m : Mm) {r : Int} {m' : Mm} (h : F_X2_factor m = some (r, m')) : Cn yX2_factor cX2_factor 2 none (65) 0 0 0 b (true, o) m [.ref (b.1 + 32)] (F_X2_factor m) := (TG0 b o 60).2.2 m h
set_option maxRecDepth 20000 in
set_option maxHeartbeats 4000000 in
theorem WJ_X2_comparison_41 {g : Gx} {b : Bs} {o : Mm} {Q : Int → Mm → Prop} (hC : Cok g b RX2 cX2_comparison 2 66 none) (v1 : Int) (hv1 : inR v1) (m : Mm) (hm : Rg m) (hF : okR (J_X2_comparison_41 v1 m) Q) : X g b (true, o) 2 (ZM g b (true, o) 0 Q) 41 [(0, .ref (b.1 + 32)), (1, iV v1)] [] m 0 0 := by
  unfold J_X2_comparison_41 at hF
  refine x_aload_n hC dX2_comparison_41 rfl 0 rfl ?_
  refine x_dup hC dX2_comparison_42 rfl rfl ?_
  refine x_getI hC dX2_comparison_43 rfl flX2_40 rfl (by decide) rfl rfl ?_
  refine x_iconst hC dX2_comparison_46 rfl ?_
  refine x_iadd hC dX2_comparison_47 rfl ?_
  refine x_putI hC dX2_comparison_48 rfl fpX2_40 rfl (by decide) (by decide) rfl rfl hm (rg_wr _) rfl hF (fun m1 hm1 hF => ?_)
  refine x_aload_n hC dX2_comparison_51 rfl 0 rfl ?_
  refine x_callV0 (kc2 := 0) (ks2 := 0) (k := 32) (As := []) (rest := []) hC dX2_comparison_52 rfl hm1 (fun _ _ h => T_X2_sum b _ m1  h) mlX2_70 vlX2_sum rfl (by decide) rfl rfl (Nat.le_of_ble_eq_true rfl) (by decide) (by decide) rfl rfl hF (fun r2 m3 hr2 hm3 hF => ?_)
  refine x_aload_n hC dX2_comparison_55 rfl 0 rfl ?_
  refine x_getD hC dX2_comparison_56 rfl flX2_15 rfl (by decide) rfl rfl ?_
  refine x_iload_n hC dX2_comparison_59 rfl 1 rfl ?_
  refine x_iconst hC dX2_comparison_60 rfl ?_
  refine x_grd hF (fun hg4 hF => ?_)
  refine x_callV1 (kc2 := 0) (ks2 := 0) (k := (m3 32 1).toNat) (As := [iV v1, iV 0]) (rest := []) hC dX2_comparison_61 rfl hm3 (fun _ _ h => T_X0_add b _ m3 (m3 32 1).toNat (isCd_k hg4) v1 hv1 0 (rgc 0 rfl) h) mlX2_88 vlX0_add (isCd_k hg4).1 (isCd_k hg4).2.1 rfl rfl (Nat.le_of_ble_eq_true rfl) (by decide) (by decide) rfl rfl hF (fun r5 m6 hr5 hm6 hF => ?_)
  refine x_pop hC dX2_comparison_64 rfl rfl ?_
  exact x_return hC dX2_comparison_65 hm6 hF
set_option maxRecDepth 20000 in
set_option maxHeartbeats 4000000 in
theorem T_X2_comparison (b : Bs) (o : Mm) (m : Mm) {r : Int} {m' : Mm} (h : F_X2_comparison  m = some (r, m')) : Cn yX2_comparison cX2_comparison 2 none (66) 0 0 0 b (true, o) m [.ref (b.1 + 32)] (F_X2_comparison  m) := by
  refine Cn_of rfl (Nat.le_of_ble_eq_true rfl) (fun g hC hm => ?_)
  have hF := okR_some h
  generalize hQ : (fun (r : Int) (m' : Mm) => F_X2_comparison  m = some (r, m')) = Q at hF ⊢
  clear hQ h
  replace hC : Cok g b RX2 cX2_comparison 2 66 none := hC
  refine x_lv (lv' := [(0, .ref (b.1 + 32))]) rfl ?_
  unfold F_X2_comparison at hF
  refine x_aload_n hC dX2_comparison_0 rfl 0 rfl ?_
  refine x_callV0 (kc2 := 0) (ks2 := 0) (k := 32) (As := []) (rest := []) hC dX2_comparison_1 rfl hm (fun _ _ h => T_X2_sum b _ m  h) mlX2_70 vlX2_sum rfl (by decide) rfl rfl (Nat.le_of_ble_eq_true rfl) (by decide) (by decide) rfl rfl hF (fun r1 m2 hr1 hm2 hF => ?_)
  refine x_aload_n hC dX2_comparison_4 rfl 0 rfl ?_
  refine x_getI hC dX2_comparison_5 rfl flX2_46 rfl (by decide) rfl rfl ?_
  refine x_if_eq (tgt := 12) hC dX2_comparison_8 rfl rfl (hm2.i 32 5 rfl) hF (fun hq3 hF => ?_) (fun hq3 hF => ?_)
  · refine x_aload_n hC dX2_comparison_12 rfl 0 rfl ?_
    refine x_callV1 (kc2 := 0) (ks2 := 0) (k := 32) (As := []) (rest := []) hC dX2_comparison_13 rfl hm2 (fun _ _ h => T_X2_next b _ m2  h) mlX2_59 vlX2_next rfl (by decide) rfl rfl (Nat.le_of_ble_eq_true rfl) (by decide) (by decide) rfl rfl hF (fun r4 m5 hr4 hm5 hF => ?_)
    refine x_istore_n (lv' := [(0, .ref (b.1 + 32))]) hC dX2_comparison_16 rfl rfl (by decide) rfl hr4 hF (fun x6 hx6 hF => ?_)
    refine x_iload_n hC dX2_comparison_17 rfl 0 rfl ?_
    refine x_bipush hC dX2_comparison_18 rfl rfl ?_
    refine x_icmp_eq (tgt := 41) hC dX2_comparison_20 rfl rfl hx6 (rgc 60 rfl) hF (fun hq7 hF => ?_) (fun hq7 hF => ?_)
    · refine x_sub [1, 0] rfl ?_
      exact WJ_X2_comparison_41 hC  x6 hx6 m5 hm5 hF
    · refine x_iload_n hC dX2_comparison_23 rfl 0 rfl ?_
      refine x_bipush hC dX2_comparison_24 rfl rfl ?_
      refine x_icmp_eq (tgt := 41) hC dX2_comparison_26 rfl rfl hx6 (rgc 62 rfl) hF (fun hq8 hF => ?_) (fun hq8 hF => ?_)
      · refine x_sub [1, 0] rfl ?_
        exact WJ_X2_comparison_41 hC  x6 hx6 m5 hm5 hF
      · refine x_iload_n hC dX2_comparison_29 rfl 0 rfl ?_
        refine x_bipush hC dX2_comparison_30 rfl rfl ?_
        refine x_icmp_eq (tgt := 41) hC dX2_comparison_32 rfl rfl hx6 (rgc 61 rfl) hF (fun hq9 hF => ?_) (fun hq9 hF => ?_)
        · refine x_sub [1, 0] rfl ?_
          exact WJ_X2_comparison_41 hC  x6 hx6 m5 hm5 hF
        · refine x_aload_n hC dX2_comparison_35 rfl 1 rfl ?_
          refine x_iconst hC dX2_comparison_36 rfl ?_
          refine x_callV0 (kc2 := 0) (ks2 := 0) (k := 32) (As := [iV 1]) (rest := []) hC dX2_comparison_37 rfl hm5 (fun _ _ h => T_X2_fail b _ m5 1 (rgc 1 rfl) h) mlX2_63 vlX2_fail rfl (by decide) rfl rfl (Nat.le_of_ble_eq_true rfl) (by decide) (by decide) rfl rfl hF (fun r10 m11 hr10 hm11 hF => ?_)
          exact x_return hC dX2_comparison_40 hm11 hF
  · exact x_return hC dX2_comparison_11 hm2 hF
set_option maxRecDepth 20000 in
set_option maxHeartbeats 4000000 in
theorem TO_X2_piece (b : Bs) (o : Mm) (d : Nat) (f_piece : Mm → Rs) (f_group : Mm → Rs) (hf_piece : ∀ (m : Mm)  {r : Int} {m' : Mm}, f_piece  m = some (r, m') → Cn yX2_piece cX2_piece 2 none (d + 67) 0 0 0 b (true, o) m [.ref (b.1 + 32)] (f_piece  m)) (hf_group : ∀ (m : Mm)  {r : Int} {m' : Mm}, f_group  m = some (r, m') → Cn yX2_group cX2_group 1 none (d + 67) 0 0 0 b (true, o) m [.ref (b.1 + 32)] (f_group  m)) (m : Mm) {r : Int} {m' : Mm} (h : O_X2_piece f_piece f_group  m = some (r, m')) : Cn yX2_piece cX2_piece 2 none ((d + 67 + 1)) 0 0 0 b (true, o) m [.ref (b.1 + 32)] (O_X2_piece f_piece f_group  m) := by
  refine Cn_of rfl (Nat.le_of_ble_eq_true rfl) (fun g hC hm => ?_)
  have hF := okR_some h
  generalize hQ : (fun (r : Int) (m' : Mm) => O_X2_piece f_piece f_group  m = some (r, m')) = Q at hF ⊢
  clear hQ h
  replace hC : Cok g b RX2 cX2_piece 2 (d + 67 + 1) none := hC
  refine x_lv (lv' := [(0, .ref (b.1 + 32))]) rfl ?_
  unfold O_X2_piece at hF
  refine x_aload_n hC dX2_piece_0 rfl 0 rfl ?_
  refine x_getI hC dX2_piece_1 rfl flX2_46 rfl (by decide) rfl rfl ?_
  refine x_if_eq (tgt := 8) hC dX2_piece_4 rfl rfl (hm.i 32 5 rfl) hF (fun hq1 hF => ?_) (fun hq1 hF => ?_)
  · refine x_aload_n hC dX2_piece_8 rfl 0 rfl ?_
    refine x_callV1 (kc2 := 0) (ks2 := 0) (k := 32) (As := []) (rest := []) hC dX2_piece_9 rfl hm (fun _ _ h => T_X2_next b _ m  h) mlX2_59 vlX2_next rfl (by decide) rfl rfl (Nat.le_of_ble_eq_true rfl) (by omega) (by decide) rfl rfl hF (fun r2 m3 hr2 hm3 hF => ?_)
    refine x_istore_n (lv' := [(0, .ref (b.1 + 32))]) hC dX2_piece_12 rfl rfl (by decide) rfl hr2 hF (fun x4 hx4 hF => ?_)
    refine x_iload_n hC dX2_piece_13 rfl 0 rfl ?_
    refine x_bipush hC dX2_piece_14 rfl rfl ?_
    refine x_icmp_ne (tgt := 50) hC dX2_piece_16 rfl rfl hx4 (rgc 33 rfl) hF (fun hq5 hF => ?_) (fun hq5 hF => ?_)
    · refine x_iload_n hC dX2_piece_50 rfl 0 rfl ?_
      refine x_bipush hC dX2_piece_51 rfl rfl ?_
      refine x_icmp_ne (tgt := 63) hC dX2_piece_53 rfl rfl hx4 (rgc 40 rfl) hF (fun hq6 hF => ?_) (fun hq6 hF => ?_)
      · refine x_aload_n hC dX2_piece_63 rfl 1 rfl ?_
        refine x_callV0 (kc2 := 0) (ks2 := 0) (k := 32) (As := []) (rest := []) hC dX2_piece_64 rfl hm3 (fun _ _ h => T_X2_comparison b _ m3  h) mlX2_97 vlX2_comparison rfl (by decide) rfl rfl (Nat.le_of_ble_eq_true rfl) (by omega) (by decide) rfl rfl hF (fun r7 m8 hr7 hm8 hF => ?_)
        exact x_return hC dX2_piece_67 hm8 hF
      · refine x_aload_n hC dX2_piece_56 rfl 1 rfl ?_
        refine x_callV0 (kc2 := 0) (ks2 := 0) (k := 32) (As := []) (rest := []) hC dX2_piece_57 rfl hm3 (fun _ _ h => hf_group m3  h) mlX2_76 vlX2_group rfl (by decide) rfl rfl (Nat.le_of_ble_eq_true rfl) (by omega) (by decide) rfl rfl hF (fun r9 m10 hr9 hm10 hF => ?_)
        refine x_goto (tgt := 67) hC dX2_piece_60 rfl ?_
        exact x_return hC dX2_piece_67 hm10 hF
    · refine x_aload_n hC dX2_piece_19 rfl 1 rfl ?_
      refine x_callV0 (kc2 := 0) (ks2 := 0) (k := 32) (As := []) (rest := []) hC dX2_piece_20 rfl hm3 (fun _ _ h => T_X2_enter b _ m3  h) mlX2_79 vlX2_enter rfl (by decide) rfl rfl (Nat.le_of_ble_eq_true rfl) (by omega) (by decide) rfl rfl hF (fun r11 m12 hr11 hm12 hF => ?_)
      refine x_aload_n hC dX2_piece_23 rfl 1 rfl ?_
      refine x_callV0 (kc2 := 0) (ks2 := 0) (k := 32) (As := []) (rest := []) hC dX2_piece_24 rfl hm12 (fun _ _ h => hf_piece m12  h) mlX2_94 vlX2_piece rfl (by decide) rfl rfl (Nat.le_of_ble_eq_true rfl) (by omega) (by decide) rfl rfl hF (fun r13 m14 hr13 hm14 hF => ?_)
      refine x_aload_n hC dX2_piece_27 rfl 1 rfl ?_
      refine x_dup hC dX2_piece_28 rfl rfl ?_
      refine x_getI hC dX2_piece_29 rfl flX2_43 rfl (by decide) rfl rfl ?_
      refine x_iconst hC dX2_piece_32 rfl ?_
      refine x_isub hC dX2_piece_33 rfl ?_
      refine x_putI hC dX2_piece_34 rfl fpX2_43 rfl (by decide) (by decide) rfl rfl hm14 (rg_wr _) rfl hF (fun m15 hm15 hF => ?_)
      refine x_aload_n hC dX2_piece_37 rfl 1 rfl ?_
      refine x_getD hC dX2_piece_38 rfl flX2_15 rfl (by decide) rfl rfl ?_
      refine x_iconst hC dX2_piece_41 rfl ?_
      refine x_iconst hC dX2_piece_42 rfl ?_
      refine x_grd hF (fun hg16 hF => ?_)
      refine x_callV1 (kc2 := 0) (ks2 := 0) (k := (m15 32 1).toNat) (As := [iV 2, iV 0]) (rest := []) hC dX2_piece_43 rfl hm15 (fun _ _ h => T_X0_add b _ m15 (m15 32 1).toNat (isCd_k hg16) 2 (rgc 2 rfl) 0 (rgc 0 rfl) h) mlX2_88 vlX0_add (isCd_k hg16).1 (isCd_k hg16).2.1 rfl rfl (Nat.le_of_ble_eq_true rfl) (by omega) (by decide) rfl rfl hF (fun r17 m18 hr17 hm18 hF => ?_)
      refine x_pop hC dX2_piece_46 rfl rfl ?_
      refine x_goto (tgt := 67) hC dX2_piece_47 rfl ?_
      exact x_return hC dX2_piece_67 hm18 hF
  · exact x_return hC dX2_piece_7 hm hF
set_option maxRecDepth 20000 in
set_option maxHeartbeats 4000000 in
theorem TO_X2_group (b : Bs) (o : Mm) (d : Nat) (f_condition : Mm → Rs) (hf_condition : ∀ (m : Mm)  {r : Int} {m' : Mm}, f_condition  m = some (r, m') → Cn yX2_condition cX2_condition 3 none (d + 67) 0 0 0 b (true, o) m [.ref (b.1 + 32)] (f_condition  m)) (m : Mm) {r : Int} {m' : Mm} (h : O_X2_group f_condition  m = some (r, m')) : Cn yX2_group cX2_group 1 none ((d + 67 + 1)) 0 0 0 b (true, o) m [.ref (b.1 + 32)] (O_X2_group f_condition  m) := by
  refine Cn_of rfl (Nat.le_of_ble_eq_true rfl) (fun g hC hm => ?_)
  have hF := okR_some h
  generalize hQ : (fun (r : Int) (m' : Mm) => O_X2_group f_condition  m = some (r, m')) = Q at hF ⊢
  clear hQ h
  replace hC : Cok g b RX2 cX2_group 1 (d + 67 + 1) none := hC
  refine x_lv (lv' := [(0, .ref (b.1 + 32))]) rfl ?_
  unfold O_X2_group at hF
  refine x_aload_n hC dX2_group_0 rfl 0 rfl ?_
  refine x_getI hC dX2_group_1 rfl flX2_46 rfl (by decide) rfl rfl ?_
  refine x_if_eq (tgt := 8) hC dX2_group_4 rfl rfl (hm.i 32 5 rfl) hF (fun hq1 hF => ?_) (fun hq1 hF => ?_)
  · refine x_aload_n hC dX2_group_8 rfl 0 rfl ?_
    refine x_callV1 (kc2 := 0) (ks2 := 0) (k := 32) (As := []) (rest := []) hC dX2_group_9 rfl hm (fun _ _ h => T_X2_next b _ m  h) mlX2_59 vlX2_next rfl (by decide) rfl rfl (Nat.le_of_ble_eq_true rfl) (by omega) (by decide) rfl rfl hF (fun r2 m3 hr2 hm3 hF => ?_)
    refine x_bipush hC dX2_group_12 rfl rfl ?_
    refine x_icmp_eq (tgt := 23) hC dX2_group_14 rfl rfl hr2 (rgc 40 rfl) hF (fun hq4 hF => ?_) (fun hq4 hF => ?_)
    · refine x_aload_n hC dX2_group_23 rfl 0 rfl ?_
      refine x_callV0 (kc2 := 0) (ks2 := 0) (k := 32) (As := []) (rest := []) hC dX2_group_24 rfl hm3 (fun _ _ h => T_X2_enter b _ m3  h) mlX2_79 vlX2_enter rfl (by decide) rfl rfl (Nat.le_of_ble_eq_true rfl) (by omega) (by decide) rfl rfl hF (fun r5 m6 hr5 hm6 hF => ?_)
      refine x_aload_n hC dX2_group_27 rfl 0 rfl ?_
      refine x_callV0 (kc2 := 0) (ks2 := 0) (k := 32) (As := []) (rest := []) hC dX2_group_28 rfl hm6 (fun _ _ h => hf_condition m6  h) mlX2_82 vlX2_condition rfl (by decide) rfl rfl (Nat.le_of_ble_eq_true rfl) (by omega) (by decide) rfl rfl hF (fun r7 m8 hr7 hm8 hF => ?_)
      refine x_aload_n hC dX2_group_31 rfl 0 rfl ?_
      refine x_bipush hC dX2_group_32 rfl rfl ?_
      refine x_callV0 (kc2 := 0) (ks2 := 0) (k := 32) (As := [iV 41]) (rest := []) hC dX2_group_34 rfl hm8 (fun _ _ h => T_X2_pass b _ m8 41 (rgc 41 rfl) h) mlX2_55 vlX2_pass rfl (by decide) rfl rfl (Nat.le_of_ble_eq_true rfl) (by omega) (by decide) rfl rfl hF (fun r9 m10 hr9 hm10 hF => ?_)
      refine x_aload_n hC dX2_group_37 rfl 0 rfl ?_
      refine x_dup hC dX2_group_38 rfl rfl ?_
      refine x_getI hC dX2_group_39 rfl flX2_43 rfl (by decide) rfl rfl ?_
      refine x_iconst hC dX2_group_42 rfl ?_
      refine x_isub hC dX2_group_43 rfl ?_
      refine x_putI hC dX2_group_44 rfl fpX2_43 rfl (by decide) (by decide) rfl rfl hm10 (rg_wr _) rfl hF (fun m11 hm11 hF => ?_)
      exact x_return hC dX2_group_47 hm11 hF
    · refine x_aload_n hC dX2_group_17 rfl 0 rfl ?_
      refine x_iconst hC dX2_group_18 rfl ?_
      refine x_callV0 (kc2 := 0) (ks2 := 0) (k := 32) (As := [iV 1]) (rest := []) hC dX2_group_19 rfl hm3 (fun _ _ h => T_X2_fail b _ m3 1 (rgc 1 rfl) h) mlX2_63 vlX2_fail rfl (by decide) rfl rfl (Nat.le_of_ble_eq_true rfl) (by omega) (by decide) rfl rfl hF (fun r12 m13 hr12 hm13 hF => ?_)
      exact x_return hC dX2_group_22 hm13 hF
  · exact x_return hC dX2_group_7 hm hF
set_option maxRecDepth 20000 in
set_option maxHeartbeats 4000000 in
theorem WL_X2_condition_6 {g : Gx} {b : Bs} {o : Mm} {Q : Int → Mm → Prop} {d : Nat} {f_allOf : Mm → Rs} (hC : Cok g b RX2 cX2_condition 3 (d + 67 + 1) none) (hf_allOf : ∀ (m : Mm)  {r : Int} {m' : Mm}, f_allOf  m = some (r, m') → Cn yX2_allOf cX2_allOf 3 none (d + 67) 0 0 0 b (true, o) m [.ref (b.1 + 32)] (f_allOf  m)) : ∀ n : Nat, ∀ v1 : Int, inR v1 → ∀ m : Mm, Rg m → okR (L_X2_condition_6 f_allOf n v1 m) Q → X g b (true, o) 3 (ZM g b (true, o) 0 Q) 6 [(0, .ref (b.1 + 32)), (1, iV v1)] [] m 0 0 := by
  intro n
  induction n with
  | zero => intro v1 hv1 m hm hF; exact absurd hF (fun z => z)
  | succ n ih =>
    intro v1 hv1 m hm hF
    have hF : okR (LB_X2_condition_6 f_allOf (L_X2_condition_6 f_allOf n) v1 m) Q := hF
    unfold LB_X2_condition_6 at hF
    refine x_iload_n hC dX2_condition_6 rfl 1 rfl ?_
    refine x_sipush hC dX2_condition_7 rfl rfl ?_
    refine x_icmp_ge (tgt := 67) hC dX2_condition_10 rfl rfl hv1 (rgc 200 rfl) hF (fun hq1 hF => ?_) (fun hq1 hF => ?_)
    · exact x_return hC dX2_condition_67 hm hF
    · refine x_aload_n hC dX2_condition_13 rfl 0 rfl ?_
      refine x_getI hC dX2_condition_14 rfl flX2_46 rfl (by decide) rfl rfl ?_
      refine x_if_ne (tgt := 67) hC dX2_condition_17 rfl rfl (hm.i 32 5 rfl) hF (fun hq2 hF => ?_) (fun hq2 hF => ?_)
      · exact x_return hC dX2_condition_67 hm hF
      · refine x_aload_n hC dX2_condition_20 rfl 0 rfl ?_
        refine x_callV1 (kc2 := 0) (ks2 := 0) (k := 32) (As := []) (rest := []) hC dX2_condition_21 rfl hm (fun _ _ h => T_X2_next b _ m  h) mlX2_59 vlX2_next rfl (by decide) rfl rfl (Nat.le_of_ble_eq_true rfl) (by omega) (by decide) rfl rfl hF (fun r3 m4 hr3 hm4 hF => ?_)
        refine x_bipush hC dX2_condition_24 rfl rfl ?_
        refine x_icmp_ne (tgt := 67) hC dX2_condition_26 rfl rfl hr3 (rgc 124 rfl) hF (fun hq5 hF => ?_) (fun hq5 hF => ?_)
        · exact x_return hC dX2_condition_67 hm4 hF
        · refine x_aload_n hC dX2_condition_29 rfl 0 rfl ?_
          refine x_dup hC dX2_condition_30 rfl rfl ?_
          refine x_getI hC dX2_condition_31 rfl flX2_40 rfl (by decide) rfl rfl ?_
          refine x_iconst hC dX2_condition_34 rfl ?_
          refine x_iadd hC dX2_condition_35 rfl ?_
          refine x_putI hC dX2_condition_36 rfl fpX2_40 rfl (by decide) (by decide) rfl rfl hm4 (rg_wr _) rfl hF (fun m6 hm6 hF => ?_)
          refine x_aload_n hC dX2_condition_39 rfl 0 rfl ?_
          refine x_getD hC dX2_condition_40 rfl flX2_15 rfl (by decide) rfl rfl ?_
          refine x_iconst hC dX2_condition_43 rfl ?_
          refine x_iconst hC dX2_condition_44 rfl ?_
          refine x_grd hF (fun hg7 hF => ?_)
          refine x_callV1 (kc2 := 0) (ks2 := 0) (k := (m6 32 1).toNat) (As := [iV 4, iV 0]) (rest := []) hC dX2_condition_45 rfl hm6 (fun _ _ h => T_X0_add b _ m6 (m6 32 1).toNat (isCd_k hg7) 4 (rgc 4 rfl) 0 (rgc 0 rfl) h) mlX2_88 vlX0_add (isCd_k hg7).1 (isCd_k hg7).2.1 rfl rfl (Nat.le_of_ble_eq_true rfl) (by omega) (by decide) rfl rfl hF (fun r8 m9 hr8 hm9 hF => ?_)
          refine x_istore_n (lv' := [(0, .ref (b.1 + 32)), (1, iV v1)]) hC dX2_condition_48 rfl rfl (by decide) rfl hr8 hF (fun x10 hx10 hF => ?_)
          refine x_aload_n hC dX2_condition_49 rfl 1 rfl ?_
          refine x_callV0 (kc2 := 0) (ks2 := 0) (k := 32) (As := []) (rest := []) hC dX2_condition_50 rfl hm9 (fun _ _ h => hf_allOf m9  h) mlX2_85 vlX2_allOf rfl (by decide) rfl rfl (Nat.le_of_ble_eq_true rfl) (by omega) (by decide) rfl rfl hF (fun r11 m12 hr11 hm12 hF => ?_)
          refine x_aload_n hC dX2_condition_53 rfl 1 rfl ?_
          refine x_getD hC dX2_condition_54 rfl flX2_15 rfl (by decide) rfl rfl ?_
          refine x_iload_n hC dX2_condition_57 rfl 0 rfl ?_
          refine x_grd hF (fun hg13 hF => ?_)
          refine x_callV0 (kc2 := 0) (ks2 := 0) (k := (m12 32 1).toNat) (As := [iV x10]) (rest := []) hC dX2_condition_58 rfl hm12 (fun _ _ h => T_X0_landHere b _ m12 (m12 32 1).toNat (isCd_k hg13) x10 hx10 h) mlX2_91 vlX0_landHere (isCd_k hg13).1 (isCd_k hg13).2.1 rfl rfl (Nat.le_of_ble_eq_true rfl) (by omega) (by decide) rfl rfl hF (fun r14 m15 hr14 hm15 hF => ?_)
          refine x_iinc (p := 2) (lv' := [(2, iV x10), (0, .ref (b.1 + 32))]) hC dX2_condition_61 rfl rfl (by decide) rfl hF (fun x16 hx16 hF => ?_)
          refine x_goto (tgt := 6) hC dX2_condition_64 rfl ?_
          refine x_sub [2, 0] rfl ?_
          exact ih x16 hx16 m15 hm15 hF
set_option maxRecDepth 20000 in
set_option maxHeartbeats 4000000 in
theorem TO_X2_condition (b : Bs) (o : Mm) (d : Nat) (f_allOf : Mm → Rs) (hf_allOf : ∀ (m : Mm)  {r : Int} {m' : Mm}, f_allOf  m = some (r, m') → Cn yX2_allOf cX2_allOf 3 none (d + 67) 0 0 0 b (true, o) m [.ref (b.1 + 32)] (f_allOf  m)) (m : Mm) {r : Int} {m' : Mm} (h : O_X2_condition f_allOf  m = some (r, m')) : Cn yX2_condition cX2_condition 3 none ((d + 67 + 1)) 0 0 0 b (true, o) m [.ref (b.1 + 32)] (O_X2_condition f_allOf  m) := by
  refine Cn_of rfl (Nat.le_of_ble_eq_true rfl) (fun g hC hm => ?_)
  have hF := okR_some h
  generalize hQ : (fun (r : Int) (m' : Mm) => O_X2_condition f_allOf  m = some (r, m')) = Q at hF ⊢
  clear hQ h
  replace hC : Cok g b RX2 cX2_condition 3 (d + 67 + 1) none := hC
  refine x_lv (lv' := [(0, .ref (b.1 + 32))]) rfl ?_
  unfold O_X2_condition at hF
  refine x_aload_n hC dX2_condition_0 rfl 0 rfl ?_
  refine x_callV0 (kc2 := 0) (ks2 := 0) (k := 32) (As := []) (rest := []) hC dX2_condition_1 rfl hm (fun _ _ h => hf_allOf m  h) mlX2_85 vlX2_allOf rfl (by decide) rfl rfl (Nat.le_of_ble_eq_true rfl) (by omega) (by decide) rfl rfl hF (fun r1 m2 hr1 hm2 hF => ?_)
  refine x_iconst hC dX2_condition_4 rfl ?_
  refine x_istore_nZ (lv' := [(0, .ref (b.1 + 32))]) hC dX2_condition_5 rfl rfl (by decide) rfl (Or.inl rfl) hF (fun x3 hx3 hF => ?_)
  refine x_sub [1, 0] rfl ?_
  exact WL_X2_condition_6 hC hf_allOf 100000  x3 (rg_01 hx3) m2 hm2 hF
set_option maxRecDepth 20000 in
set_option maxHeartbeats 4000000 in
theorem WL_X2_allOf_6 {g : Gx} {b : Bs} {o : Mm} {Q : Int → Mm → Prop} {d : Nat} {f_piece : Mm → Rs} (hC : Cok g b RX2 cX2_allOf 3 (d + 67 + 1) none) (hf_piece : ∀ (m : Mm)  {r : Int} {m' : Mm}, f_piece  m = some (r, m') → Cn yX2_piece cX2_piece 2 none (d + 67) 0 0 0 b (true, o) m [.ref (b.1 + 32)] (f_piece  m)) : ∀ n : Nat, ∀ v1 : Int, inR v1 → ∀ m : Mm, Rg m → okR (L_X2_allOf_6 f_piece n v1 m) Q → X g b (true, o) 3 (ZM g b (true, o) 0 Q) 6 [(0, .ref (b.1 + 32)), (1, iV v1)] [] m 0 0 := by
  intro n
  induction n with
  | zero => intro v1 hv1 m hm hF; exact absurd hF (fun z => z)
  | succ n ih =>
    intro v1 hv1 m hm hF
    have hF : okR (LB_X2_allOf_6 f_piece (L_X2_allOf_6 f_piece n) v1 m) Q := hF
    unfold LB_X2_allOf_6 at hF
    refine x_iload_n hC dX2_allOf_6 rfl 1 rfl ?_
    refine x_sipush hC dX2_allOf_7 rfl rfl ?_
    refine x_icmp_ge (tgt := 67) hC dX2_allOf_10 rfl rfl hv1 (rgc 200 rfl) hF (fun hq1 hF => ?_) (fun hq1 hF => ?_)
    · exact x_return hC dX2_allOf_67 hm hF
    · refine x_aload_n hC dX2_allOf_13 rfl 0 rfl ?_
      refine x_getI hC dX2_allOf_14 rfl flX2_46 rfl (by decide) rfl rfl ?_
      refine x_if_ne (tgt := 67) hC dX2_allOf_17 rfl rfl (hm.i 32 5 rfl) hF (fun hq2 hF => ?_) (fun hq2 hF => ?_)
      · exact x_return hC dX2_allOf_67 hm hF
      · refine x_aload_n hC dX2_allOf_20 rfl 0 rfl ?_
        refine x_callV1 (kc2 := 0) (ks2 := 0) (k := 32) (As := []) (rest := []) hC dX2_allOf_21 rfl hm (fun _ _ h => T_X2_next b _ m  h) mlX2_59 vlX2_next rfl (by decide) rfl rfl (Nat.le_of_ble_eq_true rfl) (by omega) (by decide) rfl rfl hF (fun r3 m4 hr3 hm4 hF => ?_)
        refine x_bipush hC dX2_allOf_24 rfl rfl ?_
        refine x_icmp_ne (tgt := 67) hC dX2_allOf_26 rfl rfl hr3 (rgc 38 rfl) hF (fun hq5 hF => ?_) (fun hq5 hF => ?_)
        · exact x_return hC dX2_allOf_67 hm4 hF
        · refine x_aload_n hC dX2_allOf_29 rfl 0 rfl ?_
          refine x_dup hC dX2_allOf_30 rfl rfl ?_
          refine x_getI hC dX2_allOf_31 rfl flX2_40 rfl (by decide) rfl rfl ?_
          refine x_iconst hC dX2_allOf_34 rfl ?_
          refine x_iadd hC dX2_allOf_35 rfl ?_
          refine x_putI hC dX2_allOf_36 rfl fpX2_40 rfl (by decide) (by decide) rfl rfl hm4 (rg_wr _) rfl hF (fun m6 hm6 hF => ?_)
          refine x_aload_n hC dX2_allOf_39 rfl 0 rfl ?_
          refine x_getD hC dX2_allOf_40 rfl flX2_15 rfl (by decide) rfl rfl ?_
          refine x_iconst hC dX2_allOf_43 rfl ?_
          refine x_iconst hC dX2_allOf_44 rfl ?_
          refine x_grd hF (fun hg7 hF => ?_)
          refine x_callV1 (kc2 := 0) (ks2 := 0) (k := (m6 32 1).toNat) (As := [iV 3, iV 0]) (rest := []) hC dX2_allOf_45 rfl hm6 (fun _ _ h => T_X0_add b _ m6 (m6 32 1).toNat (isCd_k hg7) 3 (rgc 3 rfl) 0 (rgc 0 rfl) h) mlX2_88 vlX0_add (isCd_k hg7).1 (isCd_k hg7).2.1 rfl rfl (Nat.le_of_ble_eq_true rfl) (by omega) (by decide) rfl rfl hF (fun r8 m9 hr8 hm9 hF => ?_)
          refine x_istore_n (lv' := [(0, .ref (b.1 + 32)), (1, iV v1)]) hC dX2_allOf_48 rfl rfl (by decide) rfl hr8 hF (fun x10 hx10 hF => ?_)
          refine x_aload_n hC dX2_allOf_49 rfl 1 rfl ?_
          refine x_callV0 (kc2 := 0) (ks2 := 0) (k := 32) (As := []) (rest := []) hC dX2_allOf_50 rfl hm9 (fun _ _ h => hf_piece m9  h) mlX2_94 vlX2_piece rfl (by decide) rfl rfl (Nat.le_of_ble_eq_true rfl) (by omega) (by decide) rfl rfl hF (fun r11 m12 hr11 hm12 hF => ?_)
          refine x_aload_n hC dX2_allOf_53 rfl 1 rfl ?_
          refine x_getD hC dX2_allOf_54 rfl flX2_15 rfl (by decide) rfl rfl ?_
          refine x_iload_n hC dX2_allOf_57 rfl 0 rfl ?_
          refine x_grd hF (fun hg13 hF => ?_)
          refine x_callV0 (kc2 := 0) (ks2 := 0) (k := (m12 32 1).toNat) (As := [iV x10]) (rest := []) hC dX2_allOf_58 rfl hm12 (fun _ _ h => T_X0_landHere b _ m12 (m12 32 1).toNat (isCd_k hg13) x10 hx10 h) mlX2_91 vlX0_landHere (isCd_k hg13).1 (isCd_k hg13).2.1 rfl rfl (Nat.le_of_ble_eq_true rfl) (by omega) (by decide) rfl rfl hF (fun r14 m15 hr14 hm15 hF => ?_)
          refine x_iinc (p := 2) (lv' := [(2, iV x10), (0, .ref (b.1 + 32))]) hC dX2_allOf_61 rfl rfl (by decide) rfl hF (fun x16 hx16 hF => ?_)
          refine x_goto (tgt := 6) hC dX2_allOf_64 rfl ?_
          refine x_sub [2, 0] rfl ?_
          exact ih x16 hx16 m15 hm15 hF
set_option maxRecDepth 20000 in
set_option maxHeartbeats 4000000 in
theorem TO_X2_allOf (b : Bs) (o : Mm) (d : Nat) (f_piece : Mm → Rs) (hf_piece : ∀ (m : Mm)  {r : Int} {m' : Mm}, f_piece  m = some (r, m') → Cn yX2_piece cX2_piece 2 none (d + 67) 0 0 0 b (true, o) m [.ref (b.1 + 32)] (f_piece  m)) (m : Mm) {r : Int} {m' : Mm} (h : O_X2_allOf f_piece  m = some (r, m')) : Cn yX2_allOf cX2_allOf 3 none ((d + 67 + 1)) 0 0 0 b (true, o) m [.ref (b.1 + 32)] (O_X2_allOf f_piece  m) := by
  refine Cn_of rfl (Nat.le_of_ble_eq_true rfl) (fun g hC hm => ?_)
  have hF := okR_some h
  generalize hQ : (fun (r : Int) (m' : Mm) => O_X2_allOf f_piece  m = some (r, m')) = Q at hF ⊢
  clear hQ h
  replace hC : Cok g b RX2 cX2_allOf 3 (d + 67 + 1) none := hC
  refine x_lv (lv' := [(0, .ref (b.1 + 32))]) rfl ?_
  unfold O_X2_allOf at hF
  refine x_aload_n hC dX2_allOf_0 rfl 0 rfl ?_
  refine x_callV0 (kc2 := 0) (ks2 := 0) (k := 32) (As := []) (rest := []) hC dX2_allOf_1 rfl hm (fun _ _ h => hf_piece m  h) mlX2_94 vlX2_piece rfl (by decide) rfl rfl (Nat.le_of_ble_eq_true rfl) (by omega) (by decide) rfl rfl hF (fun r1 m2 hr1 hm2 hF => ?_)
  refine x_iconst hC dX2_allOf_4 rfl ?_
  refine x_istore_nZ (lv' := [(0, .ref (b.1 + 32))]) hC dX2_allOf_5 rfl rfl (by decide) rfl (Or.inl rfl) hF (fun x3 hx3 hF => ?_)
  refine x_sub [1, 0] rfl ?_
  exact WL_X2_allOf_6 hC hf_piece 100000  x3 (rg_01 hx3) m2 hm2 hF
set_option maxRecDepth 20000 in
set_option maxHeartbeats 4000000 in
theorem TG1 (b : Bs) (o : Mm) : ∀ d : Nat, (∀ (m : Mm) {r : Int} {m' : Mm}, Gr1 d 0 m = some (r, m') → Cn yX2_piece cX2_piece 2 none (d + 67) 0 0 0 b (true, o) m [.ref (b.1 + 32)] (Gr1 d 0 m)) ∧ (∀ (m : Mm) {r : Int} {m' : Mm}, Gr1 d 1 m = some (r, m') → Cn yX2_group cX2_group 1 none (d + 67) 0 0 0 b (true, o) m [.ref (b.1 + 32)] (Gr1 d 1 m)) ∧ (∀ (m : Mm) {r : Int} {m' : Mm}, Gr1 d 2 m = some (r, m') → Cn yX2_condition cX2_condition 3 none (d + 67) 0 0 0 b (true, o) m [.ref (b.1 + 32)] (Gr1 d 2 m)) ∧ (∀ (m : Mm) {r : Int} {m' : Mm}, Gr1 d 3 m = some (r, m') → Cn yX2_allOf cX2_allOf 3 none (d + 67) 0 0 0 b (true, o) m [.ref (b.1 + 32)] (Gr1 d 3 m)) := by
  intro d
  induction d with
  | zero => exact ⟨fun m _ _ h => (by cases h), fun m _ _ h => (by cases h), fun m _ _ h => (by cases h), fun m _ _ h => (by cases h)⟩
  | succ d ih =>
    have e : d + 1 + 67 = d + 67 + 1 := by omega
    rw [e]
    exact ⟨fun m _ _ h => TO_X2_piece b o d (Gr1 d 0) (Gr1 d 1) (fun m _ _ h => ih.1 m h) (fun m _ _ h => ih.2.1 m h) m h, fun m _ _ h => TO_X2_group b o d (Gr1 d 2) (fun m _ _ h => ih.2.2.1 m h) m h, fun m _ _ h => TO_X2_condition b o d (Gr1 d 3) (fun m _ _ h => ih.2.2.2 m h) m h, fun m _ _ h => TO_X2_allOf b o d (Gr1 d 0) (fun m _ _ h => ih.1 m h) m h⟩
set_option maxRecDepth 20000 in
set_option maxHeartbeats 4000000 in
theorem T_X2_piece (b : Bs) (o : Mm) (m : Mm) {r : Int} {m' : Mm} (h : F_X2_piece m = some (r, m')) : Cn yX2_piece cX2_piece 2 none (127) 0 0 0 b (true, o) m [.ref (b.1 + 32)] (F_X2_piece m) := (TG1 b o 60).1 m h
set_option maxRecDepth 20000 in
set_option maxHeartbeats 4000000 in
theorem T_X2_group (b : Bs) (o : Mm) (m : Mm) {r : Int} {m' : Mm} (h : F_X2_group m = some (r, m')) : Cn yX2_group cX2_group 1 none (127) 0 0 0 b (true, o) m [.ref (b.1 + 32)] (F_X2_group m) := (TG1 b o 60).2.1 m h
set_option maxRecDepth 20000 in
set_option maxHeartbeats 4000000 in
theorem T_X2_condition (b : Bs) (o : Mm) (m : Mm) {r : Int} {m' : Mm} (h : F_X2_condition m = some (r, m')) : Cn yX2_condition cX2_condition 3 none (127) 0 0 0 b (true, o) m [.ref (b.1 + 32)] (F_X2_condition m) := (TG1 b o 60).2.2.1 m h
set_option maxRecDepth 20000 in
set_option maxHeartbeats 4000000 in
theorem T_X2_allOf (b : Bs) (o : Mm) (m : Mm) {r : Int} {m' : Mm} (h : F_X2_allOf m = some (r, m')) : Cn yX2_allOf cX2_allOf 3 none (127) 0 0 0 b (true, o) m [.ref (b.1 + 32)] (F_X2_allOf m) := (TG1 b o 60).2.2.2 m h
set_option maxRecDepth 20000 in
set_option maxHeartbeats 4000000 in
theorem WJ_X2_clause_23 {g : Gx} {b : Bs} {o : Mm} {Q : Int → Mm → Prop} (hC : Cok g b RX2 cX2_clause 2 128 none) (v1 : Int) (hv1 : inR v1) (m : Mm) (hm : Rg m) (hF : okR (J_X2_clause_23 v1 m) Q) : X g b (true, o) 2 (ZM g b (true, o) 0 Q) 23 [(0, .ref (b.1 + 32)), (1, iV v1)] [] m 0 0 := by
  unfold J_X2_clause_23 at hF
  refine x_aload_n hC dX2_clause_23 rfl 0 rfl ?_
  refine x_getD hC dX2_clause_24 rfl flX2_15 rfl (by decide) rfl rfl ?_
  refine x_grd hF (fun hg1 hF => ?_)
  refine x_getI hC dX2_clause_27 rfl flX2_52 (isCd_k hg1).1 (isCd_k hg1).2.1 rfl (isCd_k hg1).2.2.1 ?_
  refine x_bipush hC dX2_clause_30 rfl rfl ?_
  refine x_icmp_lt (tgt := 41) hC dX2_clause_32 rfl rfl (hm.i (m 32 1).toNat 6 (isCd_k hg1).lg) (rgc 14 rfl) hF (fun hq2 hF => ?_) (fun hq2 hF => ?_)
  · refine x_aload_n hC dX2_clause_41 rfl 0 rfl ?_
    refine x_dup hC dX2_clause_42 rfl rfl ?_
    refine x_getI hC dX2_clause_43 rfl flX2_40 rfl (by decide) rfl rfl ?_
    refine x_iconst hC dX2_clause_46 rfl ?_
    refine x_iadd hC dX2_clause_47 rfl ?_
    refine x_putI hC dX2_clause_48 rfl fpX2_40 rfl (by decide) (by decide) rfl rfl hm (rg_wr _) rfl hF (fun m3 hm3 hF => ?_)
    refine x_aload_n hC dX2_clause_51 rfl 0 rfl ?_
    refine x_getD hC dX2_clause_52 rfl flX2_15 rfl (by decide) rfl rfl ?_
    refine x_iload_n hC dX2_clause_55 rfl 1 rfl ?_
    refine x_grd hF (fun hg4 hF => ?_)
    refine x_callV0 (kc2 := 0) (ks2 := 0) (k := (m3 32 1).toNat) (As := [iV v1]) (rest := []) hC dX2_clause_56 rfl hm3 (fun _ _ h => T_X0_beginClause b _ m3 (m3 32 1).toNat (isCd_k hg4) v1 hv1 h) mlX2_67 vlX0_beginClause (isCd_k hg4).1 (isCd_k hg4).2.1 rfl rfl (Nat.le_of_ble_eq_true rfl) (by decide) (by decide) rfl rfl hF (fun r5 m6 hr5 hm6 hF => ?_)
    refine x_aload_n hC dX2_clause_59 rfl 0 rfl ?_
    refine x_callV0 (kc2 := 0) (ks2 := 0) (k := 32) (As := []) (rest := []) hC dX2_clause_60 rfl hm6 (fun _ _ h => T_X2_sum b _ m6  h) mlX2_70 vlX2_sum rfl (by decide) rfl rfl (Nat.le_of_ble_eq_true rfl) (by decide) (by decide) rfl rfl hF (fun r7 m8 hr7 hm8 hF => ?_)
    refine x_aload_n hC dX2_clause_63 rfl 0 rfl ?_
    refine x_getD hC dX2_clause_64 rfl flX2_15 rfl (by decide) rfl rfl ?_
    refine x_grd hF (fun hg9 hF => ?_)
    refine x_callV0 (kc2 := 0) (ks2 := 0) (k := (m8 32 1).toNat) (As := []) (rest := []) hC dX2_clause_67 rfl hm8 (fun _ _ h => T_X0_beginCondition b _ m8 (m8 32 1).toNat (isCd_k hg9) h) mlX2_73 vlX0_beginCondition (isCd_k hg9).1 (isCd_k hg9).2.1 rfl rfl (Nat.le_of_ble_eq_true rfl) (by decide) (by decide) rfl rfl hF (fun r10 m11 hr10 hm11 hF => ?_)
    refine x_aload_n hC dX2_clause_70 rfl 0 rfl ?_
    refine x_callV0 (kc2 := 0) (ks2 := 0) (k := 32) (As := []) (rest := []) hC dX2_clause_71 rfl hm11 (fun _ _ h => T_X2_group b _ m11  h) mlX2_76 vlX2_group rfl (by decide) rfl rfl (Nat.le_of_ble_eq_true rfl) (by decide) (by decide) rfl rfl hF (fun r12 m13 hr12 hm13 hF => ?_)
    exact x_return hC dX2_clause_74 hm13 hF
  · refine x_aload_n hC dX2_clause_35 rfl 0 rfl ?_
    refine x_iconst hC dX2_clause_36 rfl ?_
    refine x_callV0 (kc2 := 0) (ks2 := 0) (k := 32) (As := [iV 4]) (rest := []) hC dX2_clause_37 rfl hm (fun _ _ h => T_X2_fail b _ m 4 (rgc 4 rfl) h) mlX2_63 vlX2_fail rfl (by decide) rfl rfl (Nat.le_of_ble_eq_true rfl) (by decide) (by decide) rfl rfl hF (fun r14 m15 hr14 hm15 hF => ?_)
    exact x_return hC dX2_clause_40 hm15 hF
set_option maxRecDepth 20000 in
set_option maxHeartbeats 4000000 in
theorem T_X2_clause (b : Bs) (o : Mm) (m : Mm) {r : Int} {m' : Mm} (h : F_X2_clause  m = some (r, m')) : Cn yX2_clause cX2_clause 2 none (128) 0 0 0 b (true, o) m [.ref (b.1 + 32)] (F_X2_clause  m) := by
  refine Cn_of rfl (Nat.le_of_ble_eq_true rfl) (fun g hC hm => ?_)
  have hF := okR_some h
  generalize hQ : (fun (r : Int) (m' : Mm) => F_X2_clause  m = some (r, m')) = Q at hF ⊢
  clear hQ h
  replace hC : Cok g b RX2 cX2_clause 2 128 none := hC
  refine x_lv (lv' := [(0, .ref (b.1 + 32))]) rfl ?_
  unfold F_X2_clause at hF
  refine x_aload_n hC dX2_clause_0 rfl 0 rfl ?_
  refine x_callV1 (kc2 := 0) (ks2 := 0) (k := 32) (As := []) (rest := []) hC dX2_clause_1 rfl hm (fun _ _ h => T_X2_next b _ m  h) mlX2_59 vlX2_next rfl (by decide) rfl rfl (Nat.le_of_ble_eq_true rfl) (by decide) (by decide) rfl rfl hF (fun r1 m2 hr1 hm2 hF => ?_)
  refine x_istore_n (lv' := [(0, .ref (b.1 + 32))]) hC dX2_clause_4 rfl rfl (by decide) rfl hr1 hF (fun x3 hx3 hF => ?_)
  refine x_iload_n hC dX2_clause_5 rfl 0 rfl ?_
  refine x_bipush hC dX2_clause_6 rfl rfl ?_
  refine x_icmp_eq (tgt := 23) hC dX2_clause_8 rfl rfl hx3 (rgc 109 rfl) hF (fun hq4 hF => ?_) (fun hq4 hF => ?_)
  · refine x_sub [1, 0] rfl ?_
    exact WJ_X2_clause_23 hC  x3 hx3 m2 hm2 hF
  · refine x_iload_n hC dX2_clause_11 rfl 0 rfl ?_
    refine x_bipush hC dX2_clause_12 rfl rfl ?_
    refine x_icmp_eq (tgt := 23) hC dX2_clause_14 rfl rfl hx3 (rgc 114 rfl) hF (fun hq5 hF => ?_) (fun hq5 hF => ?_)
    · refine x_sub [1, 0] rfl ?_
      exact WJ_X2_clause_23 hC  x3 hx3 m2 hm2 hF
    · refine x_aload_n hC dX2_clause_17 rfl 1 rfl ?_
      refine x_iconst hC dX2_clause_18 rfl ?_
      refine x_callV0 (kc2 := 0) (ks2 := 0) (k := 32) (As := [iV 1]) (rest := []) hC dX2_clause_19 rfl hm2 (fun _ _ h => T_X2_fail b _ m2 1 (rgc 1 rfl) h) mlX2_63 vlX2_fail rfl (by decide) rfl rfl (Nat.le_of_ble_eq_true rfl) (by decide) (by decide) rfl rfl hF (fun r6 m7 hr6 hm7 hF => ?_)
      exact x_return hC dX2_clause_22 hm7 hF
set_option maxRecDepth 20000 in
set_option maxHeartbeats 4000000 in
theorem WJ_X2_translate_116 {g : Gx} {b : Bs} {o : Mm} {Q : Int → Mm → Prop} {c2 : Nat} {k_72 : Int → Mm → Rs} (hC : Cok g b RX2 cX2_translate 5 129 (some .int)) (hc2 : CdK c2) (hk_72 : ∀ v4 : Int, inR v4 → ∀ m : Mm, Rg m → okR (k_72 v4 m) Q → X g b (true, o) 5 (ZM g b (true, o) 1 Q) 72 [(0, .ref (b.1 + 32)), (4, iV v4)] [] m 0 0) (v4 : Int) (hv4 : inR v4) (m : Mm) (hm : Rg m) (hF : okR (J_X2_translate_116 c2 k_72 v4 m) Q) : X g b (true, o) 5 (ZM g b (true, o) 1 Q) 116 [(0, .ref (b.1 + 32)), (4, iV v4)] [] m 0 0 := by
  unfold J_X2_translate_116 at hF
  refine x_aload_n hC dX2_translate_116 rfl 0 rfl ?_
  refine x_bipush hC dX2_translate_117 rfl rfl ?_
  refine x_callV0 (kc2 := 0) (ks2 := 0) (k := 32) (As := [iV 59]) (rest := []) hC dX2_translate_119 rfl hm (fun _ _ h => T_X2_pass b _ m 59 (rgc 59 rfl) h) mlX2_55 vlX2_pass rfl (by decide) rfl rfl (Nat.le_of_ble_eq_true rfl) (by decide) (by decide) rfl rfl hF (fun r1 m2 hr1 hm2 hF => ?_)
  refine x_iinc (p := 1) (lv' := [(0, .ref (b.1 + 32))]) hC dX2_translate_122 rfl rfl (by decide) rfl hF (fun x3 hx3 hF => ?_)
  refine x_goto (tgt := 72) hC dX2_translate_125 rfl ?_
  refine x_sub [1, 0] rfl ?_
  exact hk_72 x3 hx3 m2 hm2 hF
set_option maxRecDepth 20000 in
set_option maxHeartbeats 4000000 in
theorem WJ_X2_translate_128 {g : Gx} {b : Bs} {o : Mm} {Q : Int → Mm → Prop} {c2 : Nat} (hC : Cok g b RX2 cX2_translate 5 129 (some .int)) (hc2 : CdK c2) (m : Mm) (hm : Rg m) (hF : okR (J_X2_translate_128 c2  m) Q) : X g b (true, o) 5 (ZM g b (true, o) 1 Q) 128 [(0, .ref (b.1 + 32))] [] m 0 0 := by
  unfold J_X2_translate_128 at hF
  refine x_sipush hC dX2_translate_128 rfl rfl ?_
  refine x_aload_n hC dX2_translate_131 rfl 0 rfl ?_
  refine x_getI hC dX2_translate_132 rfl flX2_46 rfl (by decide) rfl rfl ?_
  refine x_imul hC dX2_translate_135 rfl ?_
  refine x_aload_n hC dX2_translate_136 rfl 0 rfl ?_
  refine x_getI hC dX2_translate_137 rfl flX2_40 rfl (by decide) rfl rfl ?_
  refine x_isub hC dX2_translate_140 rfl ?_
  exact x_ireturn hC dX2_translate_141 hm (rg_wr _) hF
set_option maxRecDepth 20000 in
set_option maxHeartbeats 4000000 in
theorem WL_X2_translate_72 {g : Gx} {b : Bs} {o : Mm} {Q : Int → Mm → Prop} {c2 : Nat} (hC : Cok g b RX2 cX2_translate 5 129 (some .int)) (hc2 : CdK c2) : ∀ n : Nat, ∀ v4 : Int, inR v4 → ∀ m : Mm, Rg m → okR (L_X2_translate_72 c2 n v4 m) Q → X g b (true, o) 5 (ZM g b (true, o) 1 Q) 72 [(0, .ref (b.1 + 32)), (4, iV v4)] [] m 0 0 := by
  intro n
  induction n with
  | zero => intro v4 hv4 m hm hF; exact absurd hF (fun z => z)
  | succ n ih =>
    intro v4 hv4 m hm hF
    have hF : okR (LB_X2_translate_72 c2 (L_X2_translate_72 c2 n) v4 m) Q := hF
    unfold LB_X2_translate_72 at hF
    refine x_iload hC dX2_translate_72 rfl 1 rfl ?_
    refine x_bipush hC dX2_translate_74 rfl rfl ?_
    refine x_icmp_gt (tgt := 128) hC dX2_translate_76 rfl rfl hv4 (rgc 14 rfl) hF (fun hq1 hF => ?_) (fun hq1 hF => ?_)
    · refine x_sub [0] rfl ?_
      exact WJ_X2_translate_128 hC hc2   m hm hF
    · refine x_aload_n hC dX2_translate_79 rfl 0 rfl ?_
      refine x_getI hC dX2_translate_80 rfl flX2_46 rfl (by decide) rfl rfl ?_
      refine x_if_ne (tgt := 128) hC dX2_translate_83 rfl rfl (hm.i 32 5 rfl) hF (fun hq2 hF => ?_) (fun hq2 hF => ?_)
      · refine x_sub [0] rfl ?_
        exact WJ_X2_translate_128 hC hc2   m hm hF
      · refine x_aload_n hC dX2_translate_86 rfl 0 rfl ?_
        refine x_callV0 (kc2 := 0) (ks2 := 0) (k := 32) (As := []) (rest := []) hC dX2_translate_87 rfl hm (fun _ _ h => T_X2_clause b _ m  h) mlX2_49 vlX2_clause rfl (by decide) rfl rfl (Nat.le_of_ble_eq_true rfl) (by decide) (by decide) rfl rfl hF (fun r3 m4 hr3 hm4 hF => ?_)
        refine x_aload_n hC dX2_translate_90 rfl 0 rfl ?_
        refine x_getI hC dX2_translate_91 rfl flX2_46 rfl (by decide) rfl rfl ?_
        refine x_if_ne (tgt := 116) hC dX2_translate_94 rfl rfl (hm4.i 32 5 rfl) hF (fun hq5 hF => ?_) (fun hq5 hF => ?_)
        · exact WJ_X2_translate_116 hC hc2 ih  v4 hv4 m4 hm4 hF
        · refine x_aload_n hC dX2_translate_97 rfl 0 rfl ?_
          refine x_getI hC dX2_translate_98 rfl flX2_40 rfl (by decide) rfl rfl ?_
          refine x_aload_n hC dX2_translate_101 rfl 0 rfl ?_
          refine x_getI hC dX2_translate_102 rfl flX2_25 rfl (by decide) rfl rfl ?_
          refine x_icmp_lt (tgt := 116) hC dX2_translate_105 rfl rfl (hm4.i 32 3 rfl) (hm4.i 32 2 rfl) hF (fun hq6 hF => ?_) (fun hq6 hF => ?_)
          · exact WJ_X2_translate_116 hC hc2 ih  v4 hv4 m4 hm4 hF
          · refine x_aload_n hC dX2_translate_108 rfl 0 rfl ?_
            refine x_getD hC dX2_translate_109 rfl flX2_15 rfl (by decide) rfl rfl ?_
            refine x_grd hF (fun hg7 hF => ?_)
            refine x_getI hC dX2_translate_112 rfl flX2_52 (isCd_k hg7).1 (isCd_k hg7).2.1 rfl (isCd_k hg7).2.2.1 ?_
            exact x_ireturn hC dX2_translate_115 hm4 (hm4.i (m4 32 1).toNat 6 (isCd_k hg7).lg) hF
set_option maxRecDepth 20000 in
set_option maxHeartbeats 4000000 in
theorem WL_X2_translate_14 {g : Gx} {b : Bs} {o : Mm} {Q : Int → Mm → Prop} {c2 : Nat} (hC : Cok g b RX2 cX2_translate 5 129 (some .int)) (hc2 : CdK c2) : ∀ n : Nat, ∀ v4 : Int, inR v4 → ∀ m : Mm, Rg m → okR (L_X2_translate_14 c2 n v4 m) Q → X g b (true, o) 5 (ZM g b (true, o) 1 Q) 14 [(0, .ref (b.1 + 32)), (1, .ref (b.1 + 7)), (3, .ref (b.1 + c2)), (4, iV v4)] [] m 0 0 := by
  intro n
  induction n with
  | zero => intro v4 hv4 m hm hF; exact absurd hF (fun z => z)
  | succ n ih =>
    intro v4 hv4 m hm hF
    have hF : okR (LB_X2_translate_14 c2 (L_X2_translate_14 c2 n) v4 m) Q := hF
    unfold LB_X2_translate_14 at hF
    refine x_iload hC dX2_translate_14 rfl 3 rfl ?_
    refine x_aload_n hC dX2_translate_16 rfl 0 rfl ?_
    refine x_getI hC dX2_translate_17 rfl flX2_25 rfl (by decide) rfl rfl ?_
    refine x_icmp_ge (tgt := 42) hC dX2_translate_20 rfl rfl hv4 (hm.i 32 2 rfl) hF (fun hq1 hF => ?_) (fun hq1 hF => ?_)
    · refine x_aload_n hC dX2_translate_42 rfl 0 rfl ?_
      refine x_aload_n hC dX2_translate_43 rfl 2 rfl ?_
      refine x_putD hC dX2_translate_44 rfl fpX2_15 rfl (by decide) (by decide) rfl (fun _ => rfl) (fun _ => rfl) rfl hm hc2.rg rfl hF (fun m2 hm2 hF => ?_)
      refine x_aload_n hC dX2_translate_47 rfl 0 rfl ?_
      refine x_getD hC dX2_translate_48 rfl flX2_15 rfl (by decide) rfl rfl ?_
      refine x_grd hF (fun hg3 hF => ?_)
      refine x_callV0 (kc2 := 0) (ks2 := 0) (k := (m2 32 1).toNat) (As := []) (rest := []) hC dX2_translate_51 rfl hm2 (fun _ _ h => T_X0_clear b _ m2 (m2 32 1).toNat (isCd_k hg3) h) mlX2_35 vlX0_clear (isCd_k hg3).1 (isCd_k hg3).2.1 rfl rfl (Nat.le_of_ble_eq_true rfl) (by decide) (by decide) rfl rfl hF (fun r4 m5 hr4 hm5 hF => ?_)
      refine x_aload_n hC dX2_translate_54 rfl 0 rfl ?_
      refine x_iconst hC dX2_translate_55 rfl ?_
      refine x_putI hC dX2_translate_56 rfl fpX2_40 rfl (by decide) (by decide) rfl rfl hm5 (rgc 0 rfl) rfl hF (fun m6 hm6 hF => ?_)
      refine x_aload_n hC dX2_translate_59 rfl 0 rfl ?_
      refine x_iconst hC dX2_translate_60 rfl ?_
      refine x_putI hC dX2_translate_61 rfl fpX2_43 rfl (by decide) (by decide) rfl rfl hm6 (rgc 0 rfl) rfl hF (fun m7 hm7 hF => ?_)
      refine x_aload_n hC dX2_translate_64 rfl 0 rfl ?_
      refine x_iconst hC dX2_translate_65 rfl ?_
      refine x_putI hC dX2_translate_66 rfl fpX2_46 rfl (by decide) (by decide) rfl rfl hm7 (rgc 0 rfl) rfl hF (fun m8 hm8 hF => ?_)
      refine x_iconst hC dX2_translate_69 rfl ?_
      refine x_istoreZ (lv' := [(0, .ref (b.1 + 32)), (1, .ref (b.1 + 7)), (3, .ref (b.1 + c2))]) hC dX2_translate_70 rfl (by decide) rfl (Or.inl rfl) hF (fun x9 hx9 hF => ?_)
      refine x_sub [1, 0] rfl ?_
      exact WL_X2_translate_72 hC hc2 100000  x9 (rg_01 hx9) m8 hm8 hF
    · refine x_aload_n hC dX2_translate_23 rfl 0 rfl ?_
      refine x_getR (t := 33) hC dX2_translate_24 rfl flX2_9 rfl (by decide) rfl rfl ?_
      refine x_iload hC dX2_translate_27 rfl 3 rfl ?_
      refine x_aload_n hC dX2_translate_29 rfl 1 rfl ?_
      refine x_iload hC dX2_translate_30 rfl 3 rfl ?_
      refine x_callV1 (kc2 := 0) (ks2 := 0) (k := 7) (As := [iV v4]) (rest := [iV v4, .ref (b.1 + 33)]) hC dX2_translate_32 rfl hm (fun _ _ h => T_X10_byteAt b _ m v4 hv4 h) mlX2_29 vlX10_byteAt rfl (by decide) rfl rfl (Nat.le_of_ble_eq_true rfl) (by decide) (by decide) rfl rfl hF (fun r10 m11 hr10 hm11 hF => ?_)
      refine x_iast hC dX2_translate_35 rfl rfl (by decide) rfl hm11 hv4 hr10 hF (fun m12 hm12 hF => ?_)
      refine x_iinc (p := 3) (lv' := [(0, .ref (b.1 + 32)), (1, .ref (b.1 + 7)), (3, .ref (b.1 + c2))]) hC dX2_translate_36 rfl rfl (by decide) rfl hF (fun x13 hx13 hF => ?_)
      refine x_goto (tgt := 14) hC dX2_translate_39 rfl ?_
      refine x_sub [1, 2, 3, 0] rfl ?_
      exact ih x13 hx13 m12 hm12 hF
set_option maxRecDepth 20000 in
set_option maxHeartbeats 4000000 in
theorem T_X2_translate (b : Bs) (o : Mm) (m : Mm) (a1 : Int) (ha1 : inR a1) (c2 : Nat) (hc2 : CdK c2) {r : Int} {m' : Mm} (h : F_X2_translate a1 c2 m = some (r, m')) : Cn yX2_translate cX2_translate 5 (some .int) (129) 0 0 1 b (true, o) m [.ref (b.1 + 32), .ref (b.1 + 7), iV a1, .ref (b.1 + c2)] (F_X2_translate a1 c2 m) := by
  refine Cn_of rfl (Nat.le_of_ble_eq_true rfl) (fun g hC hm => ?_)
  have hF := okR_some h
  generalize hQ : (fun (r : Int) (m' : Mm) => F_X2_translate a1 c2 m = some (r, m')) = Q at hF ⊢
  clear hQ h
  replace hC : Cok g b RX2 cX2_translate 5 129 (some .int) := hC
  refine x_lv (lv' := [(0, .ref (b.1 + 32)), (1, .ref (b.1 + 7)), (2, iV a1), (3, .ref (b.1 + c2))]) rfl ?_
  unfold F_X2_translate at hF
  refine x_aload_n hC dX2_translate_0 rfl 0 rfl ?_
  refine x_iload_n hC dX2_translate_1 rfl 2 rfl ?_
  refine x_sipush hC dX2_translate_2 rfl rfl ?_
  refine x_callS1 (kc2 := 0) (ks2 := 0) (As := [iV a1, iV 200]) (rest := [.ref (b.1 + 32)]) hC dX2_translate_5 rfl hm (fun _ _ h => T_J9_min_7cf53 b _ m a1 ha1 200 (rgc 200 rfl) h) mlX2_19 vsJ9_min_7cf53 rfl rfl (Nat.le_of_ble_eq_true rfl) (by decide) (by decide) rfl rfl hF (fun r1 m2 hr1 hm2 hF => ?_)
  refine x_putI hC dX2_translate_8 rfl fpX2_25 rfl (by decide) (by decide) rfl rfl hm2 hr1 rfl hF (fun m3 hm3 hF => ?_)
  refine x_iconst hC dX2_translate_11 rfl ?_
  refine x_istoreZ (lv' := [(0, .ref (b.1 + 32)), (1, .ref (b.1 + 7)), (2, iV a1), (3, .ref (b.1 + c2))]) hC dX2_translate_12 rfl (by decide) rfl (Or.inl rfl) hF (fun x4 hx4 hF => ?_)
  refine x_sub [1, 2, 4, 0] rfl ?_
  exact WL_X2_translate_14 hC hc2 100000  x4 (rg_01 hx4) m3 hm3 hF
set_option maxRecDepth 20000 in
set_option maxHeartbeats 4000000 in
theorem T_X3_forget (b : Bs) (o : Mm) (m : Mm) {r : Int} {m' : Mm} (h : F_X3_forget  m = some (r, m')) : Cn yX3_forget cX3_forget 1 none (0) 0 0 0 b (true, o) m [.ref (b.1 + 14)] (F_X3_forget  m) := by
  refine Cn_of rfl (Nat.le_of_ble_eq_true rfl) (fun g hC hm => ?_)
  have hF := okR_some h
  generalize hQ : (fun (r : Int) (m' : Mm) => F_X3_forget  m = some (r, m')) = Q at hF ⊢
  clear hQ h
  replace hC : Cok g b RX3 cX3_forget 1 0 none := hC
  refine x_lv (lv' := [(0, .ref (b.1 + 14))]) rfl ?_
  unfold F_X3_forget at hF
  refine x_aload_n hC dX3_forget_0 rfl 0 rfl ?_
  refine x_iconst hC dX3_forget_1 rfl ?_
  refine x_putI hC dX3_forget_2 rfl fpX3_18 rfl (by decide) (by decide) rfl rfl hm (rgc (-1) rfl) rfl hF (fun m1 hm1 hF => ?_)
  exact x_return hC dX3_forget_5 hm1 hF
set_option maxRecDepth 20000 in
set_option maxHeartbeats 4000000 in
theorem T_X4_breathsFor (b : Bs) (o : Mm) (m : Mm) (a1 : Int) (ha1 : inR a1) {r : Int} {m' : Mm} (h : F_X4_breathsFor a1 m = some (r, m')) : Cn yX4_breathsFor cX4_breathsFor 2 (some .int) (0) 0 0 1 b (true, o) m [.ref (b.1 + 1), iV a1] (F_X4_breathsFor a1 m) := by
  refine Cn_of rfl (Nat.le_of_ble_eq_true rfl) (fun g hC hm => ?_)
  have hF := okR_some h
  generalize hQ : (fun (r : Int) (m' : Mm) => F_X4_breathsFor a1 m = some (r, m')) = Q at hF ⊢
  clear hQ h
  replace hC : Cok g b RX4 cX4_breathsFor 2 0 (some .int) := hC
  refine x_lv (lv' := [(0, .ref (b.1 + 1)), (1, iV a1)]) rfl ?_
  unfold F_X4_breathsFor at hF
  refine x_aload_n hC dX4_breathsFor_0 rfl 0 rfl ?_
  refine x_getI hC dX4_breathsFor_1 rfl flX4_31 rfl (by decide) rfl rfl ?_
  refine x_if_le (tgt := 16) hC dX4_breathsFor_4 rfl rfl (hm.i 1 7 rfl) hF (fun hq1 hF => ?_) (fun hq1 hF => ?_)
  · refine x_iconst hC dX4_breathsFor_16 rfl ?_
    exact x_ireturn hC dX4_breathsFor_17 hm (rgc 0 rfl) hF
  · refine x_iload_n hC dX4_breathsFor_7 rfl 1 rfl ?_
    refine x_aload_n hC dX4_breathsFor_8 rfl 0 rfl ?_
    refine x_getI hC dX4_breathsFor_9 rfl flX4_31 rfl (by decide) rfl rfl ?_
    refine x_idiv hC dX4_breathsFor_12 rfl ha1 (hm.i 1 7 rfl) hF (fun hz2 hF => ?_)
    refine x_goto (tgt := 17) hC dX4_breathsFor_13 rfl ?_
    exact x_ireturn hC dX4_breathsFor_17 hm (rg_wr _) hF
set_option maxRecDepth 20000 in
set_option maxHeartbeats 4000000 in
theorem T_J9_abs_0f7a4 (b : Bs) (o : Mm) (m : Mm) (a1 : Int) (ha1 : inR a1) {r : Int} {m' : Mm} (h : F_J9_abs_0f7a4 a1 m = some (r, m')) : Cn yJ9_abs_0f7a4 cJ9_abs_0f7a4 1 (some .int) (0) 0 0 1 b (true, o) m [iV a1] (F_J9_abs_0f7a4 a1 m) := by
  refine Cn_ofF (by decide +kernel) (Nat.le_of_ble_eq_true rfl) (fun g hC hm => ?_)
  have hF := okR_some h
  generalize hQ : (fun (r : Int) (m' : Mm) => F_J9_abs_0f7a4 a1 m = some (r, m')) = Q at hF ⊢
  clear hQ h
  replace hC : Cok g b RJ9 cJ9_abs_0f7a4 1 0 (some .int) := hC
  refine x_lv (lv' := [(0, iV a1)]) rfl ?_
  unfold F_J9_abs_0f7a4 at hF
  refine x_iload_n hC dJ9_abs_0f7a4_0 rfl 0 rfl ?_
  refine x_if_ge (tgt := 9) hC dJ9_abs_0f7a4_1 rfl rfl ha1 hF (fun hq1 hF => ?_) (fun hq1 hF => ?_)
  · refine x_iload_n hC dJ9_abs_0f7a4_9 rfl 0 rfl ?_
    exact x_ireturn hC dJ9_abs_0f7a4_10 hm ha1 hF
  · refine x_iload_n hC dJ9_abs_0f7a4_4 rfl 0 rfl ?_
    refine x_ineg hC dJ9_abs_0f7a4_5 rfl ?_
    refine x_goto (tgt := 10) hC dJ9_abs_0f7a4_6 rfl ?_
    exact x_ireturn hC dJ9_abs_0f7a4_10 hm (rg_wr _) hF
set_option maxRecDepth 20000 in
set_option maxHeartbeats 4000000 in
theorem T_X4_wayBetween (b : Bs) (o : Mm) (m : Mm) (a1 : Int) (ha1 : inR a1) (a2 : Int) (ha2 : inR a2) {r : Int} {m' : Mm} (h : F_X4_wayBetween a1 a2 m = some (r, m')) : Cn yX4_wayBetween cX4_wayBetween 3 (some .int) (1) 0 0 1 b (true, o) m [.ref (b.1 + 1), iV a1, iV a2] (F_X4_wayBetween a1 a2 m) := by
  refine Cn_of rfl (Nat.le_of_ble_eq_true rfl) (fun g hC hm => ?_)
  have hF := okR_some h
  generalize hQ : (fun (r : Int) (m' : Mm) => F_X4_wayBetween a1 a2 m = some (r, m')) = Q at hF ⊢
  clear hQ h
  replace hC : Cok g b RX4 cX4_wayBetween 3 1 (some .int) := hC
  refine x_lv (lv' := [(0, .ref (b.1 + 1)), (1, iV a1), (2, iV a2)]) rfl ?_
  unfold F_X4_wayBetween at hF
  refine x_aload_n hC dX4_wayBetween_0 rfl 0 rfl ?_
  refine x_iload_n hC dX4_wayBetween_1 rfl 1 rfl ?_
  refine x_callV3 (kc2 := 0) (ks2 := 0) (k := 1) (As := [iV a1]) (rest := []) hC dX4_wayBetween_2 rfl hm (fun _ _ h => T_X4_has b _ m a1 ha1 h) mlX4_37 vlX4_has rfl (by decide) rfl rfl (Nat.le_of_ble_eq_true rfl) (by decide) (by decide) rfl rfl hF (fun r1 m2 hr1 hm2 hF => ?_)
  refine x_if_eq (tgt := 16) hC dX4_wayBetween_5 rfl rfl (rg_01 hr1) hF (fun hq3 hF => ?_) (fun hq3 hF => ?_)
  · refine x_iconst hC dX4_wayBetween_16 rfl ?_
    exact x_ireturn hC dX4_wayBetween_17 hm2 (rgc 0 rfl) hF
  · refine x_aload_n hC dX4_wayBetween_8 rfl 0 rfl ?_
    refine x_iload_n hC dX4_wayBetween_9 rfl 2 rfl ?_
    refine x_callV3 (kc2 := 0) (ks2 := 0) (k := 1) (As := [iV a2]) (rest := []) hC dX4_wayBetween_10 rfl hm2 (fun _ _ h => T_X4_has b _ m2 a2 ha2 h) mlX4_37 vlX4_has rfl (by decide) rfl rfl (Nat.le_of_ble_eq_true rfl) (by decide) (by decide) rfl rfl hF (fun r4 m5 hr4 hm5 hF => ?_)
    refine x_if_ne (tgt := 18) hC dX4_wayBetween_13 rfl rfl (rg_01 hr4) hF (fun hq6 hF => ?_) (fun hq6 hF => ?_)
    · refine x_aload_n hC dX4_wayBetween_18 rfl 0 rfl ?_
      refine x_getR (t := 2) hC dX4_wayBetween_19 rfl flX4_9 rfl (by decide) rfl rfl ?_
      refine x_iload_n hC dX4_wayBetween_22 rfl 1 rfl ?_
      refine x_iald hC dX4_wayBetween_23 rfl rfl (by decide) rfl hm5 ha1 hF (fun x7 hx7 hF => ?_)
      refine x_aload_n hC dX4_wayBetween_24 rfl 0 rfl ?_
      refine x_getR (t := 2) hC dX4_wayBetween_25 rfl flX4_9 rfl (by decide) rfl rfl ?_
      refine x_iload_n hC dX4_wayBetween_28 rfl 2 rfl ?_
      refine x_iald hC dX4_wayBetween_29 rfl rfl (by decide) rfl hm5 ha2 hF (fun x8 hx8 hF => ?_)
      refine x_isub hC dX4_wayBetween_30 rfl ?_
      refine x_callS1 (kc2 := 0) (ks2 := 0) (As := [iV (wr (x7 - x8))]) (rest := []) hC dX4_wayBetween_31 rfl hm5 (fun _ _ h => T_J9_abs_0f7a4 b _ m5 (wr (x7 - x8)) (rg_wr _) h) mlX4_41 vsJ9_abs_0f7a4 rfl rfl (Nat.le_of_ble_eq_true rfl) (by decide) (by decide) rfl rfl hF (fun r9 m10 hr9 hm10 hF => ?_)
      refine x_aload_n hC dX4_wayBetween_34 rfl 0 rfl ?_
      refine x_getR (t := 3) hC dX4_wayBetween_35 rfl flX4_15 rfl (by decide) rfl rfl ?_
      refine x_iload_n hC dX4_wayBetween_38 rfl 1 rfl ?_
      refine x_iald hC dX4_wayBetween_39 rfl rfl (by decide) rfl hm10 ha1 hF (fun x11 hx11 hF => ?_)
      refine x_aload_n hC dX4_wayBetween_40 rfl 0 rfl ?_
      refine x_getR (t := 3) hC dX4_wayBetween_41 rfl flX4_15 rfl (by decide) rfl rfl ?_
      refine x_iload_n hC dX4_wayBetween_44 rfl 2 rfl ?_
      refine x_iald hC dX4_wayBetween_45 rfl rfl (by decide) rfl hm10 ha2 hF (fun x12 hx12 hF => ?_)
      refine x_isub hC dX4_wayBetween_46 rfl ?_
      refine x_callS1 (kc2 := 0) (ks2 := 0) (As := [iV (wr (x11 - x12))]) (rest := [iV r9]) hC dX4_wayBetween_47 rfl hm10 (fun _ _ h => T_J9_abs_0f7a4 b _ m10 (wr (x11 - x12)) (rg_wr _) h) mlX4_41 vsJ9_abs_0f7a4 rfl rfl (Nat.le_of_ble_eq_true rfl) (by decide) (by decide) rfl rfl hF (fun r13 m14 hr13 hm14 hF => ?_)
      refine x_iadd hC dX4_wayBetween_50 rfl ?_
      exact x_ireturn hC dX4_wayBetween_51 hm14 (rg_wr _) hF
    · refine x_iconst hC dX4_wayBetween_16 rfl ?_
      exact x_ireturn hC dX4_wayBetween_17 hm5 (rgc 0 rfl) hF
set_option maxRecDepth 20000 in
set_option maxHeartbeats 4000000 in
theorem T_X9_breathOf (b : Bs) (o : Mm) (m : Mm) (a1 : Int) (ha1 : inR a1) {r : Int} {m' : Mm} (h : F_X9_breathOf a1 m = some (r, m')) : Cn yX9_breathOf cX9_breathOf 2 (some .int) (0) 0 0 1 b (true, o) m [.ref (b.1 + 9), iV a1] (F_X9_breathOf a1 m) := by
  refine Cn_of rfl (Nat.le_of_ble_eq_true rfl) (fun g hC hm => ?_)
  have hF := okR_some h
  generalize hQ : (fun (r : Int) (m' : Mm) => F_X9_breathOf a1 m = some (r, m')) = Q at hF ⊢
  clear hQ h
  replace hC : Cok g b RX9 cX9_breathOf 2 0 (some .int) := hC
  refine x_lv (lv' := [(0, .ref (b.1 + 9)), (1, iV a1)]) rfl ?_
  unfold F_X9_breathOf at hF
  refine x_iload_n hC dX9_breathOf_0 rfl 1 rfl ?_
  refine x_if_lt (tgt := 21) hC dX9_breathOf_1 rfl rfl ha1 hF (fun hq1 hF => ?_) (fun hq1 hF => ?_)
  · refine x_iconst hC dX9_breathOf_21 rfl ?_
    exact x_ireturn hC dX9_breathOf_22 hm (rgc (-1) rfl) hF
  · refine x_iload_n hC dX9_breathOf_4 rfl 1 rfl ?_
    refine x_aload_n hC dX9_breathOf_5 rfl 0 rfl ?_
    refine x_getI hC dX9_breathOf_6 rfl flX9_31 rfl (by decide) rfl rfl ?_
    refine x_icmp_ge (tgt := 21) hC dX9_breathOf_9 rfl rfl ha1 (hm.i 9 4 rfl) hF (fun hq2 hF => ?_) (fun hq2 hF => ?_)
    · refine x_iconst hC dX9_breathOf_21 rfl ?_
      exact x_ireturn hC dX9_breathOf_22 hm (rgc (-1) rfl) hF
    · refine x_aload_n hC dX9_breathOf_12 rfl 0 rfl ?_
      refine x_getR (t := 11) hC dX9_breathOf_13 rfl flX9_15 rfl (by decide) rfl rfl ?_
      refine x_iload_n hC dX9_breathOf_16 rfl 1 rfl ?_
      refine x_iald hC dX9_breathOf_17 rfl rfl (by decide) rfl hm ha1 hF (fun x3 hx3 hF => ?_)
      refine x_goto (tgt := 22) hC dX9_breathOf_18 rfl ?_
      exact x_ireturn hC dX9_breathOf_22 hm hx3 hF
set_option maxRecDepth 20000 in
set_option maxHeartbeats 4000000 in
theorem T_X9_whoOf (b : Bs) (o : Mm) (m : Mm) (a1 : Int) (ha1 : inR a1) {r : Int} {m' : Mm} (h : F_X9_whoOf a1 m = some (r, m')) : Cn yX9_whoOf cX9_whoOf 2 (some .int) (0) 0 0 1 b (true, o) m [.ref (b.1 + 9), iV a1] (F_X9_whoOf a1 m) := by
  refine Cn_of rfl (Nat.le_of_ble_eq_true rfl) (fun g hC hm => ?_)
  have hF := okR_some h
  generalize hQ : (fun (r : Int) (m' : Mm) => F_X9_whoOf a1 m = some (r, m')) = Q at hF ⊢
  clear hQ h
  replace hC : Cok g b RX9 cX9_whoOf 2 0 (some .int) := hC
  refine x_lv (lv' := [(0, .ref (b.1 + 9)), (1, iV a1)]) rfl ?_
  unfold F_X9_whoOf at hF
  refine x_iload_n hC dX9_whoOf_0 rfl 1 rfl ?_
  refine x_if_lt (tgt := 21) hC dX9_whoOf_1 rfl rfl ha1 hF (fun hq1 hF => ?_) (fun hq1 hF => ?_)
  · refine x_bipush hC dX9_whoOf_21 rfl rfl ?_
    exact x_ireturn hC dX9_whoOf_23 hm (rgc 8 rfl) hF
  · refine x_iload_n hC dX9_whoOf_4 rfl 1 rfl ?_
    refine x_aload_n hC dX9_whoOf_5 rfl 0 rfl ?_
    refine x_getI hC dX9_whoOf_6 rfl flX9_31 rfl (by decide) rfl rfl ?_
    refine x_icmp_ge (tgt := 21) hC dX9_whoOf_9 rfl rfl ha1 (hm.i 9 4 rfl) hF (fun hq2 hF => ?_) (fun hq2 hF => ?_)
    · refine x_bipush hC dX9_whoOf_21 rfl rfl ?_
      exact x_ireturn hC dX9_whoOf_23 hm (rgc 8 rfl) hF
    · refine x_aload_n hC dX9_whoOf_12 rfl 0 rfl ?_
      refine x_getR (t := 10) hC dX9_whoOf_13 rfl flX9_9 rfl (by decide) rfl rfl ?_
      refine x_iload_n hC dX9_whoOf_16 rfl 1 rfl ?_
      refine x_iald hC dX9_whoOf_17 rfl rfl (by decide) rfl hm ha1 hF (fun x3 hx3 hF => ?_)
      refine x_goto (tgt := 23) hC dX9_whoOf_18 rfl ?_
      exact x_ireturn hC dX9_whoOf_23 hm hx3 hF
set_option maxRecDepth 20000 in
set_option maxHeartbeats 4000000 in
theorem T_X3_arrival (b : Bs) (o : Mm) (m : Mm) (a1 : Int) (ha1 : inR a1) (a2 : Int) (ha2 : inR a2) {r : Int} {m' : Mm} (h : F_X3_arrival a1 a2 m = some (r, m')) : Cn yX3_arrival cX3_arrival 3 (some .int) (2) 0 0 1 b (true, o) m [.ref (b.1 + 14), iV a1, iV a2] (F_X3_arrival a1 a2 m) := by
  refine Cn_of rfl (Nat.le_of_ble_eq_true rfl) (fun g hC hm => ?_)
  have hF := okR_some h
  generalize hQ : (fun (r : Int) (m' : Mm) => F_X3_arrival a1 a2 m = some (r, m')) = Q at hF ⊢
  clear hQ h
  replace hC : Cok g b RX3 cX3_arrival 3 2 (some .int) := hC
  refine x_lv (lv' := [(0, .ref (b.1 + 14)), (1, iV a1), (2, iV a2)]) rfl ?_
  unfold F_X3_arrival at hF
  refine x_aload_n hC dX3_arrival_0 rfl 0 rfl ?_
  refine x_getR (t := 9) hC dX3_arrival_1 rfl flX3_26 rfl (by decide) rfl rfl ?_
  refine x_iload_n hC dX3_arrival_4 rfl 2 rfl ?_
  refine x_callV1 (kc2 := 0) (ks2 := 0) (k := 9) (As := [iV a2]) (rest := []) hC dX3_arrival_5 rfl hm (fun _ _ h => T_X9_breathOf b _ m a2 ha2 h) mlX3_54 vlX9_breathOf rfl (by decide) rfl rfl (Nat.le_of_ble_eq_true rfl) (by decide) (by decide) rfl rfl hF (fun r1 m2 hr1 hm2 hF => ?_)
  refine x_aload_n hC dX3_arrival_8 rfl 0 rfl ?_
  refine x_getR (t := 1) hC dX3_arrival_9 rfl flX3_22 rfl (by decide) rfl rfl ?_
  refine x_aload_n hC dX3_arrival_12 rfl 0 rfl ?_
  refine x_getR (t := 1) hC dX3_arrival_13 rfl flX3_22 rfl (by decide) rfl rfl ?_
  refine x_iload_n hC dX3_arrival_16 rfl 1 rfl ?_
  refine x_aload_n hC dX3_arrival_17 rfl 0 rfl ?_
  refine x_getR (t := 9) hC dX3_arrival_18 rfl flX3_26 rfl (by decide) rfl rfl ?_
  refine x_iload_n hC dX3_arrival_21 rfl 2 rfl ?_
  refine x_callV1 (kc2 := 0) (ks2 := 0) (k := 9) (As := [iV a2]) (rest := [iV a1, .ref (b.1 + 1), .ref (b.1 + 1), iV r1]) hC dX3_arrival_22 rfl hm2 (fun _ _ h => T_X9_whoOf b _ m2 a2 ha2 h) mlX3_36 vlX9_whoOf rfl (by decide) rfl rfl (Nat.le_of_ble_eq_true rfl) (by decide) (by decide) rfl rfl hF (fun r3 m4 hr3 hm4 hF => ?_)
  refine x_callV1 (kc2 := 0) (ks2 := 0) (k := 1) (As := [iV a1, iV r3]) (rest := [.ref (b.1 + 1), iV r1]) hC dX3_arrival_25 rfl hm4 (fun _ _ h => T_X4_wayBetween b _ m4 a1 ha1 r3 hr3 h) mlX3_57 vlX4_wayBetween rfl (by decide) rfl rfl (Nat.le_of_ble_eq_true rfl) (by decide) (by decide) rfl rfl hF (fun r5 m6 hr5 hm6 hF => ?_)
  refine x_callV1 (kc2 := 0) (ks2 := 0) (k := 1) (As := [iV r5]) (rest := [iV r1]) hC dX3_arrival_28 rfl hm6 (fun _ _ h => T_X4_breathsFor b _ m6 r5 hr5 h) mlX3_60 vlX4_breathsFor rfl (by decide) rfl rfl (Nat.le_of_ble_eq_true rfl) (by decide) (by decide) rfl rfl hF (fun r7 m8 hr7 hm8 hF => ?_)
  refine x_iadd hC dX3_arrival_31 rfl ?_
  exact x_ireturn hC dX3_arrival_32 hm8 (rg_wr _) hF
set_option maxRecDepth 20000 in
set_option maxHeartbeats 4000000 in
theorem T_X3_nearer (b : Bs) (o : Mm) (m : Mm) (a1 : Int) (ha1 : inR a1) (a2 : Int) (ha2 : inR a2) (a3 : Int) (ha3 : inR a3) {r : Int} {m' : Mm} (h : F_X3_nearer a1 a2 a3 m = some (r, m')) : Cn yX3_nearer cX3_nearer 6 (some .boolean) (2) 0 0 3 b (true, o) m [.ref (b.1 + 14), iV a1, iV a2, iV a3] (F_X3_nearer a1 a2 a3 m) := by
  refine Cn_of rfl (Nat.le_of_ble_eq_true rfl) (fun g hC hm => ?_)
  have hF := okR_some h
  generalize hQ : (fun (r : Int) (m' : Mm) => F_X3_nearer a1 a2 a3 m = some (r, m')) = Q at hF ⊢
  clear hQ h
  replace hC : Cok g b RX3 cX3_nearer 6 2 (some .boolean) := hC
  refine x_lv (lv' := [(0, .ref (b.1 + 14)), (1, iV a1), (2, iV a2), (3, iV a3)]) rfl ?_
  unfold F_X3_nearer at hF
  refine x_aload_n hC dX3_nearer_0 rfl 0 rfl ?_
  refine x_getR (t := 1) hC dX3_nearer_1 rfl flX3_22 rfl (by decide) rfl rfl ?_
  refine x_iload_n hC dX3_nearer_4 rfl 1 rfl ?_
  refine x_iload_n hC dX3_nearer_5 rfl 2 rfl ?_
  refine x_callV1 (kc2 := 0) (ks2 := 0) (k := 1) (As := [iV a1, iV a2]) (rest := []) hC dX3_nearer_6 rfl hm (fun _ _ h => T_X4_wayBetween b _ m a1 ha1 a2 ha2 h) mlX3_57 vlX4_wayBetween rfl (by decide) rfl rfl (Nat.le_of_ble_eq_true rfl) (by decide) (by decide) rfl rfl hF (fun r1 m2 hr1 hm2 hF => ?_)
  refine x_istore (lv' := [(0, .ref (b.1 + 14)), (1, iV a1), (2, iV a2), (3, iV a3)]) hC dX3_nearer_9 rfl (by decide) rfl hr1 hF (fun x3 hx3 hF => ?_)
  refine x_aload_n hC dX3_nearer_11 rfl 1 rfl ?_
  refine x_getR (t := 1) hC dX3_nearer_12 rfl flX3_22 rfl (by decide) rfl rfl ?_
  refine x_iload_n hC dX3_nearer_15 rfl 2 rfl ?_
  refine x_iload_n hC dX3_nearer_16 rfl 4 rfl ?_
  refine x_callV1 (kc2 := 0) (ks2 := 0) (k := 1) (As := [iV a1, iV a3]) (rest := []) hC dX3_nearer_17 rfl hm2 (fun _ _ h => T_X4_wayBetween b _ m2 a1 ha1 a3 ha3 h) mlX3_57 vlX4_wayBetween rfl (by decide) rfl rfl (Nat.le_of_ble_eq_true rfl) (by decide) (by decide) rfl rfl hF (fun r4 m5 hr4 hm5 hF => ?_)
  refine x_istore (lv' := [(4, iV x3), (0, .ref (b.1 + 14)), (1, iV a1), (2, iV a2), (3, iV a3)]) hC dX3_nearer_20 rfl (by decide) rfl hr4 hF (fun x6 hx6 hF => ?_)
  refine x_iload hC dX3_nearer_22 rfl 1 rfl ?_
  refine x_iload hC dX3_nearer_24 rfl 0 rfl ?_
  refine x_icmp_lt (tgt := 41) hC dX3_nearer_26 rfl rfl hx3 hx6 hF (fun hq7 hF => ?_) (fun hq7 hF => ?_)
  · refine x_iconst hC dX3_nearer_41 rfl ?_
    refine x_goto (tgt := 46) hC dX3_nearer_42 rfl ?_
    exact x_zreturn hC dX3_nearer_46 hm5 (Or.inr rfl) hF
  · refine x_iload hC dX3_nearer_29 rfl 1 rfl ?_
    refine x_iload hC dX3_nearer_31 rfl 0 rfl ?_
    refine x_icmp_ne (tgt := 45) hC dX3_nearer_33 rfl rfl hx3 hx6 hF (fun hq8 hF => ?_) (fun hq8 hF => ?_)
    · refine x_iconst hC dX3_nearer_45 rfl ?_
      exact x_zreturn hC dX3_nearer_46 hm5 (Or.inl rfl) hF
    · refine x_iload_n hC dX3_nearer_36 rfl 4 rfl ?_
      refine x_iload_n hC dX3_nearer_37 rfl 5 rfl ?_
      refine x_icmp_ge (tgt := 45) hC dX3_nearer_38 rfl rfl ha2 ha3 hF (fun hq9 hF => ?_) (fun hq9 hF => ?_)
      · refine x_iconst hC dX3_nearer_45 rfl ?_
        exact x_zreturn hC dX3_nearer_46 hm5 (Or.inl rfl) hF
      · refine x_iconst hC dX3_nearer_41 rfl ?_
        refine x_goto (tgt := 46) hC dX3_nearer_42 rfl ?_
        exact x_zreturn hC dX3_nearer_46 hm5 (Or.inr rfl) hF
set_option maxRecDepth 20000 in
set_option maxHeartbeats 4000000 in
theorem WL_X3_place_90 {g : Gx} {b : Bs} {o : Mm} {Q : Int → Mm → Prop} (hC : Cok g b RX3 cX3_place 5 3 none) : ∀ n : Nat, ∀ v1 : Int, inR v1 → ∀ v2 : Int, inR v2 → ∀ v3 : Int, inR v3 → ∀ v4 : Int, inR v4 → ∀ m : Mm, Rg m → okR (L_X3_place_90 n v1 v2 v3 v4 m) Q → X g b (true, o) 5 (ZM g b (true, o) 0 Q) 90 [(0, .ref (b.1 + 14)), (1, iV v1), (2, iV v2), (3, iV v3), (4, iV v4)] [] m 0 0 := by
  intro n
  induction n with
  | zero => intro v1 hv1 v2 hv2 v3 hv3 v4 hv4 m hm hF; exact absurd hF (fun z => z)
  | succ n ih =>
    intro v1 hv1 v2 hv2 v3 hv3 v4 hv4 m hm hF
    have hF : okR (LB_X3_place_90 (L_X3_place_90 n) v1 v2 v3 v4 m) Q := hF
    unfold LB_X3_place_90 at hF
    refine x_iload hC dX3_place_90 rfl 4 rfl ?_
    refine x_iload_n hC dX3_place_92 rfl 3 rfl ?_
    refine x_icmp_le (tgt := 134) hC dX3_place_93 rfl rfl hv4 hv3 hF (fun hq1 hF => ?_) (fun hq1 hF => ?_)
    · refine x_aload_n hC dX3_place_134 rfl 0 rfl ?_
      refine x_getR (t := 16) hC dX3_place_135 rfl flX3_15 rfl (by decide) rfl rfl ?_
      refine x_iload_n hC dX3_place_138 rfl 3 rfl ?_
      refine x_iload_n hC dX3_place_139 rfl 1 rfl ?_
      refine x_iast hC dX3_place_140 rfl rfl (by decide) rfl hm hv3 hv1 hF (fun m2 hm2 hF => ?_)
      refine x_aload_n hC dX3_place_141 rfl 0 rfl ?_
      refine x_getR (t := 15) hC dX3_place_142 rfl flX3_9 rfl (by decide) rfl rfl ?_
      refine x_iload_n hC dX3_place_145 rfl 3 rfl ?_
      refine x_iload_n hC dX3_place_146 rfl 2 rfl ?_
      refine x_iast hC dX3_place_147 rfl rfl (by decide) rfl hm2 hv3 hv2 hF (fun m3 hm3 hF => ?_)
      refine x_aload_n hC dX3_place_148 rfl 0 rfl ?_
      refine x_dup hC dX3_place_149 rfl rfl ?_
      refine x_getI hC dX3_place_150 rfl flX3_30 rfl (by decide) rfl rfl ?_
      refine x_iconst hC dX3_place_153 rfl ?_
      refine x_iadd hC dX3_place_154 rfl ?_
      refine x_putI hC dX3_place_155 rfl fpX3_30 rfl (by decide) (by decide) rfl rfl hm3 (rg_wr _) rfl hF (fun m4 hm4 hF => ?_)
      exact x_return hC dX3_place_158 hm4 hF
    · refine x_aload_n hC dX3_place_96 rfl 0 rfl ?_
      refine x_getR (t := 16) hC dX3_place_97 rfl flX3_15 rfl (by decide) rfl rfl ?_
      refine x_iload hC dX3_place_100 rfl 4 rfl ?_
      refine x_aload_n hC dX3_place_102 rfl 0 rfl ?_
      refine x_getR (t := 16) hC dX3_place_103 rfl flX3_15 rfl (by decide) rfl rfl ?_
      refine x_iload hC dX3_place_106 rfl 4 rfl ?_
      refine x_iconst hC dX3_place_108 rfl ?_
      refine x_isub hC dX3_place_109 rfl ?_
      refine x_iald hC dX3_place_110 rfl rfl (by decide) rfl hm (rg_wr _) hF (fun x5 hx5 hF => ?_)
      refine x_iast hC dX3_place_111 rfl rfl (by decide) rfl hm hv4 hx5 hF (fun m6 hm6 hF => ?_)
      refine x_aload_n hC dX3_place_112 rfl 0 rfl ?_
      refine x_getR (t := 15) hC dX3_place_113 rfl flX3_9 rfl (by decide) rfl rfl ?_
      refine x_iload hC dX3_place_116 rfl 4 rfl ?_
      refine x_aload_n hC dX3_place_118 rfl 0 rfl ?_
      refine x_getR (t := 15) hC dX3_place_119 rfl flX3_9 rfl (by decide) rfl rfl ?_
      refine x_iload hC dX3_place_122 rfl 4 rfl ?_
      refine x_iconst hC dX3_place_124 rfl ?_
      refine x_isub hC dX3_place_125 rfl ?_
      refine x_iald hC dX3_place_126 rfl rfl (by decide) rfl hm6 (rg_wr _) hF (fun x7 hx7 hF => ?_)
      refine x_iast hC dX3_place_127 rfl rfl (by decide) rfl hm6 hv4 hx7 hF (fun m8 hm8 hF => ?_)
      refine x_iinc (p := 4) (lv' := [(0, .ref (b.1 + 14)), (1, iV v1), (2, iV v2), (3, iV v3)]) hC dX3_place_128 rfl rfl (by decide) rfl hF (fun x9 hx9 hF => ?_)
      refine x_goto (tgt := 90) hC dX3_place_131 rfl ?_
      refine x_sub [1, 2, 3, 4, 0] rfl ?_
      exact ih v1 hv1 v2 hv2 v3 hv3 x9 hx9 m8 hm8 hF
set_option maxRecDepth 20000 in
set_option maxHeartbeats 4000000 in
theorem WJ_X3_place_73 {g : Gx} {b : Bs} {o : Mm} {Q : Int → Mm → Prop} (hC : Cok g b RX3 cX3_place 5 3 none) (v1 : Int) (hv1 : inR v1) (v2 : Int) (hv2 : inR v2) (v3 : Int) (hv3 : inR v3) (m : Mm) (hm : Rg m) (hF : okR (J_X3_place_73 v1 v2 v3 m) Q) : X g b (true, o) 5 (ZM g b (true, o) 0 Q) 73 [(0, .ref (b.1 + 14)), (1, iV v1), (2, iV v2), (3, iV v3)] [] m 0 0 := by
  unfold J_X3_place_73 at hF
  refine x_aload_n hC dX3_place_73 rfl 0 rfl ?_
  refine x_getI hC dX3_place_74 rfl flX3_30 rfl (by decide) rfl rfl ?_
  refine x_sipush hC dX3_place_77 rfl rfl ?_
  refine x_icmp_lt (tgt := 84) hC dX3_place_80 rfl rfl (hm.i 14 4 rfl) (rgc 150 rfl) hF (fun hq1 hF => ?_) (fun hq1 hF => ?_)
  · refine x_aload_n hC dX3_place_84 rfl 0 rfl ?_
    refine x_getI hC dX3_place_85 rfl flX3_30 rfl (by decide) rfl rfl ?_
    refine x_istore (lv' := [(0, .ref (b.1 + 14)), (1, iV v1), (2, iV v2), (3, iV v3)]) hC dX3_place_88 rfl (by decide) rfl (hm.i 14 4 rfl) hF (fun x2 hx2 hF => ?_)
    refine x_sub [1, 2, 3, 4, 0] rfl ?_
    exact WL_X3_place_90 hC 100000  v1 hv1 v2 hv2 v3 hv3 x2 hx2 m hm hF
  · exact x_return hC dX3_place_83 hm hF
set_option maxRecDepth 20000 in
set_option maxHeartbeats 4000000 in
theorem WJ_X3_place_27 {g : Gx} {b : Bs} {o : Mm} {Q : Int → Mm → Prop} (hC : Cok g b RX3 cX3_place 5 3 none) (v1 : Int) (hv1 : inR v1) (v2 : Int) (hv2 : inR v2) (v3 : Int) (hv3 : inR v3) (m : Mm) (hm : Rg m) (hF : okR (J_X3_place_27 v1 v2 v3 m) Q) : X g b (true, o) 5 (ZM g b (true, o) 0 Q) 27 [(0, .ref (b.1 + 14)), (1, iV v1), (2, iV v2), (3, iV v3)] [] m 0 0 := by
  unfold J_X3_place_27 at hF
  refine x_iload_n hC dX3_place_27 rfl 3 rfl ?_
  refine x_if_le (tgt := 73) hC dX3_place_28 rfl rfl hv3 hF (fun hq1 hF => ?_) (fun hq1 hF => ?_)
  · exact WJ_X3_place_73 hC  v1 hv1 v2 hv2 v3 hv3 m hm hF
  · refine x_aload_n hC dX3_place_31 rfl 0 rfl ?_
    refine x_getR (t := 16) hC dX3_place_32 rfl flX3_15 rfl (by decide) rfl rfl ?_
    refine x_iload_n hC dX3_place_35 rfl 3 rfl ?_
    refine x_iconst hC dX3_place_36 rfl ?_
    refine x_isub hC dX3_place_37 rfl ?_
    refine x_iald hC dX3_place_38 rfl rfl (by decide) rfl hm (rg_wr _) hF (fun x2 hx2 hF => ?_)
    refine x_iload_n hC dX3_place_39 rfl 1 rfl ?_
    refine x_icmp_ne (tgt := 73) hC dX3_place_40 rfl rfl hx2 hv1 hF (fun hq3 hF => ?_) (fun hq3 hF => ?_)
    · exact WJ_X3_place_73 hC  v1 hv1 v2 hv2 v3 hv3 m hm hF
    · refine x_aload_n hC dX3_place_43 rfl 0 rfl ?_
      refine x_aload_n hC dX3_place_44 rfl 0 rfl ?_
      refine x_getI hC dX3_place_45 rfl flX3_18 rfl (by decide) rfl rfl ?_
      refine x_iload_n hC dX3_place_48 rfl 2 rfl ?_
      refine x_aload_n hC dX3_place_49 rfl 0 rfl ?_
      refine x_getR (t := 15) hC dX3_place_50 rfl flX3_9 rfl (by decide) rfl rfl ?_
      refine x_iload_n hC dX3_place_53 rfl 3 rfl ?_
      refine x_iconst hC dX3_place_54 rfl ?_
      refine x_isub hC dX3_place_55 rfl ?_
      refine x_iald hC dX3_place_56 rfl rfl (by decide) rfl hm (rg_wr _) hF (fun x4 hx4 hF => ?_)
      refine x_callV3 (kc2 := 0) (ks2 := 0) (k := 14) (As := [iV (m 14 5), iV v2, iV x4]) (rest := []) hC dX3_place_57 rfl hm (fun _ _ h => T_X3_nearer b _ m (m 14 5) (hm.i 14 5 rfl) v2 hv2 x4 hx4 h) mlX3_63 vlX3_nearer rfl (by decide) rfl rfl (Nat.le_of_ble_eq_true rfl) (by decide) (by decide) rfl rfl hF (fun r5 m6 hr5 hm6 hF => ?_)
      refine x_if_eq (tgt := 72) hC dX3_place_60 rfl rfl (rg_01 hr5) hF (fun hq7 hF => ?_) (fun hq7 hF => ?_)
      · exact x_return hC dX3_place_72 hm6 hF
      · refine x_aload_n hC dX3_place_63 rfl 0 rfl ?_
        refine x_getR (t := 15) hC dX3_place_64 rfl flX3_9 rfl (by decide) rfl rfl ?_
        refine x_iload_n hC dX3_place_67 rfl 3 rfl ?_
        refine x_iconst hC dX3_place_68 rfl ?_
        refine x_isub hC dX3_place_69 rfl ?_
        refine x_iload_n hC dX3_place_70 rfl 2 rfl ?_
        refine x_iast hC dX3_place_71 rfl rfl (by decide) rfl hm6 (rg_wr _) hv2 hF (fun m8 hm8 hF => ?_)
        exact x_return hC dX3_place_72 hm8 hF
set_option maxRecDepth 20000 in
set_option maxHeartbeats 4000000 in
theorem WL_X3_place_5 {g : Gx} {b : Bs} {o : Mm} {Q : Int → Mm → Prop} (hC : Cok g b RX3 cX3_place 5 3 none) : ∀ n : Nat, ∀ v1 : Int, inR v1 → ∀ v2 : Int, inR v2 → ∀ v3 : Int, inR v3 → ∀ m : Mm, Rg m → okR (L_X3_place_5 n v1 v2 v3 m) Q → X g b (true, o) 5 (ZM g b (true, o) 0 Q) 5 [(0, .ref (b.1 + 14)), (1, iV v1), (2, iV v2), (3, iV v3)] [] m 0 0 := by
  intro n
  induction n with
  | zero => intro v1 hv1 v2 hv2 v3 hv3 m hm hF; exact absurd hF (fun z => z)
  | succ n ih =>
    intro v1 hv1 v2 hv2 v3 hv3 m hm hF
    have hF : okR (LB_X3_place_5 (L_X3_place_5 n) v1 v2 v3 m) Q := hF
    unfold LB_X3_place_5 at hF
    refine x_iload_n hC dX3_place_5 rfl 3 rfl ?_
    refine x_if_le (tgt := 27) hC dX3_place_6 rfl rfl hv3 hF (fun hq1 hF => ?_) (fun hq1 hF => ?_)
    · exact WJ_X3_place_27 hC  v1 hv1 v2 hv2 v3 hv3 m hm hF
    · refine x_aload_n hC dX3_place_9 rfl 0 rfl ?_
      refine x_getR (t := 16) hC dX3_place_10 rfl flX3_15 rfl (by decide) rfl rfl ?_
      refine x_iload_n hC dX3_place_13 rfl 3 rfl ?_
      refine x_iconst hC dX3_place_14 rfl ?_
      refine x_isub hC dX3_place_15 rfl ?_
      refine x_iald hC dX3_place_16 rfl rfl (by decide) rfl hm (rg_wr _) hF (fun x2 hx2 hF => ?_)
      refine x_iload_n hC dX3_place_17 rfl 1 rfl ?_
      refine x_icmp_le (tgt := 27) hC dX3_place_18 rfl rfl hx2 hv1 hF (fun hq3 hF => ?_) (fun hq3 hF => ?_)
      · exact WJ_X3_place_27 hC  v1 hv1 v2 hv2 v3 hv3 m hm hF
      · refine x_iinc (p := 3) (lv' := [(0, .ref (b.1 + 14)), (1, iV v1), (2, iV v2)]) hC dX3_place_21 rfl rfl (by decide) rfl hF (fun x4 hx4 hF => ?_)
        refine x_goto (tgt := 5) hC dX3_place_24 rfl ?_
        refine x_sub [1, 2, 3, 0] rfl ?_
        exact ih v1 hv1 v2 hv2 x4 hx4 m hm hF
set_option maxRecDepth 20000 in
set_option maxHeartbeats 4000000 in
theorem T_X3_place (b : Bs) (o : Mm) (m : Mm) (a1 : Int) (ha1 : inR a1) (a2 : Int) (ha2 : inR a2) {r : Int} {m' : Mm} (h : F_X3_place a1 a2 m = some (r, m')) : Cn yX3_place cX3_place 5 none (3) 0 0 0 b (true, o) m [.ref (b.1 + 14), iV a1, iV a2] (F_X3_place a1 a2 m) := by
  refine Cn_of rfl (Nat.le_of_ble_eq_true rfl) (fun g hC hm => ?_)
  have hF := okR_some h
  generalize hQ : (fun (r : Int) (m' : Mm) => F_X3_place a1 a2 m = some (r, m')) = Q at hF ⊢
  clear hQ h
  replace hC : Cok g b RX3 cX3_place 5 3 none := hC
  refine x_lv (lv' := [(0, .ref (b.1 + 14)), (1, iV a1), (2, iV a2)]) rfl ?_
  unfold F_X3_place at hF
  refine x_aload_n hC dX3_place_0 rfl 0 rfl ?_
  refine x_getI hC dX3_place_1 rfl flX3_30 rfl (by decide) rfl rfl ?_
  refine x_istore_n (lv' := [(0, .ref (b.1 + 14)), (1, iV a1), (2, iV a2)]) hC dX3_place_4 rfl rfl (by decide) rfl (hm.i 14 4 rfl) hF (fun x1 hx1 hF => ?_)
  refine x_sub [1, 2, 3, 0] rfl ?_
  exact WL_X3_place_5 hC 100000  a1 ha1 a2 ha2 x1 hx1 m hm hF
set_option maxRecDepth 20000 in
set_option maxHeartbeats 4000000 in
theorem T_X4_reaches (b : Bs) (o : Mm) (m : Mm) (a1 : Int) (ha1 : inR a1) (a2 : Int) (ha2 : inR a2) {r : Int} {m' : Mm} (h : F_X4_reaches a1 a2 m = some (r, m')) : Cn yX4_reaches cX4_reaches 3 (some .boolean) (2) 0 0 3 b (true, o) m [.ref (b.1 + 1), iV a1, iV a2] (F_X4_reaches a1 a2 m) := by
  refine Cn_of rfl (Nat.le_of_ble_eq_true rfl) (fun g hC hm => ?_)
  have hF := okR_some h
  generalize hQ : (fun (r : Int) (m' : Mm) => F_X4_reaches a1 a2 m = some (r, m')) = Q at hF ⊢
  clear hQ h
  replace hC : Cok g b RX4 cX4_reaches 3 2 (some .boolean) := hC
  refine x_lv (lv' := [(0, .ref (b.1 + 1)), (1, iV a1), (2, iV a2)]) rfl ?_
  unfold F_X4_reaches at hF
  refine x_aload_n hC dX4_reaches_0 rfl 0 rfl ?_
  refine x_iload_n hC dX4_reaches_1 rfl 1 rfl ?_
  refine x_iload_n hC dX4_reaches_2 rfl 2 rfl ?_
  refine x_callV1 (kc2 := 0) (ks2 := 0) (k := 1) (As := [iV a1, iV a2]) (rest := []) hC dX4_reaches_3 rfl hm (fun _ _ h => T_X4_wayBetween b _ m a1 ha1 a2 ha2 h) mlX4_47 vlX4_wayBetween rfl (by decide) rfl rfl (Nat.le_of_ble_eq_true rfl) (by decide) (by decide) rfl rfl hF (fun r1 m2 hr1 hm2 hF => ?_)
  refine x_aload_n hC dX4_reaches_6 rfl 0 rfl ?_
  refine x_getI hC dX4_reaches_7 rfl flX4_27 rfl (by decide) rfl rfl ?_
  refine x_icmp_gt (tgt := 17) hC dX4_reaches_10 rfl rfl hr1 (hm2.i 1 6 rfl) hF (fun hq3 hF => ?_) (fun hq3 hF => ?_)
  · refine x_iconst hC dX4_reaches_17 rfl ?_
    exact x_zreturn hC dX4_reaches_18 hm2 (Or.inl rfl) hF
  · refine x_iconst hC dX4_reaches_13 rfl ?_
    refine x_goto (tgt := 18) hC dX4_reaches_14 rfl ?_
    exact x_zreturn hC dX4_reaches_18 hm2 (Or.inr rfl) hF
set_option maxRecDepth 20000 in
set_option maxHeartbeats 4000000 in
theorem WJ_X3_listen_64 {g : Gx} {b : Bs} {o : Mm} {Q : Int → Mm → Prop} {k_21 : Int → Int → Mm → Rs} (hC : Cok g b RX3 cX3_listen 4 4 none) (hk_21 : ∀ v1 : Int, inR v1 → ∀ v2 : Int, inR v2 → ∀ m : Mm, Rg m → okR (k_21 v1 v2 m) Q → X g b (true, o) 4 (ZM g b (true, o) 0 Q) 21 [(0, .ref (b.1 + 14)), (1, iV v1), (2, iV v2)] [] m 0 0) (v1 : Int) (hv1 : inR v1) (v2 : Int) (hv2 : inR v2) (m : Mm) (hm : Rg m) (hF : okR (J_X3_listen_64 k_21 v1 v2 m) Q) : X g b (true, o) 4 (ZM g b (true, o) 0 Q) 64 [(0, .ref (b.1 + 14)), (1, iV v1), (2, iV v2)] [] m 0 0 := by
  unfold J_X3_listen_64 at hF
  refine x_iinc (p := 2) (lv' := [(0, .ref (b.1 + 14)), (1, iV v1)]) hC dX3_listen_64 rfl rfl (by decide) rfl hF (fun x1 hx1 hF => ?_)
  refine x_goto (tgt := 21) hC dX3_listen_67 rfl ?_
  refine x_sub [1, 2, 0] rfl ?_
  exact hk_21 v1 hv1 x1 hx1 m hm hF
set_option maxRecDepth 20000 in
set_option maxHeartbeats 4000000 in
theorem WL_X3_listen_21 {g : Gx} {b : Bs} {o : Mm} {Q : Int → Mm → Prop} (hC : Cok g b RX3 cX3_listen 4 4 none) : ∀ n : Nat, ∀ v1 : Int, inR v1 → ∀ v2 : Int, inR v2 → ∀ m : Mm, Rg m → okR (L_X3_listen_21 n v1 v2 m) Q → X g b (true, o) 4 (ZM g b (true, o) 0 Q) 21 [(0, .ref (b.1 + 14)), (1, iV v1), (2, iV v2)] [] m 0 0 := by
  intro n
  induction n with
  | zero => intro v1 hv1 v2 hv2 m hm hF; exact absurd hF (fun z => z)
  | succ n ih =>
    intro v1 hv1 v2 hv2 m hm hF
    have hF : okR (LB_X3_listen_21 (L_X3_listen_21 n) v1 v2 m) Q := hF
    unfold LB_X3_listen_21 at hF
    refine x_iload_n hC dX3_listen_21 rfl 2 rfl ?_
    refine x_aload_n hC dX3_listen_22 rfl 0 rfl ?_
    refine x_getR (t := 9) hC dX3_listen_23 rfl flX3_26 rfl (by decide) rfl rfl ?_
    refine x_getI hC dX3_listen_26 rfl flX3_33 rfl (by decide) rfl rfl ?_
    refine x_icmp_ge (tgt := 70) hC dX3_listen_29 rfl rfl hv2 (hm.i 9 4 rfl) hF (fun hq1 hF => ?_) (fun hq1 hF => ?_)
    · exact x_return hC dX3_listen_70 hm hF
    · refine x_aload_n hC dX3_listen_32 rfl 0 rfl ?_
      refine x_getR (t := 9) hC dX3_listen_33 rfl flX3_26 rfl (by decide) rfl rfl ?_
      refine x_iload_n hC dX3_listen_36 rfl 2 rfl ?_
      refine x_callV1 (kc2 := 0) (ks2 := 0) (k := 9) (As := [iV v2]) (rest := []) hC dX3_listen_37 rfl hm (fun _ _ h => T_X9_whoOf b _ m v2 hv2 h) mlX3_36 vlX9_whoOf rfl (by decide) rfl rfl (Nat.le_of_ble_eq_true rfl) (by decide) (by decide) rfl rfl hF (fun r2 m3 hr2 hm3 hF => ?_)
      refine x_istore_n (lv' := [(0, .ref (b.1 + 14)), (1, iV v1), (2, iV v2)]) hC dX3_listen_40 rfl rfl (by decide) rfl hr2 hF (fun x4 hx4 hF => ?_)
      refine x_aload_n hC dX3_listen_41 rfl 1 rfl ?_
      refine x_getR (t := 1) hC dX3_listen_42 rfl flX3_22 rfl (by decide) rfl rfl ?_
      refine x_iload_n hC dX3_listen_45 rfl 2 rfl ?_
      refine x_iload_n hC dX3_listen_46 rfl 0 rfl ?_
      refine x_callV3 (kc2 := 0) (ks2 := 0) (k := 1) (As := [iV v1, iV x4]) (rest := []) hC dX3_listen_47 rfl hm3 (fun _ _ h => T_X4_reaches b _ m3 v1 hv1 x4 hx4 h) mlX3_40 vlX4_reaches rfl (by decide) rfl rfl (Nat.le_of_ble_eq_true rfl) (by decide) (by decide) rfl rfl hF (fun r5 m6 hr5 hm6 hF => ?_)
      refine x_if_eq (tgt := 64) hC dX3_listen_50 rfl rfl (rg_01 hr5) hF (fun hq7 hF => ?_) (fun hq7 hF => ?_)
      · refine x_sub [1, 2, 3] rfl ?_
        exact WJ_X3_listen_64 hC ih  v1 hv1 v2 hv2 m6 hm6 hF
      · refine x_aload_n hC dX3_listen_53 rfl 1 rfl ?_
        refine x_aload_n hC dX3_listen_54 rfl 1 rfl ?_
        refine x_iload_n hC dX3_listen_55 rfl 2 rfl ?_
        refine x_iload_n hC dX3_listen_56 rfl 3 rfl ?_
        refine x_callV1 (kc2 := 0) (ks2 := 0) (k := 14) (As := [iV v1, iV v2]) (rest := [.ref (b.1 + 14)]) hC dX3_listen_57 rfl hm6 (fun _ _ h => T_X3_arrival b _ m6 v1 hv1 v2 hv2 h) mlX3_46 vlX3_arrival rfl (by decide) rfl rfl (Nat.le_of_ble_eq_true rfl) (by decide) (by decide) rfl rfl hF (fun r8 m9 hr8 hm9 hF => ?_)
        refine x_iload_n hC dX3_listen_60 rfl 0 rfl ?_
        refine x_callV0 (kc2 := 0) (ks2 := 0) (k := 14) (As := [iV r8, iV x4]) (rest := []) hC dX3_listen_61 rfl hm9 (fun _ _ h => T_X3_place b _ m9 r8 hr8 x4 hx4 h) mlX3_50 vlX3_place rfl (by decide) rfl rfl (Nat.le_of_ble_eq_true rfl) (by decide) (by decide) rfl rfl hF (fun r10 m11 hr10 hm11 hF => ?_)
        refine x_sub [1, 2, 3] rfl ?_
        exact WJ_X3_listen_64 hC ih  v1 hv1 v2 hv2 m11 hm11 hF
set_option maxRecDepth 20000 in
set_option maxHeartbeats 4000000 in
theorem T_X3_listen (b : Bs) (o : Mm) (m : Mm) (a1 : Int) (ha1 : inR a1) {r : Int} {m' : Mm} (h : F_X3_listen a1 m = some (r, m')) : Cn yX3_listen cX3_listen 4 none (4) 0 0 0 b (true, o) m [.ref (b.1 + 14), iV a1] (F_X3_listen a1 m) := by
  refine Cn_of rfl (Nat.le_of_ble_eq_true rfl) (fun g hC hm => ?_)
  have hF := okR_some h
  generalize hQ : (fun (r : Int) (m' : Mm) => F_X3_listen a1 m = some (r, m')) = Q at hF ⊢
  clear hQ h
  replace hC : Cok g b RX3 cX3_listen 4 4 none := hC
  refine x_lv (lv' := [(0, .ref (b.1 + 14)), (1, iV a1)]) rfl ?_
  unfold F_X3_listen at hF
  refine x_aload_n hC dX3_listen_0 rfl 0 rfl ?_
  refine x_getI hC dX3_listen_1 rfl flX3_18 rfl (by decide) rfl rfl ?_
  refine x_iload_n hC dX3_listen_4 rfl 1 rfl ?_
  refine x_icmp_ne (tgt := 9) hC dX3_listen_5 rfl rfl (hm.i 14 5 rfl) ha1 hF (fun hq1 hF => ?_) (fun hq1 hF => ?_)
  · refine x_aload_n hC dX3_listen_9 rfl 0 rfl ?_
    refine x_iload_n hC dX3_listen_10 rfl 1 rfl ?_
    refine x_putI hC dX3_listen_11 rfl fpX3_18 rfl (by decide) (by decide) rfl rfl hm ha1 rfl hF (fun m2 hm2 hF => ?_)
    refine x_aload_n hC dX3_listen_14 rfl 0 rfl ?_
    refine x_iconst hC dX3_listen_15 rfl ?_
    refine x_putI hC dX3_listen_16 rfl fpX3_30 rfl (by decide) (by decide) rfl rfl hm2 (rgc 0 rfl) rfl hF (fun m3 hm3 hF => ?_)
    refine x_iconst hC dX3_listen_19 rfl ?_
    refine x_istore_nZ (lv' := [(0, .ref (b.1 + 14)), (1, iV a1)]) hC dX3_listen_20 rfl rfl (by decide) rfl (Or.inl rfl) hF (fun x4 hx4 hF => ?_)
    refine x_sub [1, 2, 0] rfl ?_
    exact WL_X3_listen_21 hC 100000  a1 ha1 x4 (rg_01 hx4) m3 hm3 hF
  · exact x_return hC dX3_listen_8 hm hF
set_option maxRecDepth 20000 in
set_option maxHeartbeats 4000000 in
theorem T_X3_breathOf (b : Bs) (o : Mm) (m : Mm) (a1 : Int) (ha1 : inR a1) {r : Int} {m' : Mm} (h : F_X3_breathOf a1 m = some (r, m')) : Cn yX3_breathOf cX3_breathOf 2 (some .int) (0) 0 0 1 b (true, o) m [.ref (b.1 + 14), iV a1] (F_X3_breathOf a1 m) := by
  refine Cn_of rfl (Nat.le_of_ble_eq_true rfl) (fun g hC hm => ?_)
  have hF := okR_some h
  generalize hQ : (fun (r : Int) (m' : Mm) => F_X3_breathOf a1 m = some (r, m')) = Q at hF ⊢
  clear hQ h
  replace hC : Cok g b RX3 cX3_breathOf 2 0 (some .int) := hC
  refine x_lv (lv' := [(0, .ref (b.1 + 14)), (1, iV a1)]) rfl ?_
  unfold F_X3_breathOf at hF
  refine x_iload_n hC dX3_breathOf_0 rfl 1 rfl ?_
  refine x_if_lt (tgt := 21) hC dX3_breathOf_1 rfl rfl ha1 hF (fun hq1 hF => ?_) (fun hq1 hF => ?_)
  · refine x_iconst hC dX3_breathOf_21 rfl ?_
    exact x_ireturn hC dX3_breathOf_22 hm (rgc (-1) rfl) hF
  · refine x_iload_n hC dX3_breathOf_4 rfl 1 rfl ?_
    refine x_aload_n hC dX3_breathOf_5 rfl 0 rfl ?_
    refine x_getI hC dX3_breathOf_6 rfl flX3_30 rfl (by decide) rfl rfl ?_
    refine x_icmp_ge (tgt := 21) hC dX3_breathOf_9 rfl rfl ha1 (hm.i 14 4 rfl) hF (fun hq2 hF => ?_) (fun hq2 hF => ?_)
    · refine x_iconst hC dX3_breathOf_21 rfl ?_
      exact x_ireturn hC dX3_breathOf_22 hm (rgc (-1) rfl) hF
    · refine x_aload_n hC dX3_breathOf_12 rfl 0 rfl ?_
      refine x_getR (t := 16) hC dX3_breathOf_13 rfl flX3_15 rfl (by decide) rfl rfl ?_
      refine x_iload_n hC dX3_breathOf_16 rfl 1 rfl ?_
      refine x_iald hC dX3_breathOf_17 rfl rfl (by decide) rfl hm ha1 hF (fun x3 hx3 hF => ?_)
      refine x_goto (tgt := 22) hC dX3_breathOf_18 rfl ?_
      exact x_ireturn hC dX3_breathOf_22 hm hx3 hF
set_option maxRecDepth 20000 in
set_option maxHeartbeats 4000000 in
theorem T_X3_whoOf (b : Bs) (o : Mm) (m : Mm) (a1 : Int) (ha1 : inR a1) {r : Int} {m' : Mm} (h : F_X3_whoOf a1 m = some (r, m')) : Cn yX3_whoOf cX3_whoOf 2 (some .int) (0) 0 0 1 b (true, o) m [.ref (b.1 + 14), iV a1] (F_X3_whoOf a1 m) := by
  refine Cn_of rfl (Nat.le_of_ble_eq_true rfl) (fun g hC hm => ?_)
  have hF := okR_some h
  generalize hQ : (fun (r : Int) (m' : Mm) => F_X3_whoOf a1 m = some (r, m')) = Q at hF ⊢
  clear hQ h
  replace hC : Cok g b RX3 cX3_whoOf 2 0 (some .int) := hC
  refine x_lv (lv' := [(0, .ref (b.1 + 14)), (1, iV a1)]) rfl ?_
  unfold F_X3_whoOf at hF
  refine x_iload_n hC dX3_whoOf_0 rfl 1 rfl ?_
  refine x_if_lt (tgt := 21) hC dX3_whoOf_1 rfl rfl ha1 hF (fun hq1 hF => ?_) (fun hq1 hF => ?_)
  · refine x_bipush hC dX3_whoOf_21 rfl rfl ?_
    exact x_ireturn hC dX3_whoOf_23 hm (rgc 8 rfl) hF
  · refine x_iload_n hC dX3_whoOf_4 rfl 1 rfl ?_
    refine x_aload_n hC dX3_whoOf_5 rfl 0 rfl ?_
    refine x_getI hC dX3_whoOf_6 rfl flX3_30 rfl (by decide) rfl rfl ?_
    refine x_icmp_ge (tgt := 21) hC dX3_whoOf_9 rfl rfl ha1 (hm.i 14 4 rfl) hF (fun hq2 hF => ?_) (fun hq2 hF => ?_)
    · refine x_bipush hC dX3_whoOf_21 rfl rfl ?_
      exact x_ireturn hC dX3_whoOf_23 hm (rgc 8 rfl) hF
    · refine x_aload_n hC dX3_whoOf_12 rfl 0 rfl ?_
      refine x_getR (t := 15) hC dX3_whoOf_13 rfl flX3_9 rfl (by decide) rfl rfl ?_
      refine x_iload_n hC dX3_whoOf_16 rfl 1 rfl ?_
      refine x_iald hC dX3_whoOf_17 rfl rfl (by decide) rfl hm ha1 hF (fun x3 hx3 hF => ?_)
      refine x_goto (tgt := 23) hC dX3_whoOf_18 rfl ?_
      exact x_ireturn hC dX3_whoOf_23 hm hx3 hF
set_option maxRecDepth 20000 in
set_option maxHeartbeats 4000000 in
theorem T_X3_gapOf (b : Bs) (o : Mm) (m : Mm) (a1 : Int) (ha1 : inR a1) {r : Int} {m' : Mm} (h : F_X3_gapOf a1 m = some (r, m')) : Cn yX3_gapOf cX3_gapOf 2 (some .int) (1) 0 0 1 b (true, o) m [.ref (b.1 + 14), iV a1] (F_X3_gapOf a1 m) := by
  refine Cn_of rfl (Nat.le_of_ble_eq_true rfl) (fun g hC hm => ?_)
  have hF := okR_some h
  generalize hQ : (fun (r : Int) (m' : Mm) => F_X3_gapOf a1 m = some (r, m')) = Q at hF ⊢
  clear hQ h
  replace hC : Cok g b RX3 cX3_gapOf 2 1 (some .int) := hC
  refine x_lv (lv' := [(0, .ref (b.1 + 14)), (1, iV a1)]) rfl ?_
  unfold F_X3_gapOf at hF
  refine x_iload_n hC dX3_gapOf_0 rfl 1 rfl ?_
  refine x_if_le (tgt := 12) hC dX3_gapOf_1 rfl rfl ha1 hF (fun hq1 hF => ?_) (fun hq1 hF => ?_)
  · refine x_bipush hC dX3_gapOf_12 rfl rfl ?_
    refine x_goto (tgt := 37) hC dX3_gapOf_14 rfl ?_
    exact x_ireturn hC dX3_gapOf_37 hm (rgc 63 rfl) hF
  · refine x_iload_n hC dX3_gapOf_4 rfl 1 rfl ?_
    refine x_aload_n hC dX3_gapOf_5 rfl 0 rfl ?_
    refine x_getI hC dX3_gapOf_6 rfl flX3_30 rfl (by decide) rfl rfl ?_
    refine x_icmp_lt (tgt := 17) hC dX3_gapOf_9 rfl rfl ha1 (hm.i 14 4 rfl) hF (fun hq2 hF => ?_) (fun hq2 hF => ?_)
    · refine x_bipush hC dX3_gapOf_17 rfl rfl ?_
      refine x_aload_n hC dX3_gapOf_19 rfl 0 rfl ?_
      refine x_getR (t := 16) hC dX3_gapOf_20 rfl flX3_15 rfl (by decide) rfl rfl ?_
      refine x_iload_n hC dX3_gapOf_23 rfl 1 rfl ?_
      refine x_iald hC dX3_gapOf_24 rfl rfl (by decide) rfl hm ha1 hF (fun x3 hx3 hF => ?_)
      refine x_aload_n hC dX3_gapOf_25 rfl 0 rfl ?_
      refine x_getR (t := 16) hC dX3_gapOf_26 rfl flX3_15 rfl (by decide) rfl rfl ?_
      refine x_iload_n hC dX3_gapOf_29 rfl 1 rfl ?_
      refine x_iconst hC dX3_gapOf_30 rfl ?_
      refine x_isub hC dX3_gapOf_31 rfl ?_
      refine x_iald hC dX3_gapOf_32 rfl rfl (by decide) rfl hm (rg_wr _) hF (fun x4 hx4 hF => ?_)
      refine x_isub hC dX3_gapOf_33 rfl ?_
      refine x_callS1 (kc2 := 0) (ks2 := 0) (As := [iV 63, iV (wr (x3 - x4))]) (rest := []) hC dX3_gapOf_34 rfl hm (fun _ _ h => T_J9_min_7cf53 b _ m 63 (rgc 63 rfl) (wr (x3 - x4)) (rg_wr _) h) mlX3_67 vsJ9_min_7cf53 rfl rfl (Nat.le_of_ble_eq_true rfl) (by decide) (by decide) rfl rfl hF (fun r5 m6 hr5 hm6 hF => ?_)
      exact x_ireturn hC dX3_gapOf_37 hm6 hr5 hF
    · refine x_bipush hC dX3_gapOf_12 rfl rfl ?_
      refine x_goto (tgt := 37) hC dX3_gapOf_14 rfl ?_
      exact x_ireturn hC dX3_gapOf_37 hm (rgc 63 rfl) hF
set_option maxRecDepth 20000 in
set_option maxHeartbeats 4000000 in
theorem WJ_X3_drowned_60 {g : Gx} {b : Bs} {o : Mm} {Q : Int → Mm → Prop} {k_10 : Int → Int → Int → Int → Mm → Rs} (hC : Cok g b RX3 cX3_drowned 5 3 (some .boolean)) (hk_10 : ∀ v1 : Int, inR v1 → ∀ v2 : Int, inR v2 → ∀ v3 : Int, inR v3 → ∀ v4 : Int, inR v4 → ∀ m : Mm, Rg m → okR (k_10 v1 v2 v3 v4 m) Q → X g b (true, o) 5 (ZM g b (true, o) 3 Q) 10 [(0, .ref (b.1 + 14)), (1, iV v1), (2, iV v2), (3, iV v3), (4, iV v4)] [] m 0 0) (v1 : Int) (hv1 : inR v1) (v2 : Int) (hv2 : inR v2) (v3 : Int) (hv3 : inR v3) (v4 : Int) (hv4 : inR v4) (m : Mm) (hm : Rg m) (hF : okR (J_X3_drowned_60 k_10 v1 v2 v3 v4 m) Q) : X g b (true, o) 5 (ZM g b (true, o) 3 Q) 60 [(0, .ref (b.1 + 14)), (1, iV v1), (2, iV v2), (3, iV v3), (4, iV v4)] [] m 0 0 := by
  unfold J_X3_drowned_60 at hF
  refine x_iinc (p := 4) (lv' := [(0, .ref (b.1 + 14)), (1, iV v1), (2, iV v2), (3, iV v3)]) hC dX3_drowned_60 rfl rfl (by decide) rfl hF (fun x1 hx1 hF => ?_)
  refine x_goto (tgt := 10) hC dX3_drowned_63 rfl ?_
  refine x_sub [1, 2, 3, 4, 0] rfl ?_
  exact hk_10 v1 hv1 v2 hv2 v3 hv3 x1 hx1 m hm hF
set_option maxRecDepth 20000 in
set_option maxHeartbeats 4000000 in
theorem WL_X3_drowned_10 {g : Gx} {b : Bs} {o : Mm} {Q : Int → Mm → Prop} (hC : Cok g b RX3 cX3_drowned 5 3 (some .boolean)) : ∀ n : Nat, ∀ v1 : Int, inR v1 → ∀ v2 : Int, inR v2 → ∀ v3 : Int, inR v3 → ∀ v4 : Int, inR v4 → ∀ m : Mm, Rg m → okR (L_X3_drowned_10 n v1 v2 v3 v4 m) Q → X g b (true, o) 5 (ZM g b (true, o) 3 Q) 10 [(0, .ref (b.1 + 14)), (1, iV v1), (2, iV v2), (3, iV v3), (4, iV v4)] [] m 0 0 := by
  intro n
  induction n with
  | zero => intro v1 hv1 v2 hv2 v3 hv3 v4 hv4 m hm hF; exact absurd hF (fun z => z)
  | succ n ih =>
    intro v1 hv1 v2 hv2 v3 hv3 v4 hv4 m hm hF
    have hF : okR (LB_X3_drowned_10 (L_X3_drowned_10 n) v1 v2 v3 v4 m) Q := hF
    unfold LB_X3_drowned_10 at hF
    refine x_iload hC dX3_drowned_10 rfl 4 rfl ?_
    refine x_aload_n hC dX3_drowned_12 rfl 0 rfl ?_
    refine x_getR (t := 9) hC dX3_drowned_13 rfl flX3_26 rfl (by decide) rfl rfl ?_
    refine x_getI hC dX3_drowned_16 rfl flX3_33 rfl (by decide) rfl rfl ?_
    refine x_icmp_ge (tgt := 66) hC dX3_drowned_19 rfl rfl hv4 (hm.i 9 4 rfl) hF (fun hq1 hF => ?_) (fun hq1 hF => ?_)
    · refine x_iconst hC dX3_drowned_66 rfl ?_
      exact x_zreturn hC dX3_drowned_67 hm (Or.inl rfl) hF
    · refine x_aload_n hC dX3_drowned_22 rfl 0 rfl ?_
      refine x_iload_n hC dX3_drowned_23 rfl 1 rfl ?_
      refine x_iload hC dX3_drowned_24 rfl 4 rfl ?_
      refine x_callV1 (kc2 := 0) (ks2 := 0) (k := 14) (As := [iV v1, iV v4]) (rest := []) hC dX3_drowned_26 rfl hm (fun _ _ h => T_X3_arrival b _ m v1 hv1 v4 hv4 h) mlX3_46 vlX3_arrival rfl (by decide) rfl rfl (Nat.le_of_ble_eq_true rfl) (by decide) (by decide) rfl rfl hF (fun r2 m3 hr2 hm3 hF => ?_)
      refine x_iload_n hC dX3_drowned_29 rfl 3 rfl ?_
      refine x_icmp_ne (tgt := 60) hC dX3_drowned_30 rfl rfl hr2 hv3 hF (fun hq4 hF => ?_) (fun hq4 hF => ?_)
      · exact WJ_X3_drowned_60 hC ih  v1 hv1 v2 hv2 v3 hv3 v4 hv4 m3 hm3 hF
      · refine x_aload_n hC dX3_drowned_33 rfl 0 rfl ?_
        refine x_iload_n hC dX3_drowned_34 rfl 1 rfl ?_
        refine x_aload_n hC dX3_drowned_35 rfl 0 rfl ?_
        refine x_getR (t := 9) hC dX3_drowned_36 rfl flX3_26 rfl (by decide) rfl rfl ?_
        refine x_iload hC dX3_drowned_39 rfl 4 rfl ?_
        refine x_callV1 (kc2 := 0) (ks2 := 0) (k := 9) (As := [iV v4]) (rest := [iV v1, .ref (b.1 + 14)]) hC dX3_drowned_41 rfl hm3 (fun _ _ h => T_X9_whoOf b _ m3 v4 hv4 h) mlX3_36 vlX9_whoOf rfl (by decide) rfl rfl (Nat.le_of_ble_eq_true rfl) (by decide) (by decide) rfl rfl hF (fun r5 m6 hr5 hm6 hF => ?_)
        refine x_aload_n hC dX3_drowned_44 rfl 0 rfl ?_
        refine x_getR (t := 9) hC dX3_drowned_45 rfl flX3_26 rfl (by decide) rfl rfl ?_
        refine x_iload_n hC dX3_drowned_48 rfl 2 rfl ?_
        refine x_callV1 (kc2 := 0) (ks2 := 0) (k := 9) (As := [iV v2]) (rest := [iV r5, iV v1, .ref (b.1 + 14)]) hC dX3_drowned_49 rfl hm6 (fun _ _ h => T_X9_whoOf b _ m6 v2 hv2 h) mlX3_36 vlX9_whoOf rfl (by decide) rfl rfl (Nat.le_of_ble_eq_true rfl) (by decide) (by decide) rfl rfl hF (fun r7 m8 hr7 hm8 hF => ?_)
        refine x_callV3 (kc2 := 0) (ks2 := 0) (k := 14) (As := [iV v1, iV r5, iV r7]) (rest := []) hC dX3_drowned_52 rfl hm8 (fun _ _ h => T_X3_nearer b _ m8 v1 hv1 r5 hr5 r7 hr7 h) mlX3_63 vlX3_nearer rfl (by decide) rfl rfl (Nat.le_of_ble_eq_true rfl) (by decide) (by decide) rfl rfl hF (fun r9 m10 hr9 hm10 hF => ?_)
        refine x_if_eq (tgt := 60) hC dX3_drowned_55 rfl rfl (rg_01 hr9) hF (fun hq11 hF => ?_) (fun hq11 hF => ?_)
        · exact WJ_X3_drowned_60 hC ih  v1 hv1 v2 hv2 v3 hv3 v4 hv4 m10 hm10 hF
        · refine x_iconst hC dX3_drowned_58 rfl ?_
          exact x_zreturn hC dX3_drowned_59 hm10 (Or.inr rfl) hF
set_option maxRecDepth 20000 in
set_option maxHeartbeats 4000000 in
theorem T_X3_drowned (b : Bs) (o : Mm) (m : Mm) (a1 : Int) (ha1 : inR a1) (a2 : Int) (ha2 : inR a2) {r : Int} {m' : Mm} (h : F_X3_drowned a1 a2 m = some (r, m')) : Cn yX3_drowned cX3_drowned 5 (some .boolean) (3) 0 0 3 b (true, o) m [.ref (b.1 + 14), iV a1, iV a2] (F_X3_drowned a1 a2 m) := by
  refine Cn_of rfl (Nat.le_of_ble_eq_true rfl) (fun g hC hm => ?_)
  have hF := okR_some h
  generalize hQ : (fun (r : Int) (m' : Mm) => F_X3_drowned a1 a2 m = some (r, m')) = Q at hF ⊢
  clear hQ h
  replace hC : Cok g b RX3 cX3_drowned 5 3 (some .boolean) := hC
  refine x_lv (lv' := [(0, .ref (b.1 + 14)), (1, iV a1), (2, iV a2)]) rfl ?_
  unfold F_X3_drowned at hF
  refine x_aload_n hC dX3_drowned_0 rfl 0 rfl ?_
  refine x_iload_n hC dX3_drowned_1 rfl 1 rfl ?_
  refine x_iload_n hC dX3_drowned_2 rfl 2 rfl ?_
  refine x_callV1 (kc2 := 0) (ks2 := 0) (k := 14) (As := [iV a1, iV a2]) (rest := []) hC dX3_drowned_3 rfl hm (fun _ _ h => T_X3_arrival b _ m a1 ha1 a2 ha2 h) mlX3_46 vlX3_arrival rfl (by decide) rfl rfl (Nat.le_of_ble_eq_true rfl) (by decide) (by decide) rfl rfl hF (fun r1 m2 hr1 hm2 hF => ?_)
  refine x_istore_n (lv' := [(0, .ref (b.1 + 14)), (1, iV a1), (2, iV a2)]) hC dX3_drowned_6 rfl rfl (by decide) rfl hr1 hF (fun x3 hx3 hF => ?_)
  refine x_iconst hC dX3_drowned_7 rfl ?_
  refine x_istoreZ (lv' := [(3, iV x3), (0, .ref (b.1 + 14)), (1, iV a1), (2, iV a2)]) hC dX3_drowned_8 rfl (by decide) rfl (Or.inl rfl) hF (fun x4 hx4 hF => ?_)
  refine x_sub [2, 3, 4, 1, 0] rfl ?_
  exact WL_X3_drowned_10 hC 100000  a1 ha1 a2 ha2 x3 hx3 x4 (rg_01 hx4) m2 hm2 hF
set_option maxRecDepth 20000 in
set_option maxHeartbeats 4000000 in
theorem WJ_X3_earsOf_46 {g : Gx} {b : Bs} {o : Mm} {Q : Int → Mm → Prop} {k_4 : Int → Int → Int → Mm → Rs} (hC : Cok g b RX3 cX3_earsOf 4 4 (some .int)) (hk_4 : ∀ v1 : Int, inR v1 → ∀ v2 : Int, inR v2 → ∀ v3 : Int, inR v3 → ∀ m : Mm, Rg m → okR (k_4 v1 v2 v3 m) Q → X g b (true, o) 4 (ZM g b (true, o) 1 Q) 4 [(0, .ref (b.1 + 14)), (1, iV v1), (2, iV v2), (3, iV v3)] [] m 0 0) (v1 : Int) (hv1 : inR v1) (v2 : Int) (hv2 : inR v2) (v3 : Int) (hv3 : inR v3) (m : Mm) (hm : Rg m) (hF : okR (J_X3_earsOf_46 k_4 v1 v2 v3 m) Q) : X g b (true, o) 4 (ZM g b (true, o) 1 Q) 46 [(0, .ref (b.1 + 14)), (1, iV v1), (2, iV v2), (3, iV v3)] [] m 0 0 := by
  unfold J_X3_earsOf_46 at hF
  refine x_iinc (p := 3) (lv' := [(0, .ref (b.1 + 14)), (1, iV v1), (2, iV v2)]) hC dX3_earsOf_46 rfl rfl (by decide) rfl hF (fun x1 hx1 hF => ?_)
  refine x_goto (tgt := 4) hC dX3_earsOf_49 rfl ?_
  refine x_sub [1, 2, 3, 0] rfl ?_
  exact hk_4 v1 hv1 v2 hv2 x1 hx1 m hm hF
set_option maxRecDepth 20000 in
set_option maxHeartbeats 4000000 in
theorem WL_X3_earsOf_4 {g : Gx} {b : Bs} {o : Mm} {Q : Int → Mm → Prop} (hC : Cok g b RX3 cX3_earsOf 4 4 (some .int)) : ∀ n : Nat, ∀ v1 : Int, inR v1 → ∀ v2 : Int, inR v2 → ∀ v3 : Int, inR v3 → ∀ m : Mm, Rg m → okR (L_X3_earsOf_4 n v1 v2 v3 m) Q → X g b (true, o) 4 (ZM g b (true, o) 1 Q) 4 [(0, .ref (b.1 + 14)), (1, iV v1), (2, iV v2), (3, iV v3)] [] m 0 0 := by
  intro n
  induction n with
  | zero => intro v1 hv1 v2 hv2 v3 hv3 m hm hF; exact absurd hF (fun z => z)
  | succ n ih =>
    intro v1 hv1 v2 hv2 v3 hv3 m hm hF
    have hF : okR (LB_X3_earsOf_4 (L_X3_earsOf_4 n) v1 v2 v3 m) Q := hF
    unfold LB_X3_earsOf_4 at hF
    refine x_iload_n hC dX3_earsOf_4 rfl 3 rfl ?_
    refine x_aload_n hC dX3_earsOf_5 rfl 0 rfl ?_
    refine x_getR (t := 1) hC dX3_earsOf_6 rfl flX3_22 rfl (by decide) rfl rfl ?_
    refine x_getI hC dX3_earsOf_9 rfl flX3_72 rfl (by decide) rfl rfl ?_
    refine x_icmp_ge (tgt := 52) hC dX3_earsOf_12 rfl rfl hv3 (hm.i 1 5 rfl) hF (fun hq1 hF => ?_) (fun hq1 hF => ?_)
    · refine x_iload_n hC dX3_earsOf_52 rfl 2 rfl ?_
      exact x_ireturn hC dX3_earsOf_53 hm hv2 hF
    · refine x_aload_n hC dX3_earsOf_15 rfl 0 rfl ?_
      refine x_getR (t := 1) hC dX3_earsOf_16 rfl flX3_22 rfl (by decide) rfl rfl ?_
      refine x_iload_n hC dX3_earsOf_19 rfl 3 rfl ?_
      refine x_aload_n hC dX3_earsOf_20 rfl 0 rfl ?_
      refine x_getR (t := 9) hC dX3_earsOf_21 rfl flX3_26 rfl (by decide) rfl rfl ?_
      refine x_iload_n hC dX3_earsOf_24 rfl 1 rfl ?_
      refine x_callV1 (kc2 := 0) (ks2 := 0) (k := 9) (As := [iV v1]) (rest := [iV v3, .ref (b.1 + 1)]) hC dX3_earsOf_25 rfl hm (fun _ _ h => T_X9_whoOf b _ m v1 hv1 h) mlX3_36 vlX9_whoOf rfl (by decide) rfl rfl (Nat.le_of_ble_eq_true rfl) (by decide) (by decide) rfl rfl hF (fun r2 m3 hr2 hm3 hF => ?_)
      refine x_callV3 (kc2 := 0) (ks2 := 0) (k := 1) (As := [iV v3, iV r2]) (rest := []) hC dX3_earsOf_28 rfl hm3 (fun _ _ h => T_X4_reaches b _ m3 v3 hv3 r2 hr2 h) mlX3_40 vlX4_reaches rfl (by decide) rfl rfl (Nat.le_of_ble_eq_true rfl) (by decide) (by decide) rfl rfl hF (fun r4 m5 hr4 hm5 hF => ?_)
      refine x_if_eq (tgt := 46) hC dX3_earsOf_31 rfl rfl (rg_01 hr4) hF (fun hq6 hF => ?_) (fun hq6 hF => ?_)
      · exact WJ_X3_earsOf_46 hC ih  v1 hv1 v2 hv2 v3 hv3 m5 hm5 hF
      · refine x_aload_n hC dX3_earsOf_34 rfl 0 rfl ?_
        refine x_iload_n hC dX3_earsOf_35 rfl 3 rfl ?_
        refine x_iload_n hC dX3_earsOf_36 rfl 1 rfl ?_
        refine x_callV3 (kc2 := 0) (ks2 := 0) (k := 14) (As := [iV v3, iV v1]) (rest := []) hC dX3_earsOf_37 rfl hm5 (fun _ _ h => T_X3_drowned b _ m5 v3 hv3 v1 hv1 h) mlX3_73 vlX3_drowned rfl (by decide) rfl rfl (Nat.le_of_ble_eq_true rfl) (by decide) (by decide) rfl rfl hF (fun r7 m8 hr7 hm8 hF => ?_)
        refine x_if_ne (tgt := 46) hC dX3_earsOf_40 rfl rfl (rg_01 hr7) hF (fun hq9 hF => ?_) (fun hq9 hF => ?_)
        · exact WJ_X3_earsOf_46 hC ih  v1 hv1 v2 hv2 v3 hv3 m8 hm8 hF
        · refine x_iinc (p := 2) (lv' := [(0, .ref (b.1 + 14)), (1, iV v1), (3, iV v3)]) hC dX3_earsOf_43 rfl rfl (by decide) rfl hF (fun x10 hx10 hF => ?_)
          refine x_sub [1, 2, 0, 3] rfl ?_
          exact WJ_X3_earsOf_46 hC ih  v1 hv1 x10 hx10 v3 hv3 m8 hm8 hF
set_option maxRecDepth 20000 in
set_option maxHeartbeats 4000000 in
theorem T_X3_earsOf (b : Bs) (o : Mm) (m : Mm) (a1 : Int) (ha1 : inR a1) {r : Int} {m' : Mm} (h : F_X3_earsOf a1 m = some (r, m')) : Cn yX3_earsOf cX3_earsOf 4 (some .int) (4) 0 0 1 b (true, o) m [.ref (b.1 + 14), iV a1] (F_X3_earsOf a1 m) := by
  refine Cn_of rfl (Nat.le_of_ble_eq_true rfl) (fun g hC hm => ?_)
  have hF := okR_some h
  generalize hQ : (fun (r : Int) (m' : Mm) => F_X3_earsOf a1 m = some (r, m')) = Q at hF ⊢
  clear hQ h
  replace hC : Cok g b RX3 cX3_earsOf 4 4 (some .int) := hC
  refine x_lv (lv' := [(0, .ref (b.1 + 14)), (1, iV a1)]) rfl ?_
  unfold F_X3_earsOf at hF
  refine x_iconst hC dX3_earsOf_0 rfl ?_
  refine x_istore_nZ (lv' := [(0, .ref (b.1 + 14)), (1, iV a1)]) hC dX3_earsOf_1 rfl rfl (by decide) rfl (Or.inl rfl) hF (fun x1 hx1 hF => ?_)
  refine x_iconst hC dX3_earsOf_2 rfl ?_
  refine x_istore_nZ (lv' := [(2, iV x1), (0, .ref (b.1 + 14)), (1, iV a1)]) hC dX3_earsOf_3 rfl rfl (by decide) rfl (Or.inl rfl) hF (fun x2 hx2 hF => ?_)
  refine x_sub [2, 3, 1, 0] rfl ?_
  exact WL_X3_earsOf_4 hC 100000  a1 ha1 x1 (rg_01 hx1) x2 (rg_01 hx2) m hm hF
set_option maxRecDepth 20000 in
set_option maxHeartbeats 4000000 in
theorem T_X4_join (b : Bs) (o : Mm) (m : Mm) (a1 : Int) (ha1 : inR a1) (a2 : Int) (ha2 : inR a2) (a3 : Int) (ha3 : inR a3) {r : Int} {m' : Mm} (h : F_X4_join a1 a2 a3 m = some (r, m')) : Cn yX4_join cX4_join 4 (some .int) (0) 0 0 1 b (true, o) m [.ref (b.1 + 1), iV a1, iV a2, iV a3] (F_X4_join a1 a2 a3 m) := by
  refine Cn_of rfl (Nat.le_of_ble_eq_true rfl) (fun g hC hm => ?_)
  have hF := okR_some h
  generalize hQ : (fun (r : Int) (m' : Mm) => F_X4_join a1 a2 a3 m = some (r, m')) = Q at hF ⊢
  clear hQ h
  replace hC : Cok g b RX4 cX4_join 4 0 (some .int) := hC
  refine x_lv (lv' := [(0, .ref (b.1 + 1)), (1, iV a1), (2, iV a2), (3, iV a3)]) rfl ?_
  unfold F_X4_join at hF
  refine x_aload_n hC dX4_join_0 rfl 0 rfl ?_
  refine x_getI hC dX4_join_1 rfl flX4_34 rfl (by decide) rfl rfl ?_
  refine x_bipush hC dX4_join_4 rfl rfl ?_
  refine x_icmp_lt (tgt := 11) hC dX4_join_6 rfl rfl (hm.i 1 5 rfl) (rgc 8 rfl) hF (fun hq1 hF => ?_) (fun hq1 hF => ?_)
  · refine x_aload_n hC dX4_join_11 rfl 0 rfl ?_
    refine x_getR (t := 2) hC dX4_join_12 rfl flX4_9 rfl (by decide) rfl rfl ?_
    refine x_aload_n hC dX4_join_15 rfl 0 rfl ?_
    refine x_getI hC dX4_join_16 rfl flX4_34 rfl (by decide) rfl rfl ?_
    refine x_iload_n hC dX4_join_19 rfl 1 rfl ?_
    refine x_iast hC dX4_join_20 rfl rfl (by decide) rfl hm (hm.i 1 5 rfl) ha1 hF (fun m2 hm2 hF => ?_)
    refine x_aload_n hC dX4_join_21 rfl 0 rfl ?_
    refine x_getR (t := 3) hC dX4_join_22 rfl flX4_15 rfl (by decide) rfl rfl ?_
    refine x_aload_n hC dX4_join_25 rfl 0 rfl ?_
    refine x_getI hC dX4_join_26 rfl flX4_34 rfl (by decide) rfl rfl ?_
    refine x_iload_n hC dX4_join_29 rfl 2 rfl ?_
    refine x_iast hC dX4_join_30 rfl rfl (by decide) rfl hm2 (hm2.i 1 5 rfl) ha2 hF (fun m3 hm3 hF => ?_)
    refine x_aload_n hC dX4_join_31 rfl 0 rfl ?_
    refine x_getR (t := 4) hC dX4_join_32 rfl flX4_18 rfl (by decide) rfl rfl ?_
    refine x_aload_n hC dX4_join_35 rfl 0 rfl ?_
    refine x_getI hC dX4_join_36 rfl flX4_34 rfl (by decide) rfl rfl ?_
    refine x_iload_n hC dX4_join_39 rfl 3 rfl ?_
    refine x_iast hC dX4_join_40 rfl rfl (by decide) rfl hm3 (hm3.i 1 5 rfl) ha3 hF (fun m4 hm4 hF => ?_)
    refine x_aload_n hC dX4_join_41 rfl 0 rfl ?_
    refine x_dup hC dX4_join_42 rfl rfl ?_
    refine x_getI hC dX4_join_43 rfl flX4_34 rfl (by decide) rfl rfl ?_
    refine x_iconst hC dX4_join_46 rfl ?_
    refine x_iadd hC dX4_join_47 rfl ?_
    refine x_putI hC dX4_join_48 rfl fpX4_34 rfl (by decide) (by decide) rfl rfl hm4 (rg_wr _) rfl hF (fun m5 hm5 hF => ?_)
    refine x_aload_n hC dX4_join_51 rfl 0 rfl ?_
    refine x_getI hC dX4_join_52 rfl flX4_34 rfl (by decide) rfl rfl ?_
    refine x_iconst hC dX4_join_55 rfl ?_
    refine x_isub hC dX4_join_56 rfl ?_
    exact x_ireturn hC dX4_join_57 hm5 (rg_wr _) hF
  · refine x_iconst hC dX4_join_9 rfl ?_
    exact x_ireturn hC dX4_join_10 hm (rgc (-1) rfl) hF
set_option maxRecDepth 20000 in
set_option maxHeartbeats 4000000 in
theorem T_X4_hasAll (b : Bs) (o : Mm) (m : Mm) (a1 : Int) (ha1 : inR a1) {r : Int} {m' : Mm} (h : F_X4_hasAll a1 m = some (r, m')) : Cn yX4_hasAll cX4_hasAll 2 (some .boolean) (0) 0 0 3 b (true, o) m [.ref (b.1 + 1), iV a1] (F_X4_hasAll a1 m) := by
  refine Cn_of rfl (Nat.le_of_ble_eq_true rfl) (fun g hC hm => ?_)
  have hF := okR_some h
  generalize hQ : (fun (r : Int) (m' : Mm) => F_X4_hasAll a1 m = some (r, m')) = Q at hF ⊢
  clear hQ h
  replace hC : Cok g b RX4 cX4_hasAll 2 0 (some .boolean) := hC
  refine x_lv (lv' := [(0, .ref (b.1 + 1)), (1, iV a1)]) rfl ?_
  unfold F_X4_hasAll at hF
  refine x_iload_n hC dX4_hasAll_0 rfl 1 rfl ?_
  refine x_if_le (tgt := 18) hC dX4_hasAll_1 rfl rfl ha1 hF (fun hq1 hF => ?_) (fun hq1 hF => ?_)
  · refine x_iconst hC dX4_hasAll_18 rfl ?_
    exact x_zreturn hC dX4_hasAll_19 hm (Or.inl rfl) hF
  · refine x_iload_n hC dX4_hasAll_4 rfl 1 rfl ?_
    refine x_iconst hC dX4_hasAll_5 rfl ?_
    refine x_aload_n hC dX4_hasAll_6 rfl 0 rfl ?_
    refine x_getI hC dX4_hasAll_7 rfl flX4_34 rfl (by decide) rfl rfl ?_
    refine x_ishl hC dX4_hasAll_10 rfl ?_
    refine x_icmp_ge (tgt := 18) hC dX4_hasAll_11 rfl rfl ha1 (rg_tI _) hF (fun hq2 hF => ?_) (fun hq2 hF => ?_)
    · refine x_iconst hC dX4_hasAll_18 rfl ?_
      exact x_zreturn hC dX4_hasAll_19 hm (Or.inl rfl) hF
    · refine x_iconst hC dX4_hasAll_14 rfl ?_
      refine x_goto (tgt := 19) hC dX4_hasAll_15 rfl ?_
      exact x_zreturn hC dX4_hasAll_19 hm (Or.inr rfl) hF
set_option maxRecDepth 20000 in
set_option maxHeartbeats 4000000 in
theorem T_X4_thousandthsOf (b : Bs) (o : Mm) (m : Mm) (a1 : Int) (ha1 : inR a1) {r : Int} {m' : Mm} (h : F_X4_thousandthsOf a1 m = some (r, m')) : Cn yX4_thousandthsOf cX4_thousandthsOf 2 (some .int) (1) 0 0 1 b (true, o) m [.ref (b.1 + 1), iV a1] (F_X4_thousandthsOf a1 m) := by
  refine Cn_of rfl (Nat.le_of_ble_eq_true rfl) (fun g hC hm => ?_)
  have hF := okR_some h
  generalize hQ : (fun (r : Int) (m' : Mm) => F_X4_thousandthsOf a1 m = some (r, m')) = Q at hF ⊢
  clear hQ h
  replace hC : Cok g b RX4 cX4_thousandthsOf 2 1 (some .int) := hC
  refine x_lv (lv' := [(0, .ref (b.1 + 1)), (1, iV a1)]) rfl ?_
  unfold F_X4_thousandthsOf at hF
  refine x_aload_n hC dX4_thousandthsOf_0 rfl 0 rfl ?_
  refine x_iload_n hC dX4_thousandthsOf_1 rfl 1 rfl ?_
  refine x_callV3 (kc2 := 0) (ks2 := 0) (k := 1) (As := [iV a1]) (rest := []) hC dX4_thousandthsOf_2 rfl hm (fun _ _ h => T_X4_has b _ m a1 ha1 h) mlX4_37 vlX4_has rfl (by decide) rfl rfl (Nat.le_of_ble_eq_true rfl) (by decide) (by decide) rfl rfl hF (fun r1 m2 hr1 hm2 hF => ?_)
  refine x_if_eq (tgt := 17) hC dX4_thousandthsOf_5 rfl rfl (rg_01 hr1) hF (fun hq3 hF => ?_) (fun hq3 hF => ?_)
  · refine x_iconst hC dX4_thousandthsOf_17 rfl ?_
    exact x_ireturn hC dX4_thousandthsOf_18 hm2 (rgc 0 rfl) hF
  · refine x_aload_n hC dX4_thousandthsOf_8 rfl 0 rfl ?_
    refine x_getR (t := 4) hC dX4_thousandthsOf_9 rfl flX4_18 rfl (by decide) rfl rfl ?_
    refine x_iload_n hC dX4_thousandthsOf_12 rfl 1 rfl ?_
    refine x_iald hC dX4_thousandthsOf_13 rfl rfl (by decide) rfl hm2 ha1 hF (fun x4 hx4 hF => ?_)
    refine x_goto (tgt := 18) hC dX4_thousandthsOf_14 rfl ?_
    exact x_ireturn hC dX4_thousandthsOf_18 hm2 hx4 hF

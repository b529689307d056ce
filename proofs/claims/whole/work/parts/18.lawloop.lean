set_option maxRecDepth 20000 in
set_option maxHeartbeats 8000000 in
/-- THE LAW, from its loop on, over what the class's and the reference's methods do -/
theorem law_loop {p : Program} {l : Launch} {e : Env} {s : State} {mi : MethodId} {below : List Frame} {meth : Method} {c : Code} {b : Bs} {scr L : Nat} {xs : Nat → Int32} (Inv : Mm → Mm → Prop) (pot : Mm → Nat × Nat)
    (h_mouth : ∀ a1 : Int, inR a1 → ∀ a2 : Int, inR a2 → ∀ a3 : Int, inR a3 → ∀ ma mb : Mm, Inv ma mb → Rg ma → Rg mb → ∃ (r : Int) (ma' mb' : Mm), F_X11_mouth a1 a2 a3 ma = some (r, ma') ∧ F_X12_mouth a1 a2 a3 mb = some (r, mb') ∧ Inv ma' mb' ∧ pot ma' = pot ma)
    (h_air : ∀ a1 : Int, inR a1 → ∀ a2 : Int, inR a2 → ∀ ma mb : Mm, Inv ma mb → Rg ma → Rg mb → ∃ (r : Int) (ma' mb' : Mm), F_X11_air a1 a2 ma = some (r, ma') ∧ F_X12_air a1 a2 mb = some (r, mb') ∧ Inv ma' mb' ∧ pot ma' = pot ma)
    (h_feed : ∀ a1 : Int, inR a1 → ∀ a2 : Int, inR a2 → ∀ a3 : Int, inR a3 → ∀ a4 : Int, inR a4 → ∀ a5 : Int, inR a5 → ∀ ma mb : Mm, Inv ma mb → Rg ma → Rg mb → ∃ (r : Int) (ma' mb' : Mm), F_X11_feed a1 a2 a3 a4 a5 ma = some (r, ma') ∧ F_X12_feed a1 a2 a3 a4 a5 mb = some (r, mb') ∧ Inv ma' mb' ∧ pot ma' = pot ma)
    (h_tongue : ∀ a1 : Int, inR a1 → ∀ ma mb : Mm, Inv ma mb → Rg ma → Rg mb → ∃ (r : Int) (ma' mb' : Mm), F_X11_tongue a1 ma = some (r, ma') ∧ F_X12_tongue a1 mb = some (r, mb') ∧ Inv ma' mb' ∧ pot ma' = pot ma)
    (h_sentence : ∀ a1 : Int, inR a1 → ∀ a2 : Int, inR a2 → ∀ ma mb : Mm, Inv ma mb → Rg ma → Rg mb → ∃ (r : Int) (ma' mb' : Mm), F_X11_sentence a1 a2 ma = some (r, ma') ∧ F_X12_sentence a1 a2 mb = some (r, mb') ∧ Inv ma' mb' ∧ pot ma' = pot ma)
    (h_say : ∀ a1 : Int, inR a1 → ∀ a2 : Int, inR a2 → ∀ ma mb : Mm, Inv ma mb → Rg ma → Rg mb → ∃ (r : Int) (ma' mb' : Mm), F_X11_say a1 a2 ma = some (r, ma') ∧ F_X12_say a1 a2 mb = some (r, mb') ∧ Inv ma' mb' ∧ pot ma' = pot ma)
    (h_heard : ∀ a1 : Int, inR a1 → ∀ ma mb : Mm, Inv ma mb → Rg ma → Rg mb → ∃ (r : Int) (ma' mb' : Mm), F_X11_heard a1 ma = some (r, ma') ∧ F_X12_heard a1 mb = some (r, mb') ∧ Inv ma' mb' ∧ pot ma' = pot ma)
    (h_hearing : ∀ a1 : Int, inR a1 → ∀ a2 : Int, inR a2 → ∀ a3 : Int, inR a3 → ∀ ma mb : Mm, Inv ma mb → Rg ma → Rg mb → ∃ (r : Int) (ma' mb' : Mm), F_X11_hearing a1 a2 a3 ma = some (r, ma') ∧ F_X12_hearing a1 a2 a3 mb = some (r, mb') ∧ Inv ma' mb' ∧ pot ma' = pot ma)
    (h_way : ∀ a1 : Int, inR a1 → ∀ a2 : Int, inR a2 → ∀ ma mb : Mm, Inv ma mb → Rg ma → Rg mb → ∃ (r : Int) (ma' mb' : Mm), F_X11_way a1 a2 ma = some (r, ma') ∧ F_X12_way a1 a2 mb = some (r, mb') ∧ Inv ma' mb' ∧ pot ma' = pot ma)
    (h_meaning : ∀ a1 : Int, inR a1 → ∀ a2 : Int, inR a2 → ∀ a3 : Int, inR a3 → ∀ a4 : Int, inR a4 → ∀ a5 : Int, inR a5 → ∀ ma mb : Mm, Inv ma mb → Rg ma → Rg mb → ∃ (r : Int) (ma' mb' : Mm), F_X11_meaning a1 a2 a3 a4 a5 ma = some (r, ma') ∧ F_X12_meaning a1 a2 a3 a4 a5 mb = some (r, mb') ∧ Inv ma' mb' ∧ pot ma' = pot ma)
    (h_read : ∀ a1 : Int, inR a1 → ∀ a2 : Int, inR a2 → ∀ a3 : Int, inR a3 → ∀ ma mb : Mm, Inv ma mb → Rg ma → Rg mb → ∃ (r : Int) (ma' mb' : Mm), F_X11_read a1 a2 a3 ma = some (r, ma') ∧ F_X12_read a1 a2 a3 mb = some (r, mb') ∧ Inv ma' mb' ∧ pot ma' = pot ma)
    (h_missed : ∀ a1 : Int, inR a1 → ∀ a2 : Int, inR a2 → ∀ a3 : Int, inR a3 → ∀ a4 : Int, inR a4 → ∀ ma mb : Mm, Inv ma mb → Rg ma → Rg mb → ∃ (r : Int) (ma' mb' : Mm), F_X11_missed a1 a2 a3 a4 ma = some (r, ma') ∧ F_X12_missed a1 a2 a3 a4 mb = some (r, mb') ∧ Inv ma' mb' ∧ pot ma' = pot ma)
    (h_soonest : ∀ a1 : Int, inR a1 → ∀ a2 : Int, inR a2 → ∀ ma mb : Mm, Inv ma mb → Rg ma → Rg mb → ∃ (kc ks : Nat) (r : Int) (ma' mb' : Mm), F_X11_soonest kc ks a1 a2 ma = some (r, ma') ∧ F_X12_soonest a1 a2 mb = some (r, mb') ∧ Inv ma' mb' ∧ (pot ma').1 + kc ≤ (pot ma).1 ∧ (pot ma').2 + ks ≤ (pot ma).2)
    (h_byRules : ∀ a1 : Int, inR a1 → ∀ a2 : Int, inR a2 → ∀ a3 : Int, inR a3 → ∀ ma mb : Mm, Inv ma mb → Rg ma → Rg mb → ∃ (r : Int) (ma' mb' : Mm), F_X11_byRules a1 a2 a3 ma = some (r, ma') ∧ F_X12_byRules a1 a2 a3 mb = some (r, mb') ∧ Inv ma' mb' ∧ pot ma' = pot ma)
    (h_table : ∀ a1 : Int, inR a1 → ∀ a2 : Int, inR a2 → ∀ a3 : Int, inR a3 → ∀ ma mb : Mm, Inv ma mb → Rg ma → Rg mb → ∃ (r : Int) (ma' mb' : Mm), F_X11_table a1 a2 a3 ma = some (r, ma') ∧ F_X12_table a1 a2 a3 mb = some (r, mb') ∧ Inv ma' mb' ∧ pot ma' = pot ma)
    (h_alike : ∀ a1 : Int, inR a1 → ∀ a2 : Int, inR a2 → ∀ ma mb : Mm, Inv ma mb → Rg ma → Rg mb → ∃ (r : Int) (ma' mb' : Mm), F_X11_alike a1 a2 ma = some (r, ma') ∧ F_X12_alike a1 a2 mb = some (r, mb') ∧ Inv ma' mb' ∧ pot ma' = pot ma)
    (h_seed : ∀ a1 : Int, inR a1 → ∀ ma mb : Mm, Inv ma mb → Rg ma → Rg mb → ∃ (r : Int) (ma' mb' : Mm), F_X11_seed a1 ma = some (r, ma') ∧ F_X12_seed a1 mb = some (r, mb') ∧ Inv ma' mb' ∧ pot ma' = pot ma)
    (h_draw : ∀ a1 : Int, inR a1 → ∀ ma mb : Mm, Inv ma mb → Rg ma → Rg mb → ∃ (r : Int) (ma' mb' : Mm), F_X11_draw a1 ma = some (r, ma') ∧ F_X12_draw a1 mb = some (r, mb') ∧ Inv ma' mb' ∧ pot ma' = pot ma)
    (h_keep : ∀ ma mb : Mm, Inv ma mb → Rg ma → Rg mb → ∃ (r : Int) (ma' mb' : Mm), F_X11_keep  ma = some (r, ma') ∧ F_X12_keep  mb = some (r, mb') ∧ Inv ma' mb' ∧ pot ma' = pot ma)
    (h_undo : ∀ ma mb : Mm, Inv ma mb → Rg ma → Rg mb → ∃ (r : Int) (ma' mb' : Mm), F_X11_undo  ma = some (r, ma') ∧ F_X12_undo  mb = some (r, mb') ∧ Inv ma' mb' ∧ pot ma' = pot ma)
    (h_quiet : ∀ ma mb : Mm, Inv ma mb → Rg ma → Rg mb → ∃ (r : Int) (ma' mb' : Mm), F_X11_quiet  ma = some (r, ma') ∧ F_X12_quiet  mb = some (r, mb') ∧ Inv ma' mb' ∧ pot ma' = pot ma)
    (h_said : ∀ a1 : Int, inR a1 → ∀ a2 : Int, inR a2 → ∀ ma mb : Mm, Inv ma mb → Rg ma → Rg mb → ∃ (r : Int) (ma' mb' : Mm), F_X11_said a1 a2 ma = some (r, ma') ∧ F_X12_said a1 a2 mb = some (r, mb') ∧ Inv ma' mb' ∧ pot ma' = pot ma)
    (h_check : ∀ a1 : Int, inR a1 → ∀ a2 : Int, inR a2 → ∀ ma mb : Mm, Inv ma mb → Rg ma → Rg mb → ∃ (r : Int) (ma' mb' : Mm), F_X11_check a1 a2 ma = some (r, ma') ∧ F_X12_check a1 a2 mb = some (r, mb') ∧ Inv ma' mb' ∧ pot ma' = pot ma)
    (h_count : ∀ a1 : Int, inR a1 → ∀ ma mb : Mm, Inv ma mb → Rg ma → Rg mb → ∃ (r : Int) (ma' mb' : Mm), F_X11_count a1 ma = some (r, ma') ∧ F_X12_count a1 mb = some (r, mb') ∧ Inv ma' mb' ∧ pot ma' = pot ma)
    (hC : Cok (p, l, e, room_1, s, mi, #[Value.ref scr], below, meth, c) b RL cL_law 4 1400 (some .boolean)) (hX : va_X scr L xs s s.heap) (hsc : scr < b.1 ∧ b.1 = s.heap.size) (hL : L ≤ 3072) :
    ∀ (t : Nat) (i : Int) (ma mb : Mm) (kc ks : Nat), 0 ≤ i → i ≤ 4000 → 4000 - i < (t : Int) → Inv ma mb → Rg ma → Rg mb → (pot ma).1 ≤ kc → (pot ma).2 ≤ ks → X (p, l, e, room_1, s, mi, #[Value.ref scr], below, meth, c) b (true, mb) 4 (lw_Z below #[Value.ref scr] s) 18 [(3, iV i), (0, .ref scr), (1, .ref (b.1 + 0)), (2, .ref (b.1 + 54))] [] ma kc ks := by
  intro t
  induction t with
  | zero => intro i ma mb kc ks h0 h1 h2; omega
  | succ t ih =>
    intro i ma mb kc ks h0 h1 h2 hI hma hmb hkc hks
    have hi : inR i := ⟨by omega, by omega⟩
    have hLr : inR (L : Int) := ⟨by omega, by omega⟩
    refine x_iload_n hC dL_law_18 rfl 0 rfl ?_
    refine x_aload_n hC dL_law_19 rfl 1 rfl ?_
    refine x_scrlen hC dL_law_20 rfl hX hsc ?_
    refine x_bipush hC dL_law_21 rfl rfl ?_
    refine x_isub hC dL_law_23 rfl ?_
    refine x_icmp_gt (tgt := 963) hC dL_law_24 rfl rfl hi (rg_wr _) (okT ma 0) (fun hgt _ => ?_) (fun hgt _ => ?_)
    · refine x_iconst hC dL_law_963 rfl ?_
      exact x_lawret hC hsc dL_law_964
    have hlt : i + 5 < (L : Int) := by unfold wr at hgt; omega
    have hgo : ∀ (ma' mb' : Mm) (kc ks : Nat), Inv ma' mb' → Rg ma' → Rg mb' → (pot ma').1 ≤ kc → (pot ma').2 ≤ ks → X (p, l, e, room_1, s, mi, #[Value.ref scr], below, meth, c) b (true, mb') 4 (lw_Z below #[Value.ref scr] s) 957 [(3, iV i), (0, .ref scr), (1, .ref (b.1 + 0)), (2, .ref (b.1 + 54))] [] ma' kc ks := by
      intro ma' mb' kc ks hI1 hma1 hmb1 hk1 hk2
      refine x_iinc (p := 0) (lv' := [(0, .ref scr), (1, .ref (b.1 + 0)), (2, .ref (b.1 + 54))]) (K := fun x => some (x, ma')) (Q := fun r _ => r = wr (i + 6)) hC dL_law_957 rfl rfl (by decide) rfl rfl (fun x hx hF => ?_)
      have hx2 : x = i + 6 := by have : x = wr (i + 6) := hF; rw [this]; unfold wr; omega
      subst hx2
      refine x_goto (tgt := 18) hC dL_law_960 rfl ?_
      exact ih (i + 6) ma' mb' kc ks (by omega) (by omega) (by omega) hI1 hma1 hmb1 hk1 hk2
    refine x_aload_n hC dL_law_27 rfl 1 rfl ?_
    refine x_iload_n hC dL_law_28 rfl 0 rfl ?_
    refine x_scr hC dL_law_29 rfl hX hsc hi (by omega) ?_
    refine x_bipush hC dL_law_30 rfl rfl ?_
    refine x_iand hC dL_law_32 rfl ?_
    generalize hop : iand (xs i.toNat).toInt 31 = op
    have hopr : inR op := by rw [← hop]; exact rg_tI _
    refine x_tab1 (v := 0) (off := 111) (tgt := 144) hC dL_law_33 (by decide) rfl hopr (okT ma 0) (fun hq0 _ => ?_) (fun hq0 _ => ?_)
    · refine x_aload_n hC dL_law_144 rfl 2 rfl ?_
      refine x_aload_n hC dL_law_145 rfl 1 rfl ?_
      refine x_iload_n hC dL_law_146 rfl 0 rfl ?_
      refine x_iconst hC dL_law_147 rfl ?_
      refine x_iadd hC dL_law_148 rfl ?_
      refine x_scr hC dL_law_149 rfl hX hsc (rg_wr _) (by unfold wr; omega) ?_
      refine x_aload_n hC dL_law_150 rfl 1 rfl ?_
      refine x_iload_n hC dL_law_151 rfl 0 rfl ?_
      refine x_iconst hC dL_law_152 rfl ?_
      refine x_iadd hC dL_law_153 rfl ?_
      refine x_scr hC dL_law_154 rfl hX hsc (rg_wr _) (by unfold wr; omega) ?_
      refine x_aload_n hC dL_law_155 rfl 1 rfl ?_
      refine x_iload_n hC dL_law_156 rfl 0 rfl ?_
      refine x_iconst hC dL_law_157 rfl ?_
      refine x_iadd hC dL_law_158 rfl ?_
      refine x_scr hC dL_law_159 rfl hX hsc (rg_wr _) (by unfold wr; omega) ?_
      obtain ⟨r0, ma1, mb1, e1, e2, hI1, hp⟩ := h_mouth (xs (wr (i + 1)).toNat).toInt (rg_tI _) (xs (wr (i + 2)).toNat).toInt (rg_tI _) (xs (wr (i + 3)).toNat).toInt (rg_tI _) ma mb hI hma hmb
      refine x_callV1 (kc2 := kc) (ks2 := ks) (k := 0) (As := [iV (xs (wr (i + 1)).toNat).toInt, iV (xs (wr (i + 2)).toNat).toInt, iV (xs (wr (i + 3)).toNat).toInt]) (rest := []) (K := fun r m => some (r, m)) (Q := fun r m => r = r0 ∧ m = ma1) hC dL_law_160 rfl hma (fun _ _ h => T_X11_mouth b _ ma (xs (wr (i + 1)).toNat).toInt (rg_tI _) (xs (wr (i + 2)).toNat).toInt (rg_tI _) (xs (wr (i + 3)).toNat).toInt (rg_tI _) h) mlL_13 vlX11_mouth rfl (by decide) rfl rfl (Nat.le_of_ble_eq_true rfl) (by decide) (by decide) (Nat.zero_add _).symm (Nat.zero_add _).symm (by rw [e1]; exact ⟨rfl, rfl⟩) (fun r1 m1 hr1 hma1 hF => ?_)
      obtain ⟨rfl, rfl⟩ := hF
      refine x_swap ?_
      refine x_aload_n hC dL_law_163 rfl 3 rfl ?_
      refine x_aload_n hC dL_law_164 rfl 1 rfl ?_
      refine x_iload_n hC dL_law_165 rfl 0 rfl ?_
      refine x_iconst hC dL_law_166 rfl ?_
      refine x_iadd hC dL_law_167 rfl ?_
      refine x_scr hC dL_law_168 rfl hX hsc (rg_wr _) (by unfold wr; omega) ?_
      refine x_aload_n hC dL_law_169 rfl 1 rfl ?_
      refine x_iload_n hC dL_law_170 rfl 0 rfl ?_
      refine x_iconst hC dL_law_171 rfl ?_
      refine x_iadd hC dL_law_172 rfl ?_
      refine x_scr hC dL_law_173 rfl hX hsc (rg_wr _) (by unfold wr; omega) ?_
      refine x_aload_n hC dL_law_174 rfl 1 rfl ?_
      refine x_iload_n hC dL_law_175 rfl 0 rfl ?_
      refine x_iconst hC dL_law_176 rfl ?_
      refine x_iadd hC dL_law_177 rfl ?_
      refine x_scr hC dL_law_178 rfl hX hsc (rg_wr _) (by unfold wr; omega) ?_
      refine x_callV1 (kc2 := kc) (ks2 := ks) (k := 54) (As := [iV (xs (wr (i + 1)).toNat).toInt, iV (xs (wr (i + 2)).toNat).toInt, iV (xs (wr (i + 3)).toNat).toInt]) (rest := [iV r1]) (K := fun r m => some (r, m)) (Q := fun r m => r = r1 ∧ m = mb1) hC dL_law_179 rfl hmb (fun _ _ h => T_X12_mouth b _ mb (xs (wr (i + 1)).toNat).toInt (rg_tI _) (xs (wr (i + 2)).toNat).toInt (rg_tI _) (xs (wr (i + 3)).toNat).toInt (rg_tI _) h) mlL_17 vlX12_mouth rfl (by decide) rfl rfl (Nat.le_of_ble_eq_true rfl) (by decide) (by decide) (Nat.zero_add _).symm (Nat.zero_add _).symm (by rw [e2]; exact ⟨rfl, rfl⟩) (fun r2 m2 hr2 hmb1 hF => ?_)
      obtain ⟨rfl, rfl⟩ := hF
      refine x_swap ?_
      refine l_eq (tgt := 957) hC dL_law_182 rfl ?_
      exact hgo _ _ _ _ hI1 hma1 hmb1 (by rw [hp]; exact hkc) (by rw [hp]; exact hks)
    refine x_tab1 (v := 1) (off := 154) (tgt := 187) hC dL_law_33 (by decide) rfl hopr (okT ma 0) (fun hq1 _ => ?_) (fun hq1 _ => ?_)
    · refine x_aload_n hC dL_law_187 rfl 2 rfl ?_
      refine x_aload_n hC dL_law_188 rfl 1 rfl ?_
      refine x_iload_n hC dL_law_189 rfl 0 rfl ?_
      refine x_iconst hC dL_law_190 rfl ?_
      refine x_iadd hC dL_law_191 rfl ?_
      refine x_scr hC dL_law_192 rfl hX hsc (rg_wr _) (by unfold wr; omega) ?_
      refine x_aload_n hC dL_law_193 rfl 1 rfl ?_
      refine x_iload_n hC dL_law_194 rfl 0 rfl ?_
      refine x_iconst hC dL_law_195 rfl ?_
      refine x_iadd hC dL_law_196 rfl ?_
      refine x_scr hC dL_law_197 rfl hX hsc (rg_wr _) (by unfold wr; omega) ?_
      obtain ⟨r0, ma1, mb1, e1, e2, hI1, hp⟩ := h_air (xs (wr (i + 1)).toNat).toInt (rg_tI _) (xs (wr (i + 2)).toNat).toInt (rg_tI _) ma mb hI hma hmb
      refine x_callV3 (kc2 := kc) (ks2 := ks) (k := 0) (As := [iV (xs (wr (i + 1)).toNat).toInt, iV (xs (wr (i + 2)).toNat).toInt]) (rest := []) (K := fun r m => some (r, m)) (Q := fun r m => r = r0 ∧ m = ma1) hC dL_law_198 rfl hma (fun _ _ h => T_X11_air b _ ma (xs (wr (i + 1)).toNat).toInt (rg_tI _) (xs (wr (i + 2)).toNat).toInt (rg_tI _) h) mlL_18 vlX11_air rfl (by decide) rfl rfl (Nat.le_of_ble_eq_true rfl) (by decide) (by decide) (Nat.zero_add _).symm (Nat.zero_add _).symm (by rw [e1]; exact ⟨rfl, rfl⟩) (fun r1 m1 hr1 hma1 hF => ?_)
      obtain ⟨rfl, rfl⟩ := hF
      refine x_swap ?_
      refine x_aload_n hC dL_law_201 rfl 3 rfl ?_
      refine x_aload_n hC dL_law_202 rfl 1 rfl ?_
      refine x_iload_n hC dL_law_203 rfl 0 rfl ?_
      refine x_iconst hC dL_law_204 rfl ?_
      refine x_iadd hC dL_law_205 rfl ?_
      refine x_scr hC dL_law_206 rfl hX hsc (rg_wr _) (by unfold wr; omega) ?_
      refine x_aload_n hC dL_law_207 rfl 1 rfl ?_
      refine x_iload_n hC dL_law_208 rfl 0 rfl ?_
      refine x_iconst hC dL_law_209 rfl ?_
      refine x_iadd hC dL_law_210 rfl ?_
      refine x_scr hC dL_law_211 rfl hX hsc (rg_wr _) (by unfold wr; omega) ?_
      refine x_callV3 (kc2 := kc) (ks2 := ks) (k := 54) (As := [iV (xs (wr (i + 1)).toNat).toInt, iV (xs (wr (i + 2)).toNat).toInt]) (rest := [iV r1]) (K := fun r m => some (r, m)) (Q := fun r m => r = r1 ∧ m = mb1) hC dL_law_212 rfl hmb (fun _ _ h => T_X12_air b _ mb (xs (wr (i + 1)).toNat).toInt (rg_tI _) (xs (wr (i + 2)).toNat).toInt (rg_tI _) h) mlL_22 vlX12_air rfl (by decide) rfl rfl (Nat.le_of_ble_eq_true rfl) (by decide) (by decide) (Nat.zero_add _).symm (Nat.zero_add _).symm (by rw [e2]; exact ⟨rfl, rfl⟩) (fun r2 m2 hr2 hmb1 hF => ?_)
      obtain ⟨rfl, rfl⟩ := hF
      refine x_swap ?_
      refine l_eq (tgt := 957) hC dL_law_215 rfl ?_
      exact hgo _ _ _ _ hI1 hma1 hmb1 (by rw [hp]; exact hkc) (by rw [hp]; exact hks)
    refine x_tab1 (v := 2) (off := 187) (tgt := 220) hC dL_law_33 (by decide) rfl hopr (okT ma 0) (fun hq2 _ => ?_) (fun hq2 _ => ?_)
    · refine x_aload_n hC dL_law_220 rfl 2 rfl ?_
      refine x_aload_n hC dL_law_221 rfl 1 rfl ?_
      refine x_iload_n hC dL_law_222 rfl 0 rfl ?_
      refine x_iconst hC dL_law_223 rfl ?_
      refine x_iadd hC dL_law_224 rfl ?_
      refine x_scr hC dL_law_225 rfl hX hsc (rg_wr _) (by unfold wr; omega) ?_
      refine x_aload_n hC dL_law_226 rfl 1 rfl ?_
      refine x_iload_n hC dL_law_227 rfl 0 rfl ?_
      refine x_iconst hC dL_law_228 rfl ?_
      refine x_iadd hC dL_law_229 rfl ?_
      refine x_scr hC dL_law_230 rfl hX hsc (rg_wr _) (by unfold wr; omega) ?_
      refine x_aload_n hC dL_law_231 rfl 1 rfl ?_
      refine x_iload_n hC dL_law_232 rfl 0 rfl ?_
      refine x_iconst hC dL_law_233 rfl ?_
      refine x_iadd hC dL_law_234 rfl ?_
      refine x_scr hC dL_law_235 rfl hX hsc (rg_wr _) (by unfold wr; omega) ?_
      refine x_aload_n hC dL_law_236 rfl 1 rfl ?_
      refine x_iload_n hC dL_law_237 rfl 0 rfl ?_
      refine x_iconst hC dL_law_238 rfl ?_
      refine x_iadd hC dL_law_239 rfl ?_
      refine x_scr hC dL_law_240 rfl hX hsc (rg_wr _) (by unfold wr; omega) ?_
      refine x_aload_n hC dL_law_241 rfl 1 rfl ?_
      refine x_iload_n hC dL_law_242 rfl 0 rfl ?_
      refine x_iconst hC dL_law_243 rfl ?_
      refine x_iadd hC dL_law_244 rfl ?_
      refine x_scr hC dL_law_245 rfl hX hsc (rg_wr _) (by unfold wr; omega) ?_
      obtain ⟨r0, ma1, mb1, e1, e2, hI1, hp⟩ := h_feed (xs (wr (i + 1)).toNat).toInt (rg_tI _) (xs (wr (i + 2)).toNat).toInt (rg_tI _) (xs (wr (i + 3)).toNat).toInt (rg_tI _) (xs (wr (i + 4)).toNat).toInt (rg_tI _) (xs (wr (i + 5)).toNat).toInt (rg_tI _) ma mb hI hma hmb
      refine x_callV1 (kc2 := kc) (ks2 := ks) (k := 0) (As := [iV (xs (wr (i + 1)).toNat).toInt, iV (xs (wr (i + 2)).toNat).toInt, iV (xs (wr (i + 3)).toNat).toInt, iV (xs (wr (i + 4)).toNat).toInt, iV (xs (wr (i + 5)).toNat).toInt]) (rest := []) (K := fun r m => some (r, m)) (Q := fun r m => r = r0 ∧ m = ma1) hC dL_law_246 rfl hma (fun _ _ h => T_X11_feed b _ ma (xs (wr (i + 1)).toNat).toInt (rg_tI _) (xs (wr (i + 2)).toNat).toInt (rg_tI _) (xs (wr (i + 3)).toNat).toInt (rg_tI _) (xs (wr (i + 4)).toNat).toInt (rg_tI _) (xs (wr (i + 5)).toNat).toInt (rg_tI _) h) mlL_23 vlX11_feed rfl (by decide) rfl rfl (Nat.le_of_ble_eq_true rfl) (by decide) (by decide) (Nat.zero_add _).symm (Nat.zero_add _).symm (by rw [e1]; exact ⟨rfl, rfl⟩) (fun r1 m1 hr1 hma1 hF => ?_)
      obtain ⟨rfl, rfl⟩ := hF
      refine x_swap ?_
      refine x_aload_n hC dL_law_249 rfl 3 rfl ?_
      refine x_aload_n hC dL_law_250 rfl 1 rfl ?_
      refine x_iload_n hC dL_law_251 rfl 0 rfl ?_
      refine x_iconst hC dL_law_252 rfl ?_
      refine x_iadd hC dL_law_253 rfl ?_
      refine x_scr hC dL_law_254 rfl hX hsc (rg_wr _) (by unfold wr; omega) ?_
      refine x_aload_n hC dL_law_255 rfl 1 rfl ?_
      refine x_iload_n hC dL_law_256 rfl 0 rfl ?_
      refine x_iconst hC dL_law_257 rfl ?_
      refine x_iadd hC dL_law_258 rfl ?_
      refine x_scr hC dL_law_259 rfl hX hsc (rg_wr _) (by unfold wr; omega) ?_
      refine x_aload_n hC dL_law_260 rfl 1 rfl ?_
      refine x_iload_n hC dL_law_261 rfl 0 rfl ?_
      refine x_iconst hC dL_law_262 rfl ?_
      refine x_iadd hC dL_law_263 rfl ?_
      refine x_scr hC dL_law_264 rfl hX hsc (rg_wr _) (by unfold wr; omega) ?_
      refine x_aload_n hC dL_law_265 rfl 1 rfl ?_
      refine x_iload_n hC dL_law_266 rfl 0 rfl ?_
      refine x_iconst hC dL_law_267 rfl ?_
      refine x_iadd hC dL_law_268 rfl ?_
      refine x_scr hC dL_law_269 rfl hX hsc (rg_wr _) (by unfold wr; omega) ?_
      refine x_aload_n hC dL_law_270 rfl 1 rfl ?_
      refine x_iload_n hC dL_law_271 rfl 0 rfl ?_
      refine x_iconst hC dL_law_272 rfl ?_
      refine x_iadd hC dL_law_273 rfl ?_
      refine x_scr hC dL_law_274 rfl hX hsc (rg_wr _) (by unfold wr; omega) ?_
      refine x_callV1 (kc2 := kc) (ks2 := ks) (k := 54) (As := [iV (xs (wr (i + 1)).toNat).toInt, iV (xs (wr (i + 2)).toNat).toInt, iV (xs (wr (i + 3)).toNat).toInt, iV (xs (wr (i + 4)).toNat).toInt, iV (xs (wr (i + 5)).toNat).toInt]) (rest := [iV r1]) (K := fun r m => some (r, m)) (Q := fun r m => r = r1 ∧ m = mb1) hC dL_law_275 rfl hmb (fun _ _ h => T_X12_feed b _ mb (xs (wr (i + 1)).toNat).toInt (rg_tI _) (xs (wr (i + 2)).toNat).toInt (rg_tI _) (xs (wr (i + 3)).toNat).toInt (rg_tI _) (xs (wr (i + 4)).toNat).toInt (rg_tI _) (xs (wr (i + 5)).toNat).toInt (rg_tI _) h) mlL_27 vlX12_feed rfl (by decide) rfl rfl (Nat.le_of_ble_eq_true rfl) (by decide) (by decide) (Nat.zero_add _).symm (Nat.zero_add _).symm (by rw [e2]; exact ⟨rfl, rfl⟩) (fun r2 m2 hr2 hmb1 hF => ?_)
      obtain ⟨rfl, rfl⟩ := hF
      refine x_swap ?_
      refine l_eq (tgt := 957) hC dL_law_278 rfl ?_
      exact hgo _ _ _ _ hI1 hma1 hmb1 (by rw [hp]; exact hkc) (by rw [hp]; exact hks)
    refine x_tab1 (v := 3) (off := 250) (tgt := 283) hC dL_law_33 (by decide) rfl hopr (okT ma 0) (fun hq3 _ => ?_) (fun hq3 _ => ?_)
    · refine x_aload_n hC dL_law_283 rfl 2 rfl ?_
      refine x_aload_n hC dL_law_284 rfl 1 rfl ?_
      refine x_iload_n hC dL_law_285 rfl 0 rfl ?_
      refine x_iconst hC dL_law_286 rfl ?_
      refine x_iadd hC dL_law_287 rfl ?_
      refine x_scr hC dL_law_288 rfl hX hsc (rg_wr _) (by unfold wr; omega) ?_
      obtain ⟨r0, ma1, mb1, e1, e2, hI1, hp⟩ := h_tongue (xs (wr (i + 1)).toNat).toInt (rg_tI _) ma mb hI hma hmb
      refine x_callV1 (kc2 := kc) (ks2 := ks) (k := 0) (As := [iV (xs (wr (i + 1)).toNat).toInt]) (rest := []) (K := fun r m => some (r, m)) (Q := fun r m => r = r0 ∧ m = ma1) hC dL_law_289 rfl hma (fun _ _ h => T_X11_tongue b _ ma (xs (wr (i + 1)).toNat).toInt (rg_tI _) h) mlL_28 vlX11_tongue rfl (by decide) rfl rfl (Nat.le_of_ble_eq_true rfl) (by decide) (by decide) (Nat.zero_add _).symm (Nat.zero_add _).symm (by rw [e1]; exact ⟨rfl, rfl⟩) (fun r1 m1 hr1 hma1 hF => ?_)
      obtain ⟨rfl, rfl⟩ := hF
      refine x_swap ?_
      refine x_aload_n hC dL_law_292 rfl 3 rfl ?_
      refine x_aload_n hC dL_law_293 rfl 1 rfl ?_
      refine x_iload_n hC dL_law_294 rfl 0 rfl ?_
      refine x_iconst hC dL_law_295 rfl ?_
      refine x_iadd hC dL_law_296 rfl ?_
      refine x_scr hC dL_law_297 rfl hX hsc (rg_wr _) (by unfold wr; omega) ?_
      refine x_callV1 (kc2 := kc) (ks2 := ks) (k := 54) (As := [iV (xs (wr (i + 1)).toNat).toInt]) (rest := [iV r1]) (K := fun r m => some (r, m)) (Q := fun r m => r = r1 ∧ m = mb1) hC dL_law_298 rfl hmb (fun _ _ h => T_X12_tongue b _ mb (xs (wr (i + 1)).toNat).toInt (rg_tI _) h) mlL_32 vlX12_tongue rfl (by decide) rfl rfl (Nat.le_of_ble_eq_true rfl) (by decide) (by decide) (Nat.zero_add _).symm (Nat.zero_add _).symm (by rw [e2]; exact ⟨rfl, rfl⟩) (fun r2 m2 hr2 hmb1 hF => ?_)
      obtain ⟨rfl, rfl⟩ := hF
      refine x_swap ?_
      refine l_eq (tgt := 957) hC dL_law_301 rfl ?_
      exact hgo _ _ _ _ hI1 hma1 hmb1 (by rw [hp]; exact hkc) (by rw [hp]; exact hks)
    refine x_tab1 (v := 4) (off := 273) (tgt := 306) hC dL_law_33 (by decide) rfl hopr (okT ma 0) (fun hq4 _ => ?_) (fun hq4 _ => ?_)
    · refine x_aload_n hC dL_law_306 rfl 2 rfl ?_
      refine x_aload_n hC dL_law_307 rfl 1 rfl ?_
      refine x_iload_n hC dL_law_308 rfl 0 rfl ?_
      refine x_iconst hC dL_law_309 rfl ?_
      refine x_iadd hC dL_law_310 rfl ?_
      refine x_scr hC dL_law_311 rfl hX hsc (rg_wr _) (by unfold wr; omega) ?_
      refine x_aload_n hC dL_law_312 rfl 1 rfl ?_
      refine x_iload_n hC dL_law_313 rfl 0 rfl ?_
      refine x_iconst hC dL_law_314 rfl ?_
      refine x_iadd hC dL_law_315 rfl ?_
      refine x_scr hC dL_law_316 rfl hX hsc (rg_wr _) (by unfold wr; omega) ?_
      obtain ⟨r0, ma1, mb1, e1, e2, hI1, hp⟩ := h_sentence (xs (wr (i + 1)).toNat).toInt (rg_tI _) (xs (wr (i + 2)).toNat).toInt (rg_tI _) ma mb hI hma hmb
      refine x_callV1 (kc2 := kc) (ks2 := ks) (k := 0) (As := [iV (xs (wr (i + 1)).toNat).toInt, iV (xs (wr (i + 2)).toNat).toInt]) (rest := []) (K := fun r m => some (r, m)) (Q := fun r m => r = r0 ∧ m = ma1) hC dL_law_317 rfl hma (fun _ _ h => T_X11_sentence b _ ma (xs (wr (i + 1)).toNat).toInt (rg_tI _) (xs (wr (i + 2)).toNat).toInt (rg_tI _) h) mlL_33 vlX11_sentence rfl (by decide) rfl rfl (Nat.le_of_ble_eq_true rfl) (by decide) (by decide) (Nat.zero_add _).symm (Nat.zero_add _).symm (by rw [e1]; exact ⟨rfl, rfl⟩) (fun r1 m1 hr1 hma1 hF => ?_)
      obtain ⟨rfl, rfl⟩ := hF
      refine x_swap ?_
      refine x_aload_n hC dL_law_320 rfl 3 rfl ?_
      refine x_aload_n hC dL_law_321 rfl 1 rfl ?_
      refine x_iload_n hC dL_law_322 rfl 0 rfl ?_
      refine x_iconst hC dL_law_323 rfl ?_
      refine x_iadd hC dL_law_324 rfl ?_
      refine x_scr hC dL_law_325 rfl hX hsc (rg_wr _) (by unfold wr; omega) ?_
      refine x_aload_n hC dL_law_326 rfl 1 rfl ?_
      refine x_iload_n hC dL_law_327 rfl 0 rfl ?_
      refine x_iconst hC dL_law_328 rfl ?_
      refine x_iadd hC dL_law_329 rfl ?_
      refine x_scr hC dL_law_330 rfl hX hsc (rg_wr _) (by unfold wr; omega) ?_
      refine x_callV1 (kc2 := kc) (ks2 := ks) (k := 54) (As := [iV (xs (wr (i + 1)).toNat).toInt, iV (xs (wr (i + 2)).toNat).toInt]) (rest := [iV r1]) (K := fun r m => some (r, m)) (Q := fun r m => r = r1 ∧ m = mb1) hC dL_law_331 rfl hmb (fun _ _ h => T_X12_sentence b _ mb (xs (wr (i + 1)).toNat).toInt (rg_tI _) (xs (wr (i + 2)).toNat).toInt (rg_tI _) h) mlL_37 vlX12_sentence rfl (by decide) rfl rfl (Nat.le_of_ble_eq_true rfl) (by decide) (by decide) (Nat.zero_add _).symm (Nat.zero_add _).symm (by rw [e2]; exact ⟨rfl, rfl⟩) (fun r2 m2 hr2 hmb1 hF => ?_)
      obtain ⟨rfl, rfl⟩ := hF
      refine x_swap ?_
      refine l_eq (tgt := 957) hC dL_law_334 rfl ?_
      exact hgo _ _ _ _ hI1 hma1 hmb1 (by rw [hp]; exact hkc) (by rw [hp]; exact hks)
    refine x_tab1 (v := 5) (off := 306) (tgt := 339) hC dL_law_33 (by decide) rfl hopr (okT ma 0) (fun hq5 _ => ?_) (fun hq5 _ => ?_)
    · refine x_aload_n hC dL_law_339 rfl 2 rfl ?_
      refine x_aload_n hC dL_law_340 rfl 1 rfl ?_
      refine x_iload_n hC dL_law_341 rfl 0 rfl ?_
      refine x_iconst hC dL_law_342 rfl ?_
      refine x_iadd hC dL_law_343 rfl ?_
      refine x_scr hC dL_law_344 rfl hX hsc (rg_wr _) (by unfold wr; omega) ?_
      refine x_aload_n hC dL_law_345 rfl 1 rfl ?_
      refine x_iload_n hC dL_law_346 rfl 0 rfl ?_
      refine x_iconst hC dL_law_347 rfl ?_
      refine x_iadd hC dL_law_348 rfl ?_
      refine x_scr hC dL_law_349 rfl hX hsc (rg_wr _) (by unfold wr; omega) ?_
      obtain ⟨r0, ma1, mb1, e1, e2, hI1, hp⟩ := h_say (xs (wr (i + 1)).toNat).toInt (rg_tI _) (xs (wr (i + 2)).toNat).toInt (rg_tI _) ma mb hI hma hmb
      refine x_callV1 (kc2 := kc) (ks2 := ks) (k := 0) (As := [iV (xs (wr (i + 1)).toNat).toInt, iV (xs (wr (i + 2)).toNat).toInt]) (rest := []) (K := fun r m => some (r, m)) (Q := fun r m => r = r0 ∧ m = ma1) hC dL_law_350 rfl hma (fun _ _ h => T_X11_say b _ ma (xs (wr (i + 1)).toNat).toInt (rg_tI _) (xs (wr (i + 2)).toNat).toInt (rg_tI _) h) mlL_38 vlX11_say rfl (by decide) rfl rfl (Nat.le_of_ble_eq_true rfl) (by decide) (by decide) (Nat.zero_add _).symm (Nat.zero_add _).symm (by rw [e1]; exact ⟨rfl, rfl⟩) (fun r1 m1 hr1 hma1 hF => ?_)
      obtain ⟨rfl, rfl⟩ := hF
      refine x_swap ?_
      refine x_aload_n hC dL_law_353 rfl 3 rfl ?_
      refine x_aload_n hC dL_law_354 rfl 1 rfl ?_
      refine x_iload_n hC dL_law_355 rfl 0 rfl ?_
      refine x_iconst hC dL_law_356 rfl ?_
      refine x_iadd hC dL_law_357 rfl ?_
      refine x_scr hC dL_law_358 rfl hX hsc (rg_wr _) (by unfold wr; omega) ?_
      refine x_aload_n hC dL_law_359 rfl 1 rfl ?_
      refine x_iload_n hC dL_law_360 rfl 0 rfl ?_
      refine x_iconst hC dL_law_361 rfl ?_
      refine x_iadd hC dL_law_362 rfl ?_
      refine x_scr hC dL_law_363 rfl hX hsc (rg_wr _) (by unfold wr; omega) ?_
      refine x_callV1 (kc2 := kc) (ks2 := ks) (k := 54) (As := [iV (xs (wr (i + 1)).toNat).toInt, iV (xs (wr (i + 2)).toNat).toInt]) (rest := [iV r1]) (K := fun r m => some (r, m)) (Q := fun r m => r = r1 ∧ m = mb1) hC dL_law_364 rfl hmb (fun _ _ h => T_X12_say b _ mb (xs (wr (i + 1)).toNat).toInt (rg_tI _) (xs (wr (i + 2)).toNat).toInt (rg_tI _) h) mlL_41 vlX12_say rfl (by decide) rfl rfl (Nat.le_of_ble_eq_true rfl) (by decide) (by decide) (Nat.zero_add _).symm (Nat.zero_add _).symm (by rw [e2]; exact ⟨rfl, rfl⟩) (fun r2 m2 hr2 hmb1 hF => ?_)
      obtain ⟨rfl, rfl⟩ := hF
      refine x_swap ?_
      refine l_eq (tgt := 957) hC dL_law_367 rfl ?_
      exact hgo _ _ _ _ hI1 hma1 hmb1 (by rw [hp]; exact hkc) (by rw [hp]; exact hks)
    refine x_tab1 (v := 6) (off := 339) (tgt := 372) hC dL_law_33 (by decide) rfl hopr (okT ma 0) (fun hq6 _ => ?_) (fun hq6 _ => ?_)
    · refine x_aload_n hC dL_law_372 rfl 2 rfl ?_
      refine x_aload_n hC dL_law_373 rfl 1 rfl ?_
      refine x_iload_n hC dL_law_374 rfl 0 rfl ?_
      refine x_iconst hC dL_law_375 rfl ?_
      refine x_iadd hC dL_law_376 rfl ?_
      refine x_scr hC dL_law_377 rfl hX hsc (rg_wr _) (by unfold wr; omega) ?_
      obtain ⟨r0, ma1, mb1, e1, e2, hI1, hp⟩ := h_heard (xs (wr (i + 1)).toNat).toInt (rg_tI _) ma mb hI hma hmb
      refine x_callV1 (kc2 := kc) (ks2 := ks) (k := 0) (As := [iV (xs (wr (i + 1)).toNat).toInt]) (rest := []) (K := fun r m => some (r, m)) (Q := fun r m => r = r0 ∧ m = ma1) hC dL_law_378 rfl hma (fun _ _ h => T_X11_heard b _ ma (xs (wr (i + 1)).toNat).toInt (rg_tI _) h) mlL_42 vlX11_heard rfl (by decide) rfl rfl (Nat.le_of_ble_eq_true rfl) (by decide) (by decide) (Nat.zero_add _).symm (Nat.zero_add _).symm (by rw [e1]; exact ⟨rfl, rfl⟩) (fun r1 m1 hr1 hma1 hF => ?_)
      obtain ⟨rfl, rfl⟩ := hF
      refine x_swap ?_
      refine x_aload_n hC dL_law_381 rfl 3 rfl ?_
      refine x_aload_n hC dL_law_382 rfl 1 rfl ?_
      refine x_iload_n hC dL_law_383 rfl 0 rfl ?_
      refine x_iconst hC dL_law_384 rfl ?_
      refine x_iadd hC dL_law_385 rfl ?_
      refine x_scr hC dL_law_386 rfl hX hsc (rg_wr _) (by unfold wr; omega) ?_
      refine x_callV1 (kc2 := kc) (ks2 := ks) (k := 54) (As := [iV (xs (wr (i + 1)).toNat).toInt]) (rest := [iV r1]) (K := fun r m => some (r, m)) (Q := fun r m => r = r1 ∧ m = mb1) hC dL_law_387 rfl hmb (fun _ _ h => T_X12_heard b _ mb (xs (wr (i + 1)).toNat).toInt (rg_tI _) h) mlL_45 vlX12_heard rfl (by decide) rfl rfl (Nat.le_of_ble_eq_true rfl) (by decide) (by decide) (Nat.zero_add _).symm (Nat.zero_add _).symm (by rw [e2]; exact ⟨rfl, rfl⟩) (fun r2 m2 hr2 hmb1 hF => ?_)
      obtain ⟨rfl, rfl⟩ := hF
      refine x_swap ?_
      refine l_eq (tgt := 957) hC dL_law_390 rfl ?_
      exact hgo _ _ _ _ hI1 hma1 hmb1 (by rw [hp]; exact hkc) (by rw [hp]; exact hks)
    refine x_tab1 (v := 7) (off := 362) (tgt := 395) hC dL_law_33 (by decide) rfl hopr (okT ma 0) (fun hq7 _ => ?_) (fun hq7 _ => ?_)
    · refine x_aload_n hC dL_law_395 rfl 2 rfl ?_
      refine x_aload_n hC dL_law_396 rfl 1 rfl ?_
      refine x_iload_n hC dL_law_397 rfl 0 rfl ?_
      refine x_iconst hC dL_law_398 rfl ?_
      refine x_iadd hC dL_law_399 rfl ?_
      refine x_scr hC dL_law_400 rfl hX hsc (rg_wr _) (by unfold wr; omega) ?_
      refine x_aload_n hC dL_law_401 rfl 1 rfl ?_
      refine x_iload_n hC dL_law_402 rfl 0 rfl ?_
      refine x_iconst hC dL_law_403 rfl ?_
      refine x_iadd hC dL_law_404 rfl ?_
      refine x_scr hC dL_law_405 rfl hX hsc (rg_wr _) (by unfold wr; omega) ?_
      refine x_aload_n hC dL_law_406 rfl 1 rfl ?_
      refine x_iload_n hC dL_law_407 rfl 0 rfl ?_
      refine x_iconst hC dL_law_408 rfl ?_
      refine x_iadd hC dL_law_409 rfl ?_
      refine x_scr hC dL_law_410 rfl hX hsc (rg_wr _) (by unfold wr; omega) ?_
      obtain ⟨r0, ma1, mb1, e1, e2, hI1, hp⟩ := h_hearing (xs (wr (i + 1)).toNat).toInt (rg_tI _) (xs (wr (i + 2)).toNat).toInt (rg_tI _) (xs (wr (i + 3)).toNat).toInt (rg_tI _) ma mb hI hma hmb
      refine x_callV1 (kc2 := kc) (ks2 := ks) (k := 0) (As := [iV (xs (wr (i + 1)).toNat).toInt, iV (xs (wr (i + 2)).toNat).toInt, iV (xs (wr (i + 3)).toNat).toInt]) (rest := []) (K := fun r m => some (r, m)) (Q := fun r m => r = r0 ∧ m = ma1) hC dL_law_411 rfl hma (fun _ _ h => T_X11_hearing b _ ma (xs (wr (i + 1)).toNat).toInt (rg_tI _) (xs (wr (i + 2)).toNat).toInt (rg_tI _) (xs (wr (i + 3)).toNat).toInt (rg_tI _) h) mlL_46 vlX11_hearing rfl (by decide) rfl rfl (Nat.le_of_ble_eq_true rfl) (by decide) (by decide) (Nat.zero_add _).symm (Nat.zero_add _).symm (by rw [e1]; exact ⟨rfl, rfl⟩) (fun r1 m1 hr1 hma1 hF => ?_)
      obtain ⟨rfl, rfl⟩ := hF
      refine x_swap ?_
      refine x_aload_n hC dL_law_414 rfl 3 rfl ?_
      refine x_aload_n hC dL_law_415 rfl 1 rfl ?_
      refine x_iload_n hC dL_law_416 rfl 0 rfl ?_
      refine x_iconst hC dL_law_417 rfl ?_
      refine x_iadd hC dL_law_418 rfl ?_
      refine x_scr hC dL_law_419 rfl hX hsc (rg_wr _) (by unfold wr; omega) ?_
      refine x_aload_n hC dL_law_420 rfl 1 rfl ?_
      refine x_iload_n hC dL_law_421 rfl 0 rfl ?_
      refine x_iconst hC dL_law_422 rfl ?_
      refine x_iadd hC dL_law_423 rfl ?_
      refine x_scr hC dL_law_424 rfl hX hsc (rg_wr _) (by unfold wr; omega) ?_
      refine x_aload_n hC dL_law_425 rfl 1 rfl ?_
      refine x_iload_n hC dL_law_426 rfl 0 rfl ?_
      refine x_iconst hC dL_law_427 rfl ?_
      refine x_iadd hC dL_law_428 rfl ?_
      refine x_scr hC dL_law_429 rfl hX hsc (rg_wr _) (by unfold wr; omega) ?_
      refine x_callV1 (kc2 := kc) (ks2 := ks) (k := 54) (As := [iV (xs (wr (i + 1)).toNat).toInt, iV (xs (wr (i + 2)).toNat).toInt, iV (xs (wr (i + 3)).toNat).toInt]) (rest := [iV r1]) (K := fun r m => some (r, m)) (Q := fun r m => r = r1 ∧ m = mb1) hC dL_law_430 rfl hmb (fun _ _ h => T_X12_hearing b _ mb (xs (wr (i + 1)).toNat).toInt (rg_tI _) (xs (wr (i + 2)).toNat).toInt (rg_tI _) (xs (wr (i + 3)).toNat).toInt (rg_tI _) h) mlL_49 vlX12_hearing rfl (by decide) rfl rfl (Nat.le_of_ble_eq_true rfl) (by decide) (by decide) (Nat.zero_add _).symm (Nat.zero_add _).symm (by rw [e2]; exact ⟨rfl, rfl⟩) (fun r2 m2 hr2 hmb1 hF => ?_)
      obtain ⟨rfl, rfl⟩ := hF
      refine x_swap ?_
      refine l_eq (tgt := 957) hC dL_law_433 rfl ?_
      exact hgo _ _ _ _ hI1 hma1 hmb1 (by rw [hp]; exact hkc) (by rw [hp]; exact hks)
    refine x_tab1 (v := 8) (off := 405) (tgt := 438) hC dL_law_33 (by decide) rfl hopr (okT ma 0) (fun hq8 _ => ?_) (fun hq8 _ => ?_)
    · refine x_aload_n hC dL_law_438 rfl 2 rfl ?_
      refine x_aload_n hC dL_law_439 rfl 1 rfl ?_
      refine x_iload_n hC dL_law_440 rfl 0 rfl ?_
      refine x_iconst hC dL_law_441 rfl ?_
      refine x_iadd hC dL_law_442 rfl ?_
      refine x_scr hC dL_law_443 rfl hX hsc (rg_wr _) (by unfold wr; omega) ?_
      refine x_aload_n hC dL_law_444 rfl 1 rfl ?_
      refine x_iload_n hC dL_law_445 rfl 0 rfl ?_
      refine x_iconst hC dL_law_446 rfl ?_
      refine x_iadd hC dL_law_447 rfl ?_
      refine x_scr hC dL_law_448 rfl hX hsc (rg_wr _) (by unfold wr; omega) ?_
      obtain ⟨r0, ma1, mb1, e1, e2, hI1, hp⟩ := h_way (xs (wr (i + 1)).toNat).toInt (rg_tI _) (xs (wr (i + 2)).toNat).toInt (rg_tI _) ma mb hI hma hmb
      refine x_callV1 (kc2 := kc) (ks2 := ks) (k := 0) (As := [iV (xs (wr (i + 1)).toNat).toInt, iV (xs (wr (i + 2)).toNat).toInt]) (rest := []) (K := fun r m => some (r, m)) (Q := fun r m => r = r0 ∧ m = ma1) hC dL_law_449 rfl hma (fun _ _ h => T_X11_way b _ ma (xs (wr (i + 1)).toNat).toInt (rg_tI _) (xs (wr (i + 2)).toNat).toInt (rg_tI _) h) mlL_50 vlX11_way rfl (by decide) rfl rfl (Nat.le_of_ble_eq_true rfl) (by decide) (by decide) (Nat.zero_add _).symm (Nat.zero_add _).symm (by rw [e1]; exact ⟨rfl, rfl⟩) (fun r1 m1 hr1 hma1 hF => ?_)
      obtain ⟨rfl, rfl⟩ := hF
      refine x_swap ?_
      refine x_aload_n hC dL_law_452 rfl 3 rfl ?_
      refine x_aload_n hC dL_law_453 rfl 1 rfl ?_
      refine x_iload_n hC dL_law_454 rfl 0 rfl ?_
      refine x_iconst hC dL_law_455 rfl ?_
      refine x_iadd hC dL_law_456 rfl ?_
      refine x_scr hC dL_law_457 rfl hX hsc (rg_wr _) (by unfold wr; omega) ?_
      refine x_aload_n hC dL_law_458 rfl 1 rfl ?_
      refine x_iload_n hC dL_law_459 rfl 0 rfl ?_
      refine x_iconst hC dL_law_460 rfl ?_
      refine x_iadd hC dL_law_461 rfl ?_
      refine x_scr hC dL_law_462 rfl hX hsc (rg_wr _) (by unfold wr; omega) ?_
      refine x_callV1 (kc2 := kc) (ks2 := ks) (k := 54) (As := [iV (xs (wr (i + 1)).toNat).toInt, iV (xs (wr (i + 2)).toNat).toInt]) (rest := [iV r1]) (K := fun r m => some (r, m)) (Q := fun r m => r = r1 ∧ m = mb1) hC dL_law_463 rfl hmb (fun _ _ h => T_X12_way b _ mb (xs (wr (i + 1)).toNat).toInt (rg_tI _) (xs (wr (i + 2)).toNat).toInt (rg_tI _) h) mlL_53 vlX12_way rfl (by decide) rfl rfl (Nat.le_of_ble_eq_true rfl) (by decide) (by decide) (Nat.zero_add _).symm (Nat.zero_add _).symm (by rw [e2]; exact ⟨rfl, rfl⟩) (fun r2 m2 hr2 hmb1 hF => ?_)
      obtain ⟨rfl, rfl⟩ := hF
      refine x_swap ?_
      refine l_eq (tgt := 957) hC dL_law_466 rfl ?_
      exact hgo _ _ _ _ hI1 hma1 hmb1 (by rw [hp]; exact hkc) (by rw [hp]; exact hks)
    refine x_tab1 (v := 9) (off := 438) (tgt := 471) hC dL_law_33 (by decide) rfl hopr (okT ma 0) (fun hq9 _ => ?_) (fun hq9 _ => ?_)
    · refine x_aload_n hC dL_law_471 rfl 2 rfl ?_
      refine x_aload_n hC dL_law_472 rfl 1 rfl ?_
      refine x_iload_n hC dL_law_473 rfl 0 rfl ?_
      refine x_iconst hC dL_law_474 rfl ?_
      refine x_iadd hC dL_law_475 rfl ?_
      refine x_scr hC dL_law_476 rfl hX hsc (rg_wr _) (by unfold wr; omega) ?_
      refine x_aload_n hC dL_law_477 rfl 1 rfl ?_
      refine x_iload_n hC dL_law_478 rfl 0 rfl ?_
      refine x_iconst hC dL_law_479 rfl ?_
      refine x_iadd hC dL_law_480 rfl ?_
      refine x_scr hC dL_law_481 rfl hX hsc (rg_wr _) (by unfold wr; omega) ?_
      refine x_aload_n hC dL_law_482 rfl 1 rfl ?_
      refine x_iload_n hC dL_law_483 rfl 0 rfl ?_
      refine x_iconst hC dL_law_484 rfl ?_
      refine x_iadd hC dL_law_485 rfl ?_
      refine x_scr hC dL_law_486 rfl hX hsc (rg_wr _) (by unfold wr; omega) ?_
      refine x_aload_n hC dL_law_487 rfl 1 rfl ?_
      refine x_iload_n hC dL_law_488 rfl 0 rfl ?_
      refine x_iconst hC dL_law_489 rfl ?_
      refine x_iadd hC dL_law_490 rfl ?_
      refine x_scr hC dL_law_491 rfl hX hsc (rg_wr _) (by unfold wr; omega) ?_
      refine x_aload_n hC dL_law_492 rfl 1 rfl ?_
      refine x_iload_n hC dL_law_493 rfl 0 rfl ?_
      refine x_iconst hC dL_law_494 rfl ?_
      refine x_iadd hC dL_law_495 rfl ?_
      refine x_scr hC dL_law_496 rfl hX hsc (rg_wr _) (by unfold wr; omega) ?_
      obtain ⟨r0, ma1, mb1, e1, e2, hI1, hp⟩ := h_meaning (xs (wr (i + 1)).toNat).toInt (rg_tI _) (xs (wr (i + 2)).toNat).toInt (rg_tI _) (xs (wr (i + 3)).toNat).toInt (rg_tI _) (xs (wr (i + 4)).toNat).toInt (rg_tI _) (xs (wr (i + 5)).toNat).toInt (rg_tI _) ma mb hI hma hmb
      refine x_callV1 (kc2 := kc) (ks2 := ks) (k := 0) (As := [iV (xs (wr (i + 1)).toNat).toInt, iV (xs (wr (i + 2)).toNat).toInt, iV (xs (wr (i + 3)).toNat).toInt, iV (xs (wr (i + 4)).toNat).toInt, iV (xs (wr (i + 5)).toNat).toInt]) (rest := []) (K := fun r m => some (r, m)) (Q := fun r m => r = r0 ∧ m = ma1) hC dL_law_497 rfl hma (fun _ _ h => T_X11_meaning b _ ma (xs (wr (i + 1)).toNat).toInt (rg_tI _) (xs (wr (i + 2)).toNat).toInt (rg_tI _) (xs (wr (i + 3)).toNat).toInt (rg_tI _) (xs (wr (i + 4)).toNat).toInt (rg_tI _) (xs (wr (i + 5)).toNat).toInt (rg_tI _) h) mlL_54 vlX11_meaning rfl (by decide) rfl rfl (Nat.le_of_ble_eq_true rfl) (by decide) (by decide) (Nat.zero_add _).symm (Nat.zero_add _).symm (by rw [e1]; exact ⟨rfl, rfl⟩) (fun r1 m1 hr1 hma1 hF => ?_)
      obtain ⟨rfl, rfl⟩ := hF
      refine x_swap ?_
      refine x_aload_n hC dL_law_500 rfl 3 rfl ?_
      refine x_aload_n hC dL_law_501 rfl 1 rfl ?_
      refine x_iload_n hC dL_law_502 rfl 0 rfl ?_
      refine x_iconst hC dL_law_503 rfl ?_
      refine x_iadd hC dL_law_504 rfl ?_
      refine x_scr hC dL_law_505 rfl hX hsc (rg_wr _) (by unfold wr; omega) ?_
      refine x_aload_n hC dL_law_506 rfl 1 rfl ?_
      refine x_iload_n hC dL_law_507 rfl 0 rfl ?_
      refine x_iconst hC dL_law_508 rfl ?_
      refine x_iadd hC dL_law_509 rfl ?_
      refine x_scr hC dL_law_510 rfl hX hsc (rg_wr _) (by unfold wr; omega) ?_
      refine x_aload_n hC dL_law_511 rfl 1 rfl ?_
      refine x_iload_n hC dL_law_512 rfl 0 rfl ?_
      refine x_iconst hC dL_law_513 rfl ?_
      refine x_iadd hC dL_law_514 rfl ?_
      refine x_scr hC dL_law_515 rfl hX hsc (rg_wr _) (by unfold wr; omega) ?_
      refine x_aload_n hC dL_law_516 rfl 1 rfl ?_
      refine x_iload_n hC dL_law_517 rfl 0 rfl ?_
      refine x_iconst hC dL_law_518 rfl ?_
      refine x_iadd hC dL_law_519 rfl ?_
      refine x_scr hC dL_law_520 rfl hX hsc (rg_wr _) (by unfold wr; omega) ?_
      refine x_aload_n hC dL_law_521 rfl 1 rfl ?_
      refine x_iload_n hC dL_law_522 rfl 0 rfl ?_
      refine x_iconst hC dL_law_523 rfl ?_
      refine x_iadd hC dL_law_524 rfl ?_
      refine x_scr hC dL_law_525 rfl hX hsc (rg_wr _) (by unfold wr; omega) ?_
      refine x_callV1 (kc2 := kc) (ks2 := ks) (k := 54) (As := [iV (xs (wr (i + 1)).toNat).toInt, iV (xs (wr (i + 2)).toNat).toInt, iV (xs (wr (i + 3)).toNat).toInt, iV (xs (wr (i + 4)).toNat).toInt, iV (xs (wr (i + 5)).toNat).toInt]) (rest := [iV r1]) (K := fun r m => some (r, m)) (Q := fun r m => r = r1 ∧ m = mb1) hC dL_law_526 rfl hmb (fun _ _ h => T_X12_meaning b _ mb (xs (wr (i + 1)).toNat).toInt (rg_tI _) (xs (wr (i + 2)).toNat).toInt (rg_tI _) (xs (wr (i + 3)).toNat).toInt (rg_tI _) (xs (wr (i + 4)).toNat).toInt (rg_tI _) (xs (wr (i + 5)).toNat).toInt (rg_tI _) h) mlL_57 vlX12_meaning rfl (by decide) rfl rfl (Nat.le_of_ble_eq_true rfl) (by decide) (by decide) (Nat.zero_add _).symm (Nat.zero_add _).symm (by rw [e2]; exact ⟨rfl, rfl⟩) (fun r2 m2 hr2 hmb1 hF => ?_)
      obtain ⟨rfl, rfl⟩ := hF
      refine x_swap ?_
      refine l_eq (tgt := 957) hC dL_law_529 rfl ?_
      exact hgo _ _ _ _ hI1 hma1 hmb1 (by rw [hp]; exact hkc) (by rw [hp]; exact hks)
    refine x_tab1 (v := 10) (off := 501) (tgt := 534) hC dL_law_33 (by decide) rfl hopr (okT ma 0) (fun hq10 _ => ?_) (fun hq10 _ => ?_)
    · refine x_aload_n hC dL_law_534 rfl 2 rfl ?_
      refine x_aload_n hC dL_law_535 rfl 1 rfl ?_
      refine x_iload_n hC dL_law_536 rfl 0 rfl ?_
      refine x_iconst hC dL_law_537 rfl ?_
      refine x_iadd hC dL_law_538 rfl ?_
      refine x_scr hC dL_law_539 rfl hX hsc (rg_wr _) (by unfold wr; omega) ?_
      refine x_aload_n hC dL_law_540 rfl 1 rfl ?_
      refine x_iload_n hC dL_law_541 rfl 0 rfl ?_
      refine x_iconst hC dL_law_542 rfl ?_
      refine x_iadd hC dL_law_543 rfl ?_
      refine x_scr hC dL_law_544 rfl hX hsc (rg_wr _) (by unfold wr; omega) ?_
      refine x_aload_n hC dL_law_545 rfl 1 rfl ?_
      refine x_iload_n hC dL_law_546 rfl 0 rfl ?_
      refine x_iconst hC dL_law_547 rfl ?_
      refine x_iadd hC dL_law_548 rfl ?_
      refine x_scr hC dL_law_549 rfl hX hsc (rg_wr _) (by unfold wr; omega) ?_
      obtain ⟨r0, ma1, mb1, e1, e2, hI1, hp⟩ := h_read (xs (wr (i + 1)).toNat).toInt (rg_tI _) (xs (wr (i + 2)).toNat).toInt (rg_tI _) (xs (wr (i + 3)).toNat).toInt (rg_tI _) ma mb hI hma hmb
      refine x_callV2 (kc2 := kc) (ks2 := ks) (k := 0) (As := [iV (xs (wr (i + 1)).toNat).toInt, iV (xs (wr (i + 2)).toNat).toInt, iV (xs (wr (i + 3)).toNat).toInt]) (rest := []) (K := fun r m => some (r, m)) (Q := fun r m => r = r0 ∧ m = ma1) hC dL_law_550 rfl hma (fun _ _ h => T_X11_read b _ ma (xs (wr (i + 1)).toNat).toInt (rg_tI _) (xs (wr (i + 2)).toNat).toInt (rg_tI _) (xs (wr (i + 3)).toNat).toInt (rg_tI _) h) mlL_58 vlX11_read rfl (by decide) rfl rfl (Nat.le_of_ble_eq_true rfl) (by decide) (by decide) (Nat.zero_add _).symm (Nat.zero_add _).symm (by rw [e1]; exact ⟨rfl, rfl⟩) (fun r1 m1 hr1 hma1 hF => ?_)
      obtain ⟨rfl, rfl⟩ := hF
      refine x_swap ?_
      refine x_aload_n hC dL_law_553 rfl 3 rfl ?_
      refine x_aload_n hC dL_law_554 rfl 1 rfl ?_
      refine x_iload_n hC dL_law_555 rfl 0 rfl ?_
      refine x_iconst hC dL_law_556 rfl ?_
      refine x_iadd hC dL_law_557 rfl ?_
      refine x_scr hC dL_law_558 rfl hX hsc (rg_wr _) (by unfold wr; omega) ?_
      refine x_aload_n hC dL_law_559 rfl 1 rfl ?_
      refine x_iload_n hC dL_law_560 rfl 0 rfl ?_
      refine x_iconst hC dL_law_561 rfl ?_
      refine x_iadd hC dL_law_562 rfl ?_
      refine x_scr hC dL_law_563 rfl hX hsc (rg_wr _) (by unfold wr; omega) ?_
      refine x_aload_n hC dL_law_564 rfl 1 rfl ?_
      refine x_iload_n hC dL_law_565 rfl 0 rfl ?_
      refine x_iconst hC dL_law_566 rfl ?_
      refine x_iadd hC dL_law_567 rfl ?_
      refine x_scr hC dL_law_568 rfl hX hsc (rg_wr _) (by unfold wr; omega) ?_
      refine x_callV2 (kc2 := kc) (ks2 := ks) (k := 54) (As := [iV (xs (wr (i + 1)).toNat).toInt, iV (xs (wr (i + 2)).toNat).toInt, iV (xs (wr (i + 3)).toNat).toInt]) (rest := [lV r1]) (K := fun r m => some (r, m)) (Q := fun r m => r = r1 ∧ m = mb1) hC dL_law_569 rfl hmb (fun _ _ h => T_X12_read b _ mb (xs (wr (i + 1)).toNat).toInt (rg_tI _) (xs (wr (i + 2)).toNat).toInt (rg_tI _) (xs (wr (i + 3)).toNat).toInt (rg_tI _) h) mlL_62 vlX12_read rfl (by decide) rfl rfl (Nat.le_of_ble_eq_true rfl) (by decide) (by decide) (Nat.zero_add _).symm (Nat.zero_add _).symm (by rw [e2]; exact ⟨rfl, rfl⟩) (fun r2 m2 hr2 hmb1 hF => ?_)
      obtain ⟨rfl, rfl⟩ := hF
      refine x_swap ?_
      refine l_leq (tgt := 957) hC dL_law_572 dL_law_573 rfl rfl hr2 ?_
      exact hgo _ _ _ _ hI1 hma1 hmb1 (by rw [hp]; exact hkc) (by rw [hp]; exact hks)
    refine x_tab1 (v := 11) (off := 545) (tgt := 578) hC dL_law_33 (by decide) rfl hopr (okT ma 0) (fun hq11 _ => ?_) (fun hq11 _ => ?_)
    · refine x_aload_n hC dL_law_578 rfl 2 rfl ?_
      refine x_aload_n hC dL_law_579 rfl 1 rfl ?_
      refine x_iload_n hC dL_law_580 rfl 0 rfl ?_
      refine x_iconst hC dL_law_581 rfl ?_
      refine x_iadd hC dL_law_582 rfl ?_
      refine x_scr hC dL_law_583 rfl hX hsc (rg_wr _) (by unfold wr; omega) ?_
      refine x_aload_n hC dL_law_584 rfl 1 rfl ?_
      refine x_iload_n hC dL_law_585 rfl 0 rfl ?_
      refine x_iconst hC dL_law_586 rfl ?_
      refine x_iadd hC dL_law_587 rfl ?_
      refine x_scr hC dL_law_588 rfl hX hsc (rg_wr _) (by unfold wr; omega) ?_
      refine x_aload_n hC dL_law_589 rfl 1 rfl ?_
      refine x_iload_n hC dL_law_590 rfl 0 rfl ?_
      refine x_iconst hC dL_law_591 rfl ?_
      refine x_iadd hC dL_law_592 rfl ?_
      refine x_scr hC dL_law_593 rfl hX hsc (rg_wr _) (by unfold wr; omega) ?_
      refine x_aload_n hC dL_law_594 rfl 1 rfl ?_
      refine x_iload_n hC dL_law_595 rfl 0 rfl ?_
      refine x_iconst hC dL_law_596 rfl ?_
      refine x_iadd hC dL_law_597 rfl ?_
      refine x_scr hC dL_law_598 rfl hX hsc (rg_wr _) (by unfold wr; omega) ?_
      obtain ⟨r0, ma1, mb1, e1, e2, hI1, hp⟩ := h_missed (xs (wr (i + 1)).toNat).toInt (rg_tI _) (xs (wr (i + 2)).toNat).toInt (rg_tI _) (xs (wr (i + 3)).toNat).toInt (rg_tI _) (xs (wr (i + 4)).toNat).toInt (rg_tI _) ma mb hI hma hmb
      refine x_callV1 (kc2 := kc) (ks2 := ks) (k := 0) (As := [iV (xs (wr (i + 1)).toNat).toInt, iV (xs (wr (i + 2)).toNat).toInt, iV (xs (wr (i + 3)).toNat).toInt, iV (xs (wr (i + 4)).toNat).toInt]) (rest := []) (K := fun r m => some (r, m)) (Q := fun r m => r = r0 ∧ m = ma1) hC dL_law_599 rfl hma (fun _ _ h => T_X11_missed b _ ma (xs (wr (i + 1)).toNat).toInt (rg_tI _) (xs (wr (i + 2)).toNat).toInt (rg_tI _) (xs (wr (i + 3)).toNat).toInt (rg_tI _) (xs (wr (i + 4)).toNat).toInt (rg_tI _) h) mlL_63 vlX11_missed rfl (by decide) rfl rfl (Nat.le_of_ble_eq_true rfl) (by decide) (by decide) (Nat.zero_add _).symm (Nat.zero_add _).symm (by rw [e1]; exact ⟨rfl, rfl⟩) (fun r1 m1 hr1 hma1 hF => ?_)
      obtain ⟨rfl, rfl⟩ := hF
      refine x_swap ?_
      refine x_aload_n hC dL_law_602 rfl 3 rfl ?_
      refine x_aload_n hC dL_law_603 rfl 1 rfl ?_
      refine x_iload_n hC dL_law_604 rfl 0 rfl ?_
      refine x_iconst hC dL_law_605 rfl ?_
      refine x_iadd hC dL_law_606 rfl ?_
      refine x_scr hC dL_law_607 rfl hX hsc (rg_wr _) (by unfold wr; omega) ?_
      refine x_aload_n hC dL_law_608 rfl 1 rfl ?_
      refine x_iload_n hC dL_law_609 rfl 0 rfl ?_
      refine x_iconst hC dL_law_610 rfl ?_
      refine x_iadd hC dL_law_611 rfl ?_
      refine x_scr hC dL_law_612 rfl hX hsc (rg_wr _) (by unfold wr; omega) ?_
      refine x_aload_n hC dL_law_613 rfl 1 rfl ?_
      refine x_iload_n hC dL_law_614 rfl 0 rfl ?_
      refine x_iconst hC dL_law_615 rfl ?_
      refine x_iadd hC dL_law_616 rfl ?_
      refine x_scr hC dL_law_617 rfl hX hsc (rg_wr _) (by unfold wr; omega) ?_
      refine x_aload_n hC dL_law_618 rfl 1 rfl ?_
      refine x_iload_n hC dL_law_619 rfl 0 rfl ?_
      refine x_iconst hC dL_law_620 rfl ?_
      refine x_iadd hC dL_law_621 rfl ?_
      refine x_scr hC dL_law_622 rfl hX hsc (rg_wr _) (by unfold wr; omega) ?_
      refine x_callV1 (kc2 := kc) (ks2 := ks) (k := 54) (As := [iV (xs (wr (i + 1)).toNat).toInt, iV (xs (wr (i + 2)).toNat).toInt, iV (xs (wr (i + 3)).toNat).toInt, iV (xs (wr (i + 4)).toNat).toInt]) (rest := [iV r1]) (K := fun r m => some (r, m)) (Q := fun r m => r = r1 ∧ m = mb1) hC dL_law_623 rfl hmb (fun _ _ h => T_X12_missed b _ mb (xs (wr (i + 1)).toNat).toInt (rg_tI _) (xs (wr (i + 2)).toNat).toInt (rg_tI _) (xs (wr (i + 3)).toNat).toInt (rg_tI _) (xs (wr (i + 4)).toNat).toInt (rg_tI _) h) mlL_67 vlX12_missed rfl (by decide) rfl rfl (Nat.le_of_ble_eq_true rfl) (by decide) (by decide) (Nat.zero_add _).symm (Nat.zero_add _).symm (by rw [e2]; exact ⟨rfl, rfl⟩) (fun r2 m2 hr2 hmb1 hF => ?_)
      obtain ⟨rfl, rfl⟩ := hF
      refine x_swap ?_
      refine l_eq (tgt := 957) hC dL_law_626 rfl ?_
      exact hgo _ _ _ _ hI1 hma1 hmb1 (by rw [hp]; exact hkc) (by rw [hp]; exact hks)
    refine x_tab1 (v := 12) (off := 598) (tgt := 631) hC dL_law_33 (by decide) rfl hopr (okT ma 0) (fun hq12 _ => ?_) (fun hq12 _ => ?_)
    · refine x_aload_n hC dL_law_631 rfl 2 rfl ?_
      refine x_aload_n hC dL_law_632 rfl 1 rfl ?_
      refine x_iload_n hC dL_law_633 rfl 0 rfl ?_
      refine x_iconst hC dL_law_634 rfl ?_
      refine x_iadd hC dL_law_635 rfl ?_
      refine x_scr hC dL_law_636 rfl hX hsc (rg_wr _) (by unfold wr; omega) ?_
      refine x_aload_n hC dL_law_637 rfl 1 rfl ?_
      refine x_iload_n hC dL_law_638 rfl 0 rfl ?_
      refine x_iconst hC dL_law_639 rfl ?_
      refine x_iadd hC dL_law_640 rfl ?_
      refine x_scr hC dL_law_641 rfl hX hsc (rg_wr _) (by unfold wr; omega) ?_
      obtain ⟨kc1, ks1, r0, ma1, mb1, e1, e2, hI1, hp1, hp2⟩ := h_soonest (xs (wr (i + 1)).toNat).toInt (rg_tI _) (xs (wr (i + 2)).toNat).toInt (rg_tI _) ma mb hI hma hmb
      obtain ⟨kc2, rfl⟩ : ∃ z, kc = kc1 + z := ⟨kc - kc1, by omega⟩
      obtain ⟨ks2, rfl⟩ : ∃ z, ks = ks1 + z := ⟨ks - ks1, by omega⟩
      refine x_callV1 (kc2 := kc2) (ks2 := ks2) (k := 0) (As := [iV (xs (wr (i + 1)).toNat).toInt, iV (xs (wr (i + 2)).toNat).toInt]) (rest := []) (K := fun r m => some (r, m)) (Q := fun r m => r = r0 ∧ m = ma1) hC dL_law_642 rfl hma (fun _ _ h => T_X11_soonest b _ ma kc1 ks1 (xs (wr (i + 1)).toNat).toInt (rg_tI _) (xs (wr (i + 2)).toNat).toInt (rg_tI _) h) mlL_68 vlX11_soonest rfl (by decide) rfl rfl (Nat.le_of_ble_eq_true rfl) (by decide) (by decide) rfl rfl (by rw [e1]; exact ⟨rfl, rfl⟩) (fun r1 m1 hr1 hma1 hF => ?_)
      obtain ⟨rfl, rfl⟩ := hF
      refine x_swap ?_
      refine x_aload_n hC dL_law_645 rfl 3 rfl ?_
      refine x_aload_n hC dL_law_646 rfl 1 rfl ?_
      refine x_iload_n hC dL_law_647 rfl 0 rfl ?_
      refine x_iconst hC dL_law_648 rfl ?_
      refine x_iadd hC dL_law_649 rfl ?_
      refine x_scr hC dL_law_650 rfl hX hsc (rg_wr _) (by unfold wr; omega) ?_
      refine x_aload_n hC dL_law_651 rfl 1 rfl ?_
      refine x_iload_n hC dL_law_652 rfl 0 rfl ?_
      refine x_iconst hC dL_law_653 rfl ?_
      refine x_iadd hC dL_law_654 rfl ?_
      refine x_scr hC dL_law_655 rfl hX hsc (rg_wr _) (by unfold wr; omega) ?_
      refine x_callV1 (kc2 := kc2) (ks2 := ks2) (k := 54) (As := [iV (xs (wr (i + 1)).toNat).toInt, iV (xs (wr (i + 2)).toNat).toInt]) (rest := [iV r1]) (K := fun r m => some (r, m)) (Q := fun r m => r = r1 ∧ m = mb1) hC dL_law_656 rfl hmb (fun _ _ h => T_X12_soonest b _ mb (xs (wr (i + 1)).toNat).toInt (rg_tI _) (xs (wr (i + 2)).toNat).toInt (rg_tI _) h) mlL_71 vlX12_soonest rfl (by decide) rfl rfl (Nat.le_of_ble_eq_true rfl) (by decide) (by decide) (Nat.zero_add _).symm (Nat.zero_add _).symm (by rw [e2]; exact ⟨rfl, rfl⟩) (fun r2 m2 hr2 hmb1 hF => ?_)
      obtain ⟨rfl, rfl⟩ := hF
      refine x_swap ?_
      refine l_eq (tgt := 957) hC dL_law_659 rfl ?_
      dsimp only at hp1 hp2
      exact hgo _ _ kc2 ks2 hI1 hma1 hmb1 (by omega) (by omega)
    refine x_tab1 (v := 13) (off := 631) (tgt := 664) hC dL_law_33 (by decide) rfl hopr (okT ma 0) (fun hq13 _ => ?_) (fun hq13 _ => ?_)
    · refine x_aload_n hC dL_law_664 rfl 2 rfl ?_
      refine x_aload_n hC dL_law_665 rfl 1 rfl ?_
      refine x_iload_n hC dL_law_666 rfl 0 rfl ?_
      refine x_iconst hC dL_law_667 rfl ?_
      refine x_iadd hC dL_law_668 rfl ?_
      refine x_scr hC dL_law_669 rfl hX hsc (rg_wr _) (by unfold wr; omega) ?_
      refine x_aload_n hC dL_law_670 rfl 1 rfl ?_
      refine x_iload_n hC dL_law_671 rfl 0 rfl ?_
      refine x_iconst hC dL_law_672 rfl ?_
      refine x_iadd hC dL_law_673 rfl ?_
      refine x_scr hC dL_law_674 rfl hX hsc (rg_wr _) (by unfold wr; omega) ?_
      refine x_aload_n hC dL_law_675 rfl 1 rfl ?_
      refine x_iload_n hC dL_law_676 rfl 0 rfl ?_
      refine x_iconst hC dL_law_677 rfl ?_
      refine x_iadd hC dL_law_678 rfl ?_
      refine x_scr hC dL_law_679 rfl hX hsc (rg_wr _) (by unfold wr; omega) ?_
      obtain ⟨r0, ma1, mb1, e1, e2, hI1, hp⟩ := h_byRules (xs (wr (i + 1)).toNat).toInt (rg_tI _) (xs (wr (i + 2)).toNat).toInt (rg_tI _) (xs (wr (i + 3)).toNat).toInt (rg_tI _) ma mb hI hma hmb
      refine x_callV1 (kc2 := kc) (ks2 := ks) (k := 0) (As := [iV (xs (wr (i + 1)).toNat).toInt, iV (xs (wr (i + 2)).toNat).toInt, iV (xs (wr (i + 3)).toNat).toInt]) (rest := []) (K := fun r m => some (r, m)) (Q := fun r m => r = r0 ∧ m = ma1) hC dL_law_680 rfl hma (fun _ _ h => T_X11_byRules b _ ma (xs (wr (i + 1)).toNat).toInt (rg_tI _) (xs (wr (i + 2)).toNat).toInt (rg_tI _) (xs (wr (i + 3)).toNat).toInt (rg_tI _) h) mlL_72 vlX11_byRules rfl (by decide) rfl rfl (Nat.le_of_ble_eq_true rfl) (by decide) (by decide) (Nat.zero_add _).symm (Nat.zero_add _).symm (by rw [e1]; exact ⟨rfl, rfl⟩) (fun r1 m1 hr1 hma1 hF => ?_)
      obtain ⟨rfl, rfl⟩ := hF
      refine x_swap ?_
      refine x_aload_n hC dL_law_683 rfl 3 rfl ?_
      refine x_aload_n hC dL_law_684 rfl 1 rfl ?_
      refine x_iload_n hC dL_law_685 rfl 0 rfl ?_
      refine x_iconst hC dL_law_686 rfl ?_
      refine x_iadd hC dL_law_687 rfl ?_
      refine x_scr hC dL_law_688 rfl hX hsc (rg_wr _) (by unfold wr; omega) ?_
      refine x_aload_n hC dL_law_689 rfl 1 rfl ?_
      refine x_iload_n hC dL_law_690 rfl 0 rfl ?_
      refine x_iconst hC dL_law_691 rfl ?_
      refine x_iadd hC dL_law_692 rfl ?_
      refine x_scr hC dL_law_693 rfl hX hsc (rg_wr _) (by unfold wr; omega) ?_
      refine x_aload_n hC dL_law_694 rfl 1 rfl ?_
      refine x_iload_n hC dL_law_695 rfl 0 rfl ?_
      refine x_iconst hC dL_law_696 rfl ?_
      refine x_iadd hC dL_law_697 rfl ?_
      refine x_scr hC dL_law_698 rfl hX hsc (rg_wr _) (by unfold wr; omega) ?_
      refine x_callV1 (kc2 := kc) (ks2 := ks) (k := 54) (As := [iV (xs (wr (i + 1)).toNat).toInt, iV (xs (wr (i + 2)).toNat).toInt, iV (xs (wr (i + 3)).toNat).toInt]) (rest := [iV r1]) (K := fun r m => some (r, m)) (Q := fun r m => r = r1 ∧ m = mb1) hC dL_law_699 rfl hmb (fun _ _ h => T_X12_byRules b _ mb (xs (wr (i + 1)).toNat).toInt (rg_tI _) (xs (wr (i + 2)).toNat).toInt (rg_tI _) (xs (wr (i + 3)).toNat).toInt (rg_tI _) h) mlL_75 vlX12_byRules rfl (by decide) rfl rfl (Nat.le_of_ble_eq_true rfl) (by decide) (by decide) (Nat.zero_add _).symm (Nat.zero_add _).symm (by rw [e2]; exact ⟨rfl, rfl⟩) (fun r2 m2 hr2 hmb1 hF => ?_)
      obtain ⟨rfl, rfl⟩ := hF
      refine x_swap ?_
      refine l_eq (tgt := 957) hC dL_law_702 rfl ?_
      exact hgo _ _ _ _ hI1 hma1 hmb1 (by rw [hp]; exact hkc) (by rw [hp]; exact hks)
    refine x_tab1 (v := 14) (off := 674) (tgt := 707) hC dL_law_33 (by decide) rfl hopr (okT ma 0) (fun hq14 _ => ?_) (fun hq14 _ => ?_)
    · refine x_aload_n hC dL_law_707 rfl 2 rfl ?_
      refine x_aload_n hC dL_law_708 rfl 1 rfl ?_
      refine x_iload_n hC dL_law_709 rfl 0 rfl ?_
      refine x_iconst hC dL_law_710 rfl ?_
      refine x_iadd hC dL_law_711 rfl ?_
      refine x_scr hC dL_law_712 rfl hX hsc (rg_wr _) (by unfold wr; omega) ?_
      refine x_aload_n hC dL_law_713 rfl 1 rfl ?_
      refine x_iload_n hC dL_law_714 rfl 0 rfl ?_
      refine x_iconst hC dL_law_715 rfl ?_
      refine x_iadd hC dL_law_716 rfl ?_
      refine x_scr hC dL_law_717 rfl hX hsc (rg_wr _) (by unfold wr; omega) ?_
      refine x_aload_n hC dL_law_718 rfl 1 rfl ?_
      refine x_iload_n hC dL_law_719 rfl 0 rfl ?_
      refine x_iconst hC dL_law_720 rfl ?_
      refine x_iadd hC dL_law_721 rfl ?_
      refine x_scr hC dL_law_722 rfl hX hsc (rg_wr _) (by unfold wr; omega) ?_
      obtain ⟨r0, ma1, mb1, e1, e2, hI1, hp⟩ := h_table (xs (wr (i + 1)).toNat).toInt (rg_tI _) (xs (wr (i + 2)).toNat).toInt (rg_tI _) (xs (wr (i + 3)).toNat).toInt (rg_tI _) ma mb hI hma hmb
      refine x_callV1 (kc2 := kc) (ks2 := ks) (k := 0) (As := [iV (xs (wr (i + 1)).toNat).toInt, iV (xs (wr (i + 2)).toNat).toInt, iV (xs (wr (i + 3)).toNat).toInt]) (rest := []) (K := fun r m => some (r, m)) (Q := fun r m => r = r0 ∧ m = ma1) hC dL_law_723 rfl hma (fun _ _ h => T_X11_table b _ ma (xs (wr (i + 1)).toNat).toInt (rg_tI _) (xs (wr (i + 2)).toNat).toInt (rg_tI _) (xs (wr (i + 3)).toNat).toInt (rg_tI _) h) mlL_76 vlX11_table rfl (by decide) rfl rfl (Nat.le_of_ble_eq_true rfl) (by decide) (by decide) (Nat.zero_add _).symm (Nat.zero_add _).symm (by rw [e1]; exact ⟨rfl, rfl⟩) (fun r1 m1 hr1 hma1 hF => ?_)
      obtain ⟨rfl, rfl⟩ := hF
      refine x_swap ?_
      refine x_aload_n hC dL_law_726 rfl 3 rfl ?_
      refine x_aload_n hC dL_law_727 rfl 1 rfl ?_
      refine x_iload_n hC dL_law_728 rfl 0 rfl ?_
      refine x_iconst hC dL_law_729 rfl ?_
      refine x_iadd hC dL_law_730 rfl ?_
      refine x_scr hC dL_law_731 rfl hX hsc (rg_wr _) (by unfold wr; omega) ?_
      refine x_aload_n hC dL_law_732 rfl 1 rfl ?_
      refine x_iload_n hC dL_law_733 rfl 0 rfl ?_
      refine x_iconst hC dL_law_734 rfl ?_
      refine x_iadd hC dL_law_735 rfl ?_
      refine x_scr hC dL_law_736 rfl hX hsc (rg_wr _) (by unfold wr; omega) ?_
      refine x_aload_n hC dL_law_737 rfl 1 rfl ?_
      refine x_iload_n hC dL_law_738 rfl 0 rfl ?_
      refine x_iconst hC dL_law_739 rfl ?_
      refine x_iadd hC dL_law_740 rfl ?_
      refine x_scr hC dL_law_741 rfl hX hsc (rg_wr _) (by unfold wr; omega) ?_
      refine x_callV1 (kc2 := kc) (ks2 := ks) (k := 54) (As := [iV (xs (wr (i + 1)).toNat).toInt, iV (xs (wr (i + 2)).toNat).toInt, iV (xs (wr (i + 3)).toNat).toInt]) (rest := [iV r1]) (K := fun r m => some (r, m)) (Q := fun r m => r = r1 ∧ m = mb1) hC dL_law_742 rfl hmb (fun _ _ h => T_X12_table b _ mb (xs (wr (i + 1)).toNat).toInt (rg_tI _) (xs (wr (i + 2)).toNat).toInt (rg_tI _) (xs (wr (i + 3)).toNat).toInt (rg_tI _) h) mlL_79 vlX12_table rfl (by decide) rfl rfl (Nat.le_of_ble_eq_true rfl) (by decide) (by decide) (Nat.zero_add _).symm (Nat.zero_add _).symm (by rw [e2]; exact ⟨rfl, rfl⟩) (fun r2 m2 hr2 hmb1 hF => ?_)
      obtain ⟨rfl, rfl⟩ := hF
      refine x_swap ?_
      refine l_eq (tgt := 957) hC dL_law_745 rfl ?_
      exact hgo _ _ _ _ hI1 hma1 hmb1 (by rw [hp]; exact hkc) (by rw [hp]; exact hks)
    refine x_tab1 (v := 15) (off := 717) (tgt := 750) hC dL_law_33 (by decide) rfl hopr (okT ma 0) (fun hq15 _ => ?_) (fun hq15 _ => ?_)
    · refine x_aload_n hC dL_law_750 rfl 2 rfl ?_
      refine x_aload_n hC dL_law_751 rfl 1 rfl ?_
      refine x_iload_n hC dL_law_752 rfl 0 rfl ?_
      refine x_iconst hC dL_law_753 rfl ?_
      refine x_iadd hC dL_law_754 rfl ?_
      refine x_scr hC dL_law_755 rfl hX hsc (rg_wr _) (by unfold wr; omega) ?_
      refine x_aload_n hC dL_law_756 rfl 1 rfl ?_
      refine x_iload_n hC dL_law_757 rfl 0 rfl ?_
      refine x_iconst hC dL_law_758 rfl ?_
      refine x_iadd hC dL_law_759 rfl ?_
      refine x_scr hC dL_law_760 rfl hX hsc (rg_wr _) (by unfold wr; omega) ?_
      obtain ⟨r0, ma1, mb1, e1, e2, hI1, hp⟩ := h_alike (xs (wr (i + 1)).toNat).toInt (rg_tI _) (xs (wr (i + 2)).toNat).toInt (rg_tI _) ma mb hI hma hmb
      refine x_callV1 (kc2 := kc) (ks2 := ks) (k := 0) (As := [iV (xs (wr (i + 1)).toNat).toInt, iV (xs (wr (i + 2)).toNat).toInt]) (rest := []) (K := fun r m => some (r, m)) (Q := fun r m => r = r0 ∧ m = ma1) hC dL_law_761 rfl hma (fun _ _ h => T_X11_alike b _ ma (xs (wr (i + 1)).toNat).toInt (rg_tI _) (xs (wr (i + 2)).toNat).toInt (rg_tI _) h) mlL_80 vlX11_alike rfl (by decide) rfl rfl (Nat.le_of_ble_eq_true rfl) (by decide) (by decide) (Nat.zero_add _).symm (Nat.zero_add _).symm (by rw [e1]; exact ⟨rfl, rfl⟩) (fun r1 m1 hr1 hma1 hF => ?_)
      obtain ⟨rfl, rfl⟩ := hF
      refine x_swap ?_
      refine x_aload_n hC dL_law_764 rfl 3 rfl ?_
      refine x_aload_n hC dL_law_765 rfl 1 rfl ?_
      refine x_iload_n hC dL_law_766 rfl 0 rfl ?_
      refine x_iconst hC dL_law_767 rfl ?_
      refine x_iadd hC dL_law_768 rfl ?_
      refine x_scr hC dL_law_769 rfl hX hsc (rg_wr _) (by unfold wr; omega) ?_
      refine x_aload_n hC dL_law_770 rfl 1 rfl ?_
      refine x_iload_n hC dL_law_771 rfl 0 rfl ?_
      refine x_iconst hC dL_law_772 rfl ?_
      refine x_iadd hC dL_law_773 rfl ?_
      refine x_scr hC dL_law_774 rfl hX hsc (rg_wr _) (by unfold wr; omega) ?_
      refine x_callV1 (kc2 := kc) (ks2 := ks) (k := 54) (As := [iV (xs (wr (i + 1)).toNat).toInt, iV (xs (wr (i + 2)).toNat).toInt]) (rest := [iV r1]) (K := fun r m => some (r, m)) (Q := fun r m => r = r1 ∧ m = mb1) hC dL_law_775 rfl hmb (fun _ _ h => T_X12_alike b _ mb (xs (wr (i + 1)).toNat).toInt (rg_tI _) (xs (wr (i + 2)).toNat).toInt (rg_tI _) h) mlL_83 vlX12_alike rfl (by decide) rfl rfl (Nat.le_of_ble_eq_true rfl) (by decide) (by decide) (Nat.zero_add _).symm (Nat.zero_add _).symm (by rw [e2]; exact ⟨rfl, rfl⟩) (fun r2 m2 hr2 hmb1 hF => ?_)
      obtain ⟨rfl, rfl⟩ := hF
      refine x_swap ?_
      refine l_eq (tgt := 957) hC dL_law_778 rfl ?_
      exact hgo _ _ _ _ hI1 hma1 hmb1 (by rw [hp]; exact hkc) (by rw [hp]; exact hks)
    refine x_tab1 (v := 16) (off := 750) (tgt := 783) hC dL_law_33 (by decide) rfl hopr (okT ma 0) (fun hq16 _ => ?_) (fun hq16 _ => ?_)
    · refine x_aload_n hC dL_law_783 rfl 2 rfl ?_
      refine x_aload_n hC dL_law_784 rfl 1 rfl ?_
      refine x_iload_n hC dL_law_785 rfl 0 rfl ?_
      refine x_iconst hC dL_law_786 rfl ?_
      refine x_iadd hC dL_law_787 rfl ?_
      refine x_scr hC dL_law_788 rfl hX hsc (rg_wr _) (by unfold wr; omega) ?_
      obtain ⟨r0, ma1, mb1, e1, e2, hI1, hp⟩ := h_seed (xs (wr (i + 1)).toNat).toInt (rg_tI _) ma mb hI hma hmb
      refine x_callV3 (kc2 := kc) (ks2 := ks) (k := 0) (As := [iV (xs (wr (i + 1)).toNat).toInt]) (rest := []) (K := fun r m => some (r, m)) (Q := fun r m => r = r0 ∧ m = ma1) hC dL_law_789 rfl hma (fun _ _ h => T_X11_seed b _ ma (xs (wr (i + 1)).toNat).toInt (rg_tI _) h) mlL_84 vlX11_seed rfl (by decide) rfl rfl (Nat.le_of_ble_eq_true rfl) (by decide) (by decide) (Nat.zero_add _).symm (Nat.zero_add _).symm (by rw [e1]; exact ⟨rfl, rfl⟩) (fun r1 m1 hr1 hma1 hF => ?_)
      obtain ⟨rfl, rfl⟩ := hF
      refine x_swap ?_
      refine x_aload_n hC dL_law_792 rfl 3 rfl ?_
      refine x_aload_n hC dL_law_793 rfl 1 rfl ?_
      refine x_iload_n hC dL_law_794 rfl 0 rfl ?_
      refine x_iconst hC dL_law_795 rfl ?_
      refine x_iadd hC dL_law_796 rfl ?_
      refine x_scr hC dL_law_797 rfl hX hsc (rg_wr _) (by unfold wr; omega) ?_
      refine x_callV3 (kc2 := kc) (ks2 := ks) (k := 54) (As := [iV (xs (wr (i + 1)).toNat).toInt]) (rest := [iV r1]) (K := fun r m => some (r, m)) (Q := fun r m => r = r1 ∧ m = mb1) hC dL_law_798 rfl hmb (fun _ _ h => T_X12_seed b _ mb (xs (wr (i + 1)).toNat).toInt (rg_tI _) h) mlL_88 vlX12_seed rfl (by decide) rfl rfl (Nat.le_of_ble_eq_true rfl) (by decide) (by decide) (Nat.zero_add _).symm (Nat.zero_add _).symm (by rw [e2]; exact ⟨rfl, rfl⟩) (fun r2 m2 hr2 hmb1 hF => ?_)
      obtain ⟨rfl, rfl⟩ := hF
      refine x_swap ?_
      refine l_eq (tgt := 957) hC dL_law_801 rfl ?_
      exact hgo _ _ _ _ hI1 hma1 hmb1 (by rw [hp]; exact hkc) (by rw [hp]; exact hks)
    refine x_tab1 (v := 17) (off := 773) (tgt := 806) hC dL_law_33 (by decide) rfl hopr (okT ma 0) (fun hq17 _ => ?_) (fun hq17 _ => ?_)
    · refine x_aload_n hC dL_law_806 rfl 2 rfl ?_
      refine x_aload_n hC dL_law_807 rfl 1 rfl ?_
      refine x_iload_n hC dL_law_808 rfl 0 rfl ?_
      refine x_iconst hC dL_law_809 rfl ?_
      refine x_iadd hC dL_law_810 rfl ?_
      refine x_scr hC dL_law_811 rfl hX hsc (rg_wr _) (by unfold wr; omega) ?_
      obtain ⟨r0, ma1, mb1, e1, e2, hI1, hp⟩ := h_draw (xs (wr (i + 1)).toNat).toInt (rg_tI _) ma mb hI hma hmb
      refine x_callV1 (kc2 := kc) (ks2 := ks) (k := 0) (As := [iV (xs (wr (i + 1)).toNat).toInt]) (rest := []) (K := fun r m => some (r, m)) (Q := fun r m => r = r0 ∧ m = ma1) hC dL_law_812 rfl hma (fun _ _ h => T_X11_draw b _ ma (xs (wr (i + 1)).toNat).toInt (rg_tI _) h) mlL_89 vlX11_draw rfl (by decide) rfl rfl (Nat.le_of_ble_eq_true rfl) (by decide) (by decide) (Nat.zero_add _).symm (Nat.zero_add _).symm (by rw [e1]; exact ⟨rfl, rfl⟩) (fun r1 m1 hr1 hma1 hF => ?_)
      obtain ⟨rfl, rfl⟩ := hF
      refine x_swap ?_
      refine x_aload_n hC dL_law_815 rfl 3 rfl ?_
      refine x_aload_n hC dL_law_816 rfl 1 rfl ?_
      refine x_iload_n hC dL_law_817 rfl 0 rfl ?_
      refine x_iconst hC dL_law_818 rfl ?_
      refine x_iadd hC dL_law_819 rfl ?_
      refine x_scr hC dL_law_820 rfl hX hsc (rg_wr _) (by unfold wr; omega) ?_
      refine x_callV1 (kc2 := kc) (ks2 := ks) (k := 54) (As := [iV (xs (wr (i + 1)).toNat).toInt]) (rest := [iV r1]) (K := fun r m => some (r, m)) (Q := fun r m => r = r1 ∧ m = mb1) hC dL_law_821 rfl hmb (fun _ _ h => T_X12_draw b _ mb (xs (wr (i + 1)).toNat).toInt (rg_tI _) h) mlL_92 vlX12_draw rfl (by decide) rfl rfl (Nat.le_of_ble_eq_true rfl) (by decide) (by decide) (Nat.zero_add _).symm (Nat.zero_add _).symm (by rw [e2]; exact ⟨rfl, rfl⟩) (fun r2 m2 hr2 hmb1 hF => ?_)
      obtain ⟨rfl, rfl⟩ := hF
      refine x_swap ?_
      refine l_eq (tgt := 957) hC dL_law_824 rfl ?_
      exact hgo _ _ _ _ hI1 hma1 hmb1 (by rw [hp]; exact hkc) (by rw [hp]; exact hks)
    refine x_tab1 (v := 18) (off := 796) (tgt := 829) hC dL_law_33 (by decide) rfl hopr (okT ma 0) (fun hq18 _ => ?_) (fun hq18 _ => ?_)
    · refine x_aload_n hC dL_law_829 rfl 2 rfl ?_
      obtain ⟨r0, ma1, mb1, e1, e2, hI1, hp⟩ := h_keep ma mb hI hma hmb
      refine x_callV1 (kc2 := kc) (ks2 := ks) (k := 0) (As := []) (rest := []) (K := fun r m => some (r, m)) (Q := fun r m => r = r0 ∧ m = ma1) hC dL_law_830 rfl hma (fun _ _ h => T_X11_keep b _ ma  h) mlL_93 vlX11_keep rfl (by decide) rfl rfl (Nat.le_of_ble_eq_true rfl) (by decide) (by decide) (Nat.zero_add _).symm (Nat.zero_add _).symm (by rw [e1]; exact ⟨rfl, rfl⟩) (fun r1 m1 hr1 hma1 hF => ?_)
      obtain ⟨rfl, rfl⟩ := hF
      refine x_swap ?_
      refine x_aload_n hC dL_law_833 rfl 3 rfl ?_
      refine x_callV1 (kc2 := kc) (ks2 := ks) (k := 54) (As := []) (rest := [iV r1]) (K := fun r m => some (r, m)) (Q := fun r m => r = r1 ∧ m = mb1) hC dL_law_834 rfl hmb (fun _ _ h => T_X12_keep b _ mb  h) mlL_97 vlX12_keep rfl (by decide) rfl rfl (Nat.le_of_ble_eq_true rfl) (by decide) (by decide) (Nat.zero_add _).symm (Nat.zero_add _).symm (by rw [e2]; exact ⟨rfl, rfl⟩) (fun r2 m2 hr2 hmb1 hF => ?_)
      obtain ⟨rfl, rfl⟩ := hF
      refine x_swap ?_
      refine l_eq (tgt := 957) hC dL_law_837 rfl ?_
      exact hgo _ _ _ _ hI1 hma1 hmb1 (by rw [hp]; exact hkc) (by rw [hp]; exact hks)
    refine x_tab1 (v := 19) (off := 809) (tgt := 842) hC dL_law_33 (by decide) rfl hopr (okT ma 0) (fun hq19 _ => ?_) (fun hq19 _ => ?_)
    · refine x_aload_n hC dL_law_842 rfl 2 rfl ?_
      obtain ⟨r0, ma1, mb1, e1, e2, hI1, hp⟩ := h_undo ma mb hI hma hmb
      refine x_callV3 (kc2 := kc) (ks2 := ks) (k := 0) (As := []) (rest := []) (K := fun r m => some (r, m)) (Q := fun r m => r = r0 ∧ m = ma1) hC dL_law_843 rfl hma (fun _ _ h => T_X11_undo b _ ma  h) mlL_98 vlX11_undo rfl (by decide) rfl rfl (Nat.le_of_ble_eq_true rfl) (by decide) (by decide) (Nat.zero_add _).symm (Nat.zero_add _).symm (by rw [e1]; exact ⟨rfl, rfl⟩) (fun r1 m1 hr1 hma1 hF => ?_)
      obtain ⟨rfl, rfl⟩ := hF
      refine x_swap ?_
      refine x_aload_n hC dL_law_846 rfl 3 rfl ?_
      refine x_callV3 (kc2 := kc) (ks2 := ks) (k := 54) (As := []) (rest := [iV r1]) (K := fun r m => some (r, m)) (Q := fun r m => r = r1 ∧ m = mb1) hC dL_law_847 rfl hmb (fun _ _ h => T_X12_undo b _ mb  h) mlL_102 vlX12_undo rfl (by decide) rfl rfl (Nat.le_of_ble_eq_true rfl) (by decide) (by decide) (Nat.zero_add _).symm (Nat.zero_add _).symm (by rw [e2]; exact ⟨rfl, rfl⟩) (fun r2 m2 hr2 hmb1 hF => ?_)
      obtain ⟨rfl, rfl⟩ := hF
      refine x_swap ?_
      refine l_eq (tgt := 957) hC dL_law_850 rfl ?_
      exact hgo _ _ _ _ hI1 hma1 hmb1 (by rw [hp]; exact hkc) (by rw [hp]; exact hks)
    refine x_tab1 (v := 20) (off := 822) (tgt := 855) hC dL_law_33 (by decide) rfl hopr (okT ma 0) (fun hq20 _ => ?_) (fun hq20 _ => ?_)
    · refine x_aload_n hC dL_law_855 rfl 2 rfl ?_
      obtain ⟨r0, ma1, mb1, e1, e2, hI1, hp⟩ := h_quiet ma mb hI hma hmb
      refine x_callV1 (kc2 := kc) (ks2 := ks) (k := 0) (As := []) (rest := []) (K := fun r m => some (r, m)) (Q := fun r m => r = r0 ∧ m = ma1) hC dL_law_856 rfl hma (fun _ _ h => T_X11_quiet b _ ma  h) mlL_103 vlX11_quiet rfl (by decide) rfl rfl (Nat.le_of_ble_eq_true rfl) (by decide) (by decide) (Nat.zero_add _).symm (Nat.zero_add _).symm (by rw [e1]; exact ⟨rfl, rfl⟩) (fun r1 m1 hr1 hma1 hF => ?_)
      obtain ⟨rfl, rfl⟩ := hF
      refine x_swap ?_
      refine x_aload_n hC dL_law_859 rfl 3 rfl ?_
      refine x_callV1 (kc2 := kc) (ks2 := ks) (k := 54) (As := []) (rest := [iV r1]) (K := fun r m => some (r, m)) (Q := fun r m => r = r1 ∧ m = mb1) hC dL_law_860 rfl hmb (fun _ _ h => T_X12_quiet b _ mb  h) mlL_106 vlX12_quiet rfl (by decide) rfl rfl (Nat.le_of_ble_eq_true rfl) (by decide) (by decide) (Nat.zero_add _).symm (Nat.zero_add _).symm (by rw [e2]; exact ⟨rfl, rfl⟩) (fun r2 m2 hr2 hmb1 hF => ?_)
      obtain ⟨rfl, rfl⟩ := hF
      refine x_swap ?_
      refine l_eq (tgt := 957) hC dL_law_863 rfl ?_
      exact hgo _ _ _ _ hI1 hma1 hmb1 (by rw [hp]; exact hkc) (by rw [hp]; exact hks)
    refine x_tab1 (v := 21) (off := 835) (tgt := 868) hC dL_law_33 (by decide) rfl hopr (okT ma 0) (fun hq21 _ => ?_) (fun hq21 _ => ?_)
    · refine x_aload_n hC dL_law_868 rfl 2 rfl ?_
      refine x_aload_n hC dL_law_869 rfl 1 rfl ?_
      refine x_iload_n hC dL_law_870 rfl 0 rfl ?_
      refine x_iconst hC dL_law_871 rfl ?_
      refine x_iadd hC dL_law_872 rfl ?_
      refine x_scr hC dL_law_873 rfl hX hsc (rg_wr _) (by unfold wr; omega) ?_
      refine x_aload_n hC dL_law_874 rfl 1 rfl ?_
      refine x_iload_n hC dL_law_875 rfl 0 rfl ?_
      refine x_iconst hC dL_law_876 rfl ?_
      refine x_iadd hC dL_law_877 rfl ?_
      refine x_scr hC dL_law_878 rfl hX hsc (rg_wr _) (by unfold wr; omega) ?_
      obtain ⟨r0, ma1, mb1, e1, e2, hI1, hp⟩ := h_said (xs (wr (i + 1)).toNat).toInt (rg_tI _) (xs (wr (i + 2)).toNat).toInt (rg_tI _) ma mb hI hma hmb
      refine x_callV1 (kc2 := kc) (ks2 := ks) (k := 0) (As := [iV (xs (wr (i + 1)).toNat).toInt, iV (xs (wr (i + 2)).toNat).toInt]) (rest := []) (K := fun r m => some (r, m)) (Q := fun r m => r = r0 ∧ m = ma1) hC dL_law_879 rfl hma (fun _ _ h => T_X11_said b _ ma (xs (wr (i + 1)).toNat).toInt (rg_tI _) (xs (wr (i + 2)).toNat).toInt (rg_tI _) h) mlL_107 vlX11_said rfl (by decide) rfl rfl (Nat.le_of_ble_eq_true rfl) (by decide) (by decide) (Nat.zero_add _).symm (Nat.zero_add _).symm (by rw [e1]; exact ⟨rfl, rfl⟩) (fun r1 m1 hr1 hma1 hF => ?_)
      obtain ⟨rfl, rfl⟩ := hF
      refine x_swap ?_
      refine x_aload_n hC dL_law_882 rfl 3 rfl ?_
      refine x_aload_n hC dL_law_883 rfl 1 rfl ?_
      refine x_iload_n hC dL_law_884 rfl 0 rfl ?_
      refine x_iconst hC dL_law_885 rfl ?_
      refine x_iadd hC dL_law_886 rfl ?_
      refine x_scr hC dL_law_887 rfl hX hsc (rg_wr _) (by unfold wr; omega) ?_
      refine x_aload_n hC dL_law_888 rfl 1 rfl ?_
      refine x_iload_n hC dL_law_889 rfl 0 rfl ?_
      refine x_iconst hC dL_law_890 rfl ?_
      refine x_iadd hC dL_law_891 rfl ?_
      refine x_scr hC dL_law_892 rfl hX hsc (rg_wr _) (by unfold wr; omega) ?_
      refine x_callV1 (kc2 := kc) (ks2 := ks) (k := 54) (As := [iV (xs (wr (i + 1)).toNat).toInt, iV (xs (wr (i + 2)).toNat).toInt]) (rest := [iV r1]) (K := fun r m => some (r, m)) (Q := fun r m => r = r1 ∧ m = mb1) hC dL_law_893 rfl hmb (fun _ _ h => T_X12_said b _ mb (xs (wr (i + 1)).toNat).toInt (rg_tI _) (xs (wr (i + 2)).toNat).toInt (rg_tI _) h) mlL_110 vlX12_said rfl (by decide) rfl rfl (Nat.le_of_ble_eq_true rfl) (by decide) (by decide) (Nat.zero_add _).symm (Nat.zero_add _).symm (by rw [e2]; exact ⟨rfl, rfl⟩) (fun r2 m2 hr2 hmb1 hF => ?_)
      obtain ⟨rfl, rfl⟩ := hF
      refine x_swap ?_
      refine l_eq (tgt := 957) hC dL_law_896 rfl ?_
      exact hgo _ _ _ _ hI1 hma1 hmb1 (by rw [hp]; exact hkc) (by rw [hp]; exact hks)
    refine x_tab1 (v := 22) (off := 868) (tgt := 901) hC dL_law_33 (by decide) rfl hopr (okT ma 0) (fun hq22 _ => ?_) (fun hq22 _ => ?_)
    · refine x_aload_n hC dL_law_901 rfl 2 rfl ?_
      refine x_aload_n hC dL_law_902 rfl 1 rfl ?_
      refine x_iload_n hC dL_law_903 rfl 0 rfl ?_
      refine x_iconst hC dL_law_904 rfl ?_
      refine x_iadd hC dL_law_905 rfl ?_
      refine x_scr hC dL_law_906 rfl hX hsc (rg_wr _) (by unfold wr; omega) ?_
      refine x_aload_n hC dL_law_907 rfl 1 rfl ?_
      refine x_iload_n hC dL_law_908 rfl 0 rfl ?_
      refine x_iconst hC dL_law_909 rfl ?_
      refine x_iadd hC dL_law_910 rfl ?_
      refine x_scr hC dL_law_911 rfl hX hsc (rg_wr _) (by unfold wr; omega) ?_
      obtain ⟨r0, ma1, mb1, e1, e2, hI1, hp⟩ := h_check (xs (wr (i + 1)).toNat).toInt (rg_tI _) (xs (wr (i + 2)).toNat).toInt (rg_tI _) ma mb hI hma hmb
      refine x_callV1 (kc2 := kc) (ks2 := ks) (k := 0) (As := [iV (xs (wr (i + 1)).toNat).toInt, iV (xs (wr (i + 2)).toNat).toInt]) (rest := []) (K := fun r m => some (r, m)) (Q := fun r m => r = r0 ∧ m = ma1) hC dL_law_912 rfl hma (fun _ _ h => T_X11_check b _ ma (xs (wr (i + 1)).toNat).toInt (rg_tI _) (xs (wr (i + 2)).toNat).toInt (rg_tI _) h) mlL_111 vlX11_check rfl (by decide) rfl rfl (Nat.le_of_ble_eq_true rfl) (by decide) (by decide) (Nat.zero_add _).symm (Nat.zero_add _).symm (by rw [e1]; exact ⟨rfl, rfl⟩) (fun r1 m1 hr1 hma1 hF => ?_)
      obtain ⟨rfl, rfl⟩ := hF
      refine x_swap ?_
      refine x_aload_n hC dL_law_915 rfl 3 rfl ?_
      refine x_aload_n hC dL_law_916 rfl 1 rfl ?_
      refine x_iload_n hC dL_law_917 rfl 0 rfl ?_
      refine x_iconst hC dL_law_918 rfl ?_
      refine x_iadd hC dL_law_919 rfl ?_
      refine x_scr hC dL_law_920 rfl hX hsc (rg_wr _) (by unfold wr; omega) ?_
      refine x_aload_n hC dL_law_921 rfl 1 rfl ?_
      refine x_iload_n hC dL_law_922 rfl 0 rfl ?_
      refine x_iconst hC dL_law_923 rfl ?_
      refine x_iadd hC dL_law_924 rfl ?_
      refine x_scr hC dL_law_925 rfl hX hsc (rg_wr _) (by unfold wr; omega) ?_
      refine x_callV1 (kc2 := kc) (ks2 := ks) (k := 54) (As := [iV (xs (wr (i + 1)).toNat).toInt, iV (xs (wr (i + 2)).toNat).toInt]) (rest := [iV r1]) (K := fun r m => some (r, m)) (Q := fun r m => r = r1 ∧ m = mb1) hC dL_law_926 rfl hmb (fun _ _ h => T_X12_check b _ mb (xs (wr (i + 1)).toNat).toInt (rg_tI _) (xs (wr (i + 2)).toNat).toInt (rg_tI _) h) mlL_114 vlX12_check rfl (by decide) rfl rfl (Nat.le_of_ble_eq_true rfl) (by decide) (by decide) (Nat.zero_add _).symm (Nat.zero_add _).symm (by rw [e2]; exact ⟨rfl, rfl⟩) (fun r2 m2 hr2 hmb1 hF => ?_)
      obtain ⟨rfl, rfl⟩ := hF
      refine x_swap ?_
      refine l_eq (tgt := 957) hC dL_law_929 rfl ?_
      exact hgo _ _ _ _ hI1 hma1 hmb1 (by rw [hp]; exact hkc) (by rw [hp]; exact hks)
    refine x_tab1 (v := 23) (off := 901) (tgt := 934) hC dL_law_33 (by decide) rfl hopr (okT ma 0) (fun hq23 _ => ?_) (fun hq23 _ => ?_)
    · refine x_aload_n hC dL_law_934 rfl 2 rfl ?_
      refine x_aload_n hC dL_law_935 rfl 1 rfl ?_
      refine x_iload_n hC dL_law_936 rfl 0 rfl ?_
      refine x_iconst hC dL_law_937 rfl ?_
      refine x_iadd hC dL_law_938 rfl ?_
      refine x_scr hC dL_law_939 rfl hX hsc (rg_wr _) (by unfold wr; omega) ?_
      obtain ⟨r0, ma1, mb1, e1, e2, hI1, hp⟩ := h_count (xs (wr (i + 1)).toNat).toInt (rg_tI _) ma mb hI hma hmb
      refine x_callV1 (kc2 := kc) (ks2 := ks) (k := 0) (As := [iV (xs (wr (i + 1)).toNat).toInt]) (rest := []) (K := fun r m => some (r, m)) (Q := fun r m => r = r0 ∧ m = ma1) hC dL_law_940 rfl hma (fun _ _ h => T_X11_count b _ ma (xs (wr (i + 1)).toNat).toInt (rg_tI _) h) mlL_115 vlX11_count rfl (by decide) rfl rfl (Nat.le_of_ble_eq_true rfl) (by decide) (by decide) (Nat.zero_add _).symm (Nat.zero_add _).symm (by rw [e1]; exact ⟨rfl, rfl⟩) (fun r1 m1 hr1 hma1 hF => ?_)
      obtain ⟨rfl, rfl⟩ := hF
      refine x_swap ?_
      refine x_aload_n hC dL_law_943 rfl 3 rfl ?_
      refine x_aload_n hC dL_law_944 rfl 1 rfl ?_
      refine x_iload_n hC dL_law_945 rfl 0 rfl ?_
      refine x_iconst hC dL_law_946 rfl ?_
      refine x_iadd hC dL_law_947 rfl ?_
      refine x_scr hC dL_law_948 rfl hX hsc (rg_wr _) (by unfold wr; omega) ?_
      refine x_callV1 (kc2 := kc) (ks2 := ks) (k := 54) (As := [iV (xs (wr (i + 1)).toNat).toInt]) (rest := [iV r1]) (K := fun r m => some (r, m)) (Q := fun r m => r = r1 ∧ m = mb1) hC dL_law_949 rfl hmb (fun _ _ h => T_X12_count b _ mb (xs (wr (i + 1)).toNat).toInt (rg_tI _) h) mlL_118 vlX12_count rfl (by decide) rfl rfl (Nat.le_of_ble_eq_true rfl) (by decide) (by decide) (Nat.zero_add _).symm (Nat.zero_add _).symm (by rw [e2]; exact ⟨rfl, rfl⟩) (fun r2 m2 hr2 hmb1 hF => ?_)
      obtain ⟨rfl, rfl⟩ := hF
      refine x_swap ?_
      refine l_eq (tgt := 957) hC dL_law_952 rfl ?_
      exact hgo _ _ _ _ hI1 hma1 hmb1 (by rw [hp]; exact hkc) (by rw [hp]; exact hks)
    refine x_tabD (tgt := 957) [0, 1, 2, 3, 4, 5, 6, 7, 8, 9, 10, 11, 12, 13, 14, 15, 16, 17, 18, 19, 20, 21, 22, 23] hC dL_law_33 rfl hopr (by decide) (List.forall_mem_cons.mpr ⟨hq0, (List.forall_mem_cons.mpr ⟨hq1, (List.forall_mem_cons.mpr ⟨hq2, (List.forall_mem_cons.mpr ⟨hq3, (List.forall_mem_cons.mpr ⟨hq4, (List.forall_mem_cons.mpr ⟨hq5, (List.forall_mem_cons.mpr ⟨hq6, (List.forall_mem_cons.mpr ⟨hq7, (List.forall_mem_cons.mpr ⟨hq8, (List.forall_mem_cons.mpr ⟨hq9, (List.forall_mem_cons.mpr ⟨hq10, (List.forall_mem_cons.mpr ⟨hq11, (List.forall_mem_cons.mpr ⟨hq12, (List.forall_mem_cons.mpr ⟨hq13, (List.forall_mem_cons.mpr ⟨hq14, (List.forall_mem_cons.mpr ⟨hq15, (List.forall_mem_cons.mpr ⟨hq16, (List.forall_mem_cons.mpr ⟨hq17, (List.forall_mem_cons.mpr ⟨hq18, (List.forall_mem_cons.mpr ⟨hq19, (List.forall_mem_cons.mpr ⟨hq20, (List.forall_mem_cons.mpr ⟨hq21, (List.forall_mem_cons.mpr ⟨hq22, (List.forall_mem_cons.mpr ⟨hq23, (fun _ h => absurd h List.not_mem_nil)⟩)⟩)⟩)⟩)⟩)⟩)⟩)⟩)⟩)⟩)⟩)⟩)⟩)⟩)⟩)⟩)⟩)⟩)⟩)⟩)⟩)⟩)⟩)⟩) ?_
    exact hgo ma mb kc ks hI hma hmb hkc hks

theorem tw22 : Cond.classLink "OneWordLaw" 7 "OneWord" ∈ lw_tbl := List.mem_append_right _ (List.mem_of_getElem? (i := 22) (by decide +kernel))
theorem tw23 : Cond.instantiable "OneWord" 9 ∈ lw_tbl := List.mem_append_right _ (List.mem_of_getElem? (i := 23) (by decide +kernel))
theorem tw24 : Cond.methodLink "OneWordLaw" 9 yX11_init ∈ lw_tbl := List.mem_append_right _ (List.mem_of_getElem? (i := 24) (by decide +kernel))
theorem tw25 : Cond.instanceMethod yX11_init ∈ lw_tbl := List.mem_append_right _ (List.mem_of_getElem? (i := 25) (by decide +kernel))
theorem tw26 : Cond.code yX11_init prog_1_method_1_code 1 none ∈ lw_tbl := List.mem_append_right _ (List.mem_of_getElem? (i := 26) (by decide +kernel))
theorem tw1106 : Cond.classLink "OneWordLaw" 10 "OneWordModel" ∈ lw_tbl := List.mem_append_right _ (List.mem_of_getElem? (i := 1106) (by decide +kernel))
theorem tw1107 : Cond.instantiable "OneWordModel" 73 ∈ lw_tbl := List.mem_append_right _ (List.mem_of_getElem? (i := 1107) (by decide +kernel))
theorem tw1108 : Cond.methodLink "OneWordLaw" 12 yX12_init ∈ lw_tbl := List.mem_append_right _ (List.mem_of_getElem? (i := 1108) (by decide +kernel))
theorem tw1109 : Cond.instanceMethod yX12_init ∈ lw_tbl := List.mem_append_right _ (List.mem_of_getElem? (i := 1109) (by decide +kernel))
theorem tw1110 : Cond.code yX12_init prog_14_method_1_code 1 none ∈ lw_tbl := List.mem_append_right _ (List.mem_of_getElem? (i := 1110) (by decide +kernel))
theorem iiL_9 : (MLk RL 9 yX11_init cX11_init 1 none 0 ∨ NLk RL 9 yX11_init cX11_init 1 none 0) ∧ yX11_init.name = "<init>" ∧ Cond.instanceMethod yX11_init ∈ gtb := ⟨Or.inl ⟨mg tw24 rfl, mg tw1 rfl, mg tw26 rfl, by decide +kernel, by decide +kernel⟩, rfl, mg tw25 rfl⟩
theorem iiL_12 : (MLk RL 12 yX12_init cX12_init 1 none 0 ∨ NLk RL 12 yX12_init cX12_init 1 none 0) ∧ yX12_init.name = "<init>" ∧ Cond.instanceMethod yX12_init ∈ gtb := ⟨Or.inl ⟨mg tw1108 rfl, mg tw12 rfl, mg tw1110 rfl, by decide +kernel, by decide +kernel⟩, rfl, mg tw1109 rfl⟩
theorem dfX11 : ∀ (b : Bs) (j : Nat), j < 9 → defaultValue (tyX11 j) = fvN b 10 j (dflO 10 j) := by
  intro b j hj
  have : ∀ j, j < 9 → defaultValue (tyX11 j) = (if fty 10 j = 0 then iV 0 else .null) := by decide
  rw [this j hj]
  unfold fvN dflO
  by_cases h : fty 10 j = 0
  · rw [if_pos h, if_pos h, if_pos h]
  · rw [if_neg h, if_neg h, if_neg h]; rfl
theorem dfX12 : ∀ (b : Bs) (j : Nat), j < 73 → defaultValue (tyX12 j) = fvN b 11 j (dflO 11 j) := by
  intro b j hj
  have : ∀ j, j < 73 → defaultValue (tyX12 j) = (if fty 11 j = 0 then iV 0 else .null) := by decide
  rw [this j hj]
  unfold fvN dflO
  by_cases h : fty 11 j = 0
  · rw [if_pos h, if_pos h, if_pos h]
  · rw [if_neg h, if_neg h, if_neg h]; rfl
theorem gtbx_one : Cond.laysStatic "OneWord$Crowd" "ONE_BY" "[I" ∈ lw_tbl := List.mem_append_right _ (List.mem_of_getElem? (i := 877) (by decide +kernel))
theorem gtbx_cs : Cond.laysStatic "java/lang/String" "COMPACT_STRINGS" "Z" ∈ lw_tbl := List.mem_append_right _ (List.mem_of_getElem? (i := 527) (by decide +kernel))
theorem gtbx_str : Cond.stringRef "OneWord$Grammar" 116 "gwlpsdekaf" ∈ lw_tbl := List.mem_append_right _ (List.mem_of_getElem? (i := 513) (by decide +kernel))
theorem nst_in : ∀ w ∈ nst, w ∈ lw_tbl := by decide +kernel
theorem nst_tab : ∀ w ∈ nst, w.onTables = true := by decide +kernel
/-! from the law's entry: the world, the constructors, the loop -/
def M00 : Mm := fun _ _ => 0
def MW0 : Mm := I_X12_init_54 (rowW (I_X11_init_0 (rowW M00 0 (dflO 10))) 54 (dflO 11))
theorem y_to_x {g : Gx} {b : Bs} {nL : Nat} {Z : State → Prop} {pc : Nat} {lv : List (Nat × Value)} {st : List Value} {M : Mm} {kc ks : Nat} (h0 : M 0 100 = 0) (hcel : ∀ k, k < 95 → celN b M k = celF b M k) (kk : X g b (true, M) nL Z pc lv st M kc ks) : Y g b nL Z pc lv st 95 M kc ks := by
  intro H locs cells slots ls hH hS hc hs hl
  refine kk H locs cells slots ls ?_ hS hc hs hl
  have e : fm (true, M) M = M := by funext k; unfold fm; split <;> rfl
  have ec : cntD M = 95 := by unfold cntD; rw [h0]; rfl
  rw [e]
  refine ⟨by rw [ec]; exact hH.1, ?_⟩
  have ew : wsF b M = wsN b 95 M := by
    unfold wsF wsN
    rw [ec]
    apply List.map_congr_left
    intro k hk
    rw [hcel k (List.mem_range.mp hk)]
  rw [ew]
  exact hH.2
/-- a reference that stays is where the table says -/
def refOk (M : Mm) (k : Nat) : Bool := if kndA k < 4 then true else (List.range (nfl (kndA k - 4))).all (fun j => if fty (kndA k - 4) j = 0 then true else if fty (kndA k - 4) j = 1 then decide (M k j = (ftg k j : Int)) else decide (0 ≤ M k j))
theorem cel_same {b : Bs} {M : Mm} {k : Nat} (h9 : k < 95) (h : refOk M k = true) : celN b M k = celF b M k := by
  have hl : lenA M k = (cknd k).2 := by unfold lenA; rw [if_pos h9]
  by_cases h4 : kndA k < 4
  · unfold celN celF
    rw [hl]
    rcases (show kndA k = 0 ∨ kndA k = 1 ∨ kndA k = 2 ∨ kndA k = 3 by omega) with e | e | e | e <;> rw [e]
  · obtain ⟨n, hn⟩ : ∃ n, kndA k = n + 4 := ⟨kndA k - 4, by omega⟩
    rw [celN_obj hn, cel_obj hn]
    refine congrArg (fun z => Sum.inr (n, z)) ?_
    apply List.map_congr_left
    intro j hj
    unfold refOk at h
    rw [if_neg h4, hn] at h
    have h2 := List.all_eq_true.mp h j hj
    simp only [Nat.add_sub_cancel] at h2
    unfold fvN fvl
    by_cases f0 : fty n j = 0
    · rw [if_pos f0, f0]
      rfl
    · rw [if_neg f0] at h2 ⊢
      by_cases f1 : fty n j = 1
      · rw [if_pos f1, decide_eq_true_eq] at h2
        rw [f1, h2, if_neg (by omega)]
        rfl
      · rw [if_neg f1, decide_eq_true_eq] at h2
        rw [if_neg (by omega)]
        split
        · exact absurd (by assumption) f0
        · exact absurd (by assumption) f1
        · rfl
theorem MW0_ref : ∀ k, k < 95 → refOk MW0 k = true := by decide +kernel
theorem MW0_00 : MW0 0 100 = 0 := by decide +kernel

set_option maxRecDepth 20000 in
set_option maxHeartbeats 8000000 in
theorem law_start {p : Program} {e : Env} {s : State} {m : MethodId} {below : List Frame} {meth : Method} {c : Code} (l : Launch) {b L : Nat} {xs : Nat → Int32} (Inv : Mm → Mm → Prop) (pot : Mm → Nat × Nat)
    (h_mouth : ∀ a1 : Int, inR a1 → ∀ a2 : Int, inR a2 → ∀ a3 : Int, inR a3 → ∀ ma mb : Mm, Inv ma mb → Rg ma → Rg mb → ∃ (r : Int) (ma' mb' : Mm), F_X11_mouth a1 a2 a3 ma = some (r, ma') ∧ F_X12_mouth a1 a2 a3 mb = some (r, mb') ∧ Inv ma' mb' ∧ pot ma' = pot ma)
    (h_air : ∀ a1 : Int, inR a1 → ∀ a2 : Int, inR a2 → ∀ ma mb : Mm, Inv ma mb → Rg ma → Rg mb → ∃ (r : Int) (ma' mb' : Mm), F_X11_air a1 a2 ma = some (r, ma') ∧ F_X12_air a1 a2 mb = some (r, mb') ∧ Inv ma' mb' ∧ pot ma' = pot ma)
    (h_feed : ∀ a1 : Int, inR a1 → ∀ a2 : Int, inR a2 → ∀ a3 : Int, inR a3 → ∀ a4 : Int, inR a4 → ∀ a5 : Int, inR a5 → ∀ ma mb : Mm, Inv ma mb → Rg ma → Rg mb → ∃ (r : Int) (ma' mb' : Mm), F_X11_feed a1 a2 a3 a4 a5 ma = some (r, ma') ∧ F_X12_feed a1 a2 a3 a4 a5 mb = some (r, mb') ∧ Inv ma' mb' ∧ pot ma' = pot ma)
    (h_tongue : ∀ a1 : Int, inR a1 → ∀ ma mb : Mm, Inv ma mb → Rg ma → Rg mb → ∃ (r : Int) (ma' mb' : Mm), F_X11_tongue a1 ma = some (r, ma') ∧ F_X12_tongue a1 mb = some (r, mb') ∧ Inv ma' mb' ∧ pot ma' = pot ma)
    (h_sentence : ∀ a1 : Int, inR a1 → ∀ a2 : Int, inR a2 → ∀ ma mb : Mm, Inv ma mb → Rg ma → Rg mb → ∃ (r : Int) (ma' mb' : Mm), F_X11_sentence a1 a2 ma = some (r, ma') ∧ F_X12_sentence a1 a2 mb = some (r, mb') ∧ Inv ma' mb' ∧ pot ma' = pot ma)
    (h_say : ∀ a1 : Int, inR a1 → ∀ a2 : Int, inR a2 → ∀ ma mb : Mm, Inv ma mb → Rg ma → Rg mb → ∃ (r : Int) (ma' mb' : Mm), F_X11_say a1 a2 ma = some (r, ma') ∧ F_X12_say a1 a2 mb = some (r, mb') ∧ Inv ma' mb' ∧ pot ma' = pot ma)
    (h_heard : ∀ a1 : Int, inR a1 → ∀ ma mb : Mm, Inv ma mb → Rg ma → Rg mb → ∃ (r : Int) (ma' mb' : Mm), F_X11_heard a1 ma = some (r, ma') ∧ F_X12_heard a1 mb = some (r, mb') ∧ Inv ma' mb' ∧ pot ma' = pot ma)
    (h_hearing : ∀ a1 : Int, inR a1 → ∀ a2 : Int, inR a2 → ∀ a3 : Int, inR a3 → ∀ ma mb : Mm, Inv ma mb → Rg ma → Rg mb → ∃ (r : Int) (ma' mb' : Mm), F_X11_hearing a1 a2 a3 ma = some (r, ma') ∧ F_X12_hearing a1 a2 a3 mb = some (r, mb') ∧ Inv ma' mb' ∧ pot ma' = pot ma)
    (h_way : ∀ a1 : Int, inR a1 → ∀ a2 : Int, inR a2 → ∀ ma mb : Mm, Inv ma mb → Rg ma → Rg mb → ∃ (r : Int) (ma' mb' : Mm), F_X11_way a1 a2 ma = some (r, ma') ∧ F_X12_way a1 a2 mb = some (r, mb') ∧ Inv ma' mb' ∧ pot ma' = pot ma)
    (h_meaning : ∀ a1 : Int, inR a1 → ∀ a2 : Int, inR a2 → ∀ a3 : Int, inR a3 → ∀ a4 : Int, inR a4 → ∀ a5 : Int, inR a5 → ∀ ma mb : Mm, Inv ma mb → Rg ma → Rg mb → ∃ (r : Int) (ma' mb' : Mm), F_X11_meaning a1 a2 a3 a4 a5 ma = some (r, ma') ∧ F_X12_meaning a1 a2 a3 a4 a5 mb = some (r, mb') ∧ Inv ma' mb' ∧ pot ma' = pot ma)
    (h_read : ∀ a1 : Int, inR a1 → ∀ a2 : Int, inR a2 → ∀ a3 : Int, inR a3 → ∀ ma mb : Mm, Inv ma mb → Rg ma → Rg mb → ∃ (r : Int) (ma' mb' : Mm), F_X11_read a1 a2 a3 ma = some (r, ma') ∧ F_X12_read a1 a2 a3 mb = some (r, mb') ∧ Inv ma' mb' ∧ pot ma' = pot ma)
    (h_missed : ∀ a1 : Int, inR a1 → ∀ a2 : Int, inR a2 → ∀ a3 : Int, inR a3 → ∀ a4 : Int, inR a4 → ∀ ma mb : Mm, Inv ma mb → Rg ma → Rg mb → ∃ (r : Int) (ma' mb' : Mm), F_X11_missed a1 a2 a3 a4 ma = some (r, ma') ∧ F_X12_missed a1 a2 a3 a4 mb = some (r, mb') ∧ Inv ma' mb' ∧ pot ma' = pot ma)
    (h_soonest : ∀ a1 : Int, inR a1 → ∀ a2 : Int, inR a2 → ∀ ma mb : Mm, Inv ma mb → Rg ma → Rg mb → ∃ (kc ks : Nat) (r : Int) (ma' mb' : Mm), F_X11_soonest kc ks a1 a2 ma = some (r, ma') ∧ F_X12_soonest a1 a2 mb = some (r, mb') ∧ Inv ma' mb' ∧ (pot ma').1 + kc ≤ (pot ma).1 ∧ (pot ma').2 + ks ≤ (pot ma).2)
    (h_byRules : ∀ a1 : Int, inR a1 → ∀ a2 : Int, inR a2 → ∀ a3 : Int, inR a3 → ∀ ma mb : Mm, Inv ma mb → Rg ma → Rg mb → ∃ (r : Int) (ma' mb' : Mm), F_X11_byRules a1 a2 a3 ma = some (r, ma') ∧ F_X12_byRules a1 a2 a3 mb = some (r, mb') ∧ Inv ma' mb' ∧ pot ma' = pot ma)
    (h_table : ∀ a1 : Int, inR a1 → ∀ a2 : Int, inR a2 → ∀ a3 : Int, inR a3 → ∀ ma mb : Mm, Inv ma mb → Rg ma → Rg mb → ∃ (r : Int) (ma' mb' : Mm), F_X11_table a1 a2 a3 ma = some (r, ma') ∧ F_X12_table a1 a2 a3 mb = some (r, mb') ∧ Inv ma' mb' ∧ pot ma' = pot ma)
    (h_alike : ∀ a1 : Int, inR a1 → ∀ a2 : Int, inR a2 → ∀ ma mb : Mm, Inv ma mb → Rg ma → Rg mb → ∃ (r : Int) (ma' mb' : Mm), F_X11_alike a1 a2 ma = some (r, ma') ∧ F_X12_alike a1 a2 mb = some (r, mb') ∧ Inv ma' mb' ∧ pot ma' = pot ma)
    (h_seed : ∀ a1 : Int, inR a1 → ∀ ma mb : Mm, Inv ma mb → Rg ma → Rg mb → ∃ (r : Int) (ma' mb' : Mm), F_X11_seed a1 ma = some (r, ma') ∧ F_X12_seed a1 mb = some (r, mb') ∧ Inv ma' mb' ∧ pot ma' = pot ma)
    (h_draw : ∀ a1 : Int, inR a1 → ∀ ma mb : Mm, Inv ma mb → Rg ma → Rg mb → ∃ (r : Int) (ma' mb' : Mm), F_X11_draw a1 ma = some (r, ma') ∧ F_X12_draw a1 mb = some (r, mb') ∧ Inv ma' mb' ∧ pot ma' = pot ma)
    (h_keep : ∀ ma mb : Mm, Inv ma mb → Rg ma → Rg mb → ∃ (r : Int) (ma' mb' : Mm), F_X11_keep  ma = some (r, ma') ∧ F_X12_keep  mb = some (r, mb') ∧ Inv ma' mb' ∧ pot ma' = pot ma)
    (h_undo : ∀ ma mb : Mm, Inv ma mb → Rg ma → Rg mb → ∃ (r : Int) (ma' mb' : Mm), F_X11_undo  ma = some (r, ma') ∧ F_X12_undo  mb = some (r, mb') ∧ Inv ma' mb' ∧ pot ma' = pot ma)
    (h_quiet : ∀ ma mb : Mm, Inv ma mb → Rg ma → Rg mb → ∃ (r : Int) (ma' mb' : Mm), F_X11_quiet  ma = some (r, ma') ∧ F_X12_quiet  mb = some (r, mb') ∧ Inv ma' mb' ∧ pot ma' = pot ma)
    (h_said : ∀ a1 : Int, inR a1 → ∀ a2 : Int, inR a2 → ∀ ma mb : Mm, Inv ma mb → Rg ma → Rg mb → ∃ (r : Int) (ma' mb' : Mm), F_X11_said a1 a2 ma = some (r, ma') ∧ F_X12_said a1 a2 mb = some (r, mb') ∧ Inv ma' mb' ∧ pot ma' = pot ma)
    (h_check : ∀ a1 : Int, inR a1 → ∀ a2 : Int, inR a2 → ∀ ma mb : Mm, Inv ma mb → Rg ma → Rg mb → ∃ (r : Int) (ma' mb' : Mm), F_X11_check a1 a2 ma = some (r, ma') ∧ F_X12_check a1 a2 mb = some (r, mb') ∧ Inv ma' mb' ∧ pot ma' = pot ma)
    (h_count : ∀ a1 : Int, inR a1 → ∀ ma mb : Mm, Inv ma mb → Rg ma → Rg mb → ∃ (r : Int) (ma' mb' : Mm), F_X11_count a1 ma = some (r, ma') ∧ F_X12_count a1 mb = some (r, mb') ∧ Inv ma' mb' ∧ pot ma' = pot ma)
    (hI0 : Inv MW0 MW0) (hRg0 : Rg MW0) (hp1 : (pot MW0).1 ≤ 599905) (hp2 : (pot MW0).2 ≤ 7216060)
    (hL : L ≤ 3072) (C0 : lw_At p s m meth c b L xs) : W p l e room_1 s m #[Value.ref b] below meth c s.heap [] 0 0 (lw_Z below #[Value.ref b] s) (entryFrame m ([Value.ref b] : List Value).toArray 4) := by
  obtain ⟨hx, hb, hr, hml, hown, hts, hX, hbl, hlocks, hgv⟩ := id C0
  have hfl := flat_of_before _ hgv
  obtain ⟨cX0, iX0, kX0⟩ := u_known (C := RX0) (T := TX0) (N := 8) (n := 8) hts uwX0 (hts (.instantiable RX0 8) (gtb_tbl (mg tw151 rfl)))
  obtain ⟨cX1, iX1, kX1⟩ := u_known (C := RX1) (T := TX1) (N := 15) (n := 15) hts uwX1 (hts (.instantiable RX1 15) (gtb_tbl (mg tw290 rfl)))
  obtain ⟨cX2, iX2, kX2⟩ := u_known (C := RX2) (T := TX2) (N := 6) (n := 6) hts uwX2 (hts (.instantiable RX2 6) (gtb_tbl (mg tw211 rfl)))
  obtain ⟨cX3, iX3, kX3⟩ := u_known (C := RX3) (T := TX3) (N := 6) (n := 6) hts uwX3 (hts (.instantiable RX3 6) (gtb_tbl (mg tw118 rfl)))
  obtain ⟨cX4, iX4, kX4⟩ := u_known (C := RX4) (T := TX4) (N := 8) (n := 8) hts uwX4 (hts (.instantiable RX4 8) (gtb_tbl (mg tw31 rfl)))
  obtain ⟨cX5, iX5, kX5⟩ := u_known (C := RX5) (T := TX5) (N := 15) (n := 15) hts uwX5 (hts (.instantiable RX5 15) (gtb_tbl (mg tw236 rfl)))
  obtain ⟨cX6, iX6, kX6⟩ := u_known (C := RX6) (T := TX6) (N := 9) (n := 9) hts uwX6 (hts (.instantiable RX6 9) (gtb_tbl (mg tw343 rfl)))
  obtain ⟨cX7, iX7, kX7⟩ := u_known (C := RX7) (T := TX7) (N := 6) (n := 6) hts uwX7 (hts (.instantiable RX7 6) (gtb_tbl (mg tw145 rfl)))
  obtain ⟨cX9, iX9, kX9⟩ := u_known (C := RX9) (T := TX9) (N := 8) (n := 8) hts uwX9 (hts (.instantiable RX9 8) (gtb_tbl (mg tw84 rfl)))
  obtain ⟨cX10, iX10, kX10⟩ := u_known (C := RX10) (T := TX10) (N := 2) (n := 2) hts uwX10 (hts (.instantiable RX10 2) (gtb_tbl (mg tw70 rfl)))
  obtain ⟨cX11, iX11, kX11⟩ := u_known (C := RX11) (T := TX11) (N := 9) (n := 9) hts uwX11 (hts (.instantiable RX11 9) (gtb_tbl (mg tw23 rfl)))
  obtain ⟨cX12, iX12, kX12⟩ := u_known (C := RX12) (T := TX12) (N := 73) (n := 73) hts uwX12 (hts (.instantiable RX12 73) (gtb_tbl (mg tw1107 rfl)))
  obtain ⟨aI, qI, rI, eI1, eI2, eI3⟩ := Cond.arrayClass_spec (hts (.arrayClass .int) (gtb_tbl (mg tw68 rfl)))
  obtain ⟨aB, qB, rB, eB1, eB2, eB3⟩ := Cond.arrayClass_spec (hts (.arrayClass .byte) (gtb_tbl (mg tw638 rfl)))
  obtain ⟨aJ, qJ, rJ, eJ1, eJ2, eJ3⟩ := Cond.arrayClass_spec (hts (.arrayClass .long) (gtb_tbl (mg tw288 rfl)))
  obtain ⟨aZ, qZ, rZ, eZ1, eZ2, eZ3⟩ := Cond.arrayClass_spec (hts (.arrayClass .boolean) (gtb_tbl (mg tw287 rfl)))
  have hAA : ∀ a : Nat, a < s.heap.size → ¬ (fun q => s.heap.size ≤ q) a := fun a h1 h2 => by have : s.heap.size ≤ a := h2; omega
  obtain ⟨aO, hO1, hO2⟩ := va_Tof (args := #[Value.ref b]) (s := s) (tm := .static "OneWord$Crowd" "ONE_BY" "[I") (ty := .int) (N := 5) (f := fun j => iV (oneF j)) (A := fun q => s.heap.size ≤ q) (by decide) (hfl _ (by decide +kernel)) (va_eqt (hfl (Cond.eq (.length (.static "OneWord$Crowd" "ONE_BY" "[I")) (.int 5)) (by decide +kernel))) (fun j hj => by
    have h0 := va_eqt (hfl (Cond.eq (.elem (.static "OneWord$Crowd" "ONE_BY" "[I") (.int 0)) (.int 1)) (by decide +kernel))
    have h1 := va_eqt (hfl (Cond.eq (.elem (.static "OneWord$Crowd" "ONE_BY" "[I") (.int 1)) (.int 5)) (by decide +kernel))
    have h2 := va_eqt (hfl (Cond.eq (.elem (.static "OneWord$Crowd" "ONE_BY" "[I") (.int 2)) (.int 25)) (by decide +kernel))
    have h3 := va_eqt (hfl (Cond.eq (.elem (.static "OneWord$Crowd" "ONE_BY" "[I") (.int 3)) (.int 125)) (by decide +kernel))
    have h4 := va_eqt (hfl (Cond.eq (.elem (.static "OneWord$Crowd" "ONE_BY" "[I") (.int 4)) (.int 625)) (by decide +kernel))
    rcases (show j = 0 ∨ j = 1 ∨ j = 2 ∨ j = 3 ∨ j = 4 by omega) with rfl | rfl | rfl | rfl | rfl
    · exact h0
    · exact h1
    · exact h2
    · exact h3
    · exact h4
    ) hAA
  have hZO : va_Z "OneWord$Crowd" "ONE_BY" "[I" (.ref aO) (fun q => s.heap.size ≤ q) s s.heap := va_Zof (args := #[Value.ref b]) (hts (.laysStatic "OneWord$Crowd" "ONE_BY" "[I") (gtbx_one)) (hts (.initialized "OneWord$Crowd") (gtb_tbl (mg tw10 rfl))) hO1 hAA
  have hZC : va_Z "java/lang/String" "COMPACT_STRINGS" "Z" (.int 1) (fun q => s.heap.size ≤ q) s s.heap := va_Zof (args := #[Value.ref b]) (hts (.laysStatic "java/lang/String" "COMPACT_STRINGS" "Z") (gtbx_cs)) (hts (.initialized "java/lang/String") (gtb_tbl (mg tw14 rfl))) (va_eqi (hfl _ (by decide +kernel))) hAA
  obtain ⟨adK, adV, hST, hSK⟩ := vk_Sof (args := #[Value.ref b]) (s := s) (N := 1) (tm := fun _ => (Term.string "OneWord$Grammar" 116)) (len := [10]) (byt := txB) (A := fun q => s.heap.size ≤ q) (fun i hi => by rw [show i = 0 by omega]; decide) (fun i hi => hfl _ (by decide +kernel)) (fun i hi => hfl _ (by decide +kernel)) (fun i hi => hfl _ (by decide +kernel)) (fun i hi => by rw [show i = 0 by omega]; exact hfl _ (by decide +kernel)) (fun i hi j hj => by
    rw [show i = 0 by omega] at hj ⊢
    have h0 := hfl (Cond.eq (.elem (.field (Term.string "OneWord$Grammar" 116) "java/lang/String" "value" "[B") (.int 0)) (.int 103)) (by decide +kernel)
    have h1 := hfl (Cond.eq (.elem (.field (Term.string "OneWord$Grammar" 116) "java/lang/String" "value" "[B") (.int 1)) (.int 119)) (by decide +kernel)
    have h2 := hfl (Cond.eq (.elem (.field (Term.string "OneWord$Grammar" 116) "java/lang/String" "value" "[B") (.int 2)) (.int 108)) (by decide +kernel)
    have h3 := hfl (Cond.eq (.elem (.field (Term.string "OneWord$Grammar" 116) "java/lang/String" "value" "[B") (.int 3)) (.int 112)) (by decide +kernel)
    have h4 := hfl (Cond.eq (.elem (.field (Term.string "OneWord$Grammar" 116) "java/lang/String" "value" "[B") (.int 4)) (.int 115)) (by decide +kernel)
    have h5 := hfl (Cond.eq (.elem (.field (Term.string "OneWord$Grammar" 116) "java/lang/String" "value" "[B") (.int 5)) (.int 100)) (by decide +kernel)
    have h6 := hfl (Cond.eq (.elem (.field (Term.string "OneWord$Grammar" 116) "java/lang/String" "value" "[B") (.int 6)) (.int 101)) (by decide +kernel)
    have h7 := hfl (Cond.eq (.elem (.field (Term.string "OneWord$Grammar" 116) "java/lang/String" "value" "[B") (.int 7)) (.int 107)) (by decide +kernel)
    have h8 := hfl (Cond.eq (.elem (.field (Term.string "OneWord$Grammar" 116) "java/lang/String" "value" "[B") (.int 8)) (.int 97)) (by decide +kernel)
    have h9 := hfl (Cond.eq (.elem (.field (Term.string "OneWord$Grammar" 116) "java/lang/String" "value" "[B") (.int 9)) (.int 102)) (by decide +kernel)
    have hj' : j < 10 := hj
    rcases (show j = 0 ∨ j = 1 ∨ j = 2 ∨ j = 3 ∨ j = 4 ∨ j = 5 ∨ j = 6 ∨ j = 7 ∨ j = 8 ∨ j = 9 by omega) with rfl | rfl | rfl | rfl | rfl | rfl | rfl | rfl | rfl | rfl
    · exact h0
    · exact h1
    · exact h2
    · exact h3
    · exact h4
    · exact h5
    · exact h6
    · exact h7
    · exact h8
    · exact h9
    ) (fun i j hi hj hne => absurd (show i = j by omega) hne) hAA
  have hST2 : vk_S 1 [10] txB (fun _ => adK 0) (fun _ => adV 0) (fun q => s.heap.size ≤ q) s s.heap := ⟨fun i hi => by rw [show i = 0 by omega]; exact hST.1 0 (by decide), fun i j hi hj _ => by omega⟩
  have hSR : vk_R "OneWord$Grammar" 116 "gwlpsdekaf" (adK 0) s := vk_R.of (A := #[Value.ref b]) (hts (.stringRef "OneWord$Grammar" 116 "gwlpsdekaf") gtbx_str) (hSK 0 (by decide))
  have hNS : ∀ w ∈ nst, va_Nw w s := fun w hw => va_Nw.of (A := #[Value.ref b]) (nst_tab w hw) (hts w (nst_in w hw))
  obtain ⟨dC, dI, hKc⟩ : ∃ (dC : Nat → ClassId) (dI : Nat → Nat → Nat), ∀ (k : Nat) (q : vw_C), vwCl[k]? = some q → u_Kn s q.1 q.2.1 q.2.2 (dC k) (dI k) := by
    refine ⟨fun k => if k = 0 then cX0 else if k = 1 then cX1 else if k = 2 then cX2 else if k = 3 then cX3 else if k = 4 then cX4 else if k = 5 then cX5 else if k = 6 then cX6 else if k = 7 then cX7 else if k = 8 then cX9 else if k = 9 then cX10 else if k = 10 then cX11 else cX12, fun k => if k = 0 then iX0 else if k = 1 then iX1 else if k = 2 then iX2 else if k = 3 then iX3 else if k = 4 then iX4 else if k = 5 then iX5 else if k = 6 then iX6 else if k = 7 then iX7 else if k = 8 then iX9 else if k = 9 then iX10 else if k = 10 then iX11 else iX12, ?_⟩
    intro k q hq
    have hk : k < 12 := (List.getElem?_eq_some_iff.mp hq).1
    rcases (show k = 0 ∨ k = 1 ∨ k = 2 ∨ k = 3 ∨ k = 4 ∨ k = 5 ∨ k = 6 ∨ k = 7 ∨ k = 8 ∨ k = 9 ∨ k = 10 ∨ k = 11 by omega) with rfl | rfl | rfl | rfl | rfl | rfl | rfl | rfl | rfl | rfl | rfl | rfl
    · cases hq; exact kX0
    · cases hq; exact kX1
    · cases hq; exact kX2
    · cases hq; exact kX3
    · cases hq; exact kX4
    · cases hq; exact kX5
    · cases hq; exact kX6
    · cases hq; exact kX7
    · cases hq; exact kX9
    · cases hq; exact kX10
    · cases hq; exact kX11
    · cases hq; exact kX12
  obtain ⟨bb, hbb⟩ : ∃ z : Bs, z = (s.heap.size, (dC, dI), aI, aB, aJ, aZ, aO, adK 0, adV 0) := ⟨_, rfl⟩
  have hb1 : bb.1 = s.heap.size := by rw [hbb]
  have hKx : Kx bb s := by
    rw [hbb]
    refine ⟨⟨hKc, fun k q hq => ?_⟩, Nat.le_refl _, hZO, hO2, hNS, hST2, hSR, hZC⟩
    have hk : k < 4 := (List.getElem?_eq_some_iff.mp hq).1
    rcases (show k = 0 ∨ k = 1 ∨ k = 2 ∨ k = 3 by omega) with rfl | rfl | rfl | rfl
    · cases hq; exact ⟨fun n z => ⟨fun k h => (by cases h), qI, eI2, rI, eI3⟩, eI1⟩
    · cases hq; exact ⟨fun n z => ⟨fun k h => (by cases h), qB, eB2, rB, eB3⟩, eB1⟩
    · cases hq; exact ⟨fun n z => ⟨fun k h => (by cases h), qJ, eJ2, rJ, eJ3⟩, eJ1⟩
    · cases hq; exact ⟨fun n z => ⟨fun k h => (by cases h), qZ, eZ2, rZ, eZ3⟩, eZ1⟩
  have hC : Cok (p, l, e, room_1, s, m, #[Value.ref b], below, meth, c) bb RL cL_law 4 1400 (some .boolean) := ⟨hx, hb, hml, hown, fun w hw => hts w (gtb_tbl hw), hlocks, hKx, (show 1400 ≤ room_1.frames by decide), (show 60 * 1400 ≤ room_1.locals by decide), hr⟩
  have hl := lv_entry ([.ref b]) (n := 4) (Nat.le_of_ble_eq_true rfl)
  rw [lg_entry_eq]
  have key : Y (p, l, e, room_1, s, m, #[Value.ref b], below, meth, c) bb 4 (lw_Z below #[Value.ref b] s) 0 [(0, .ref b)] [] 0 M00 600000 7302250 := by
    refine y_new (kc := 599999) (ks := 7302241) hC dL_law_0 rfl clsX11 rfl ⟨mg tw22 rfl, mg tw23 rfl, mg tw1 rfl⟩ (dfX11 bb) ?_
    refine y_dup hC dL_law_3 rfl rfl ?_
    refine y_init (k := 0) (As := []) (rest := [.ref (bb.1 + 0)]) (kc := 599946) (ks := 7298099) hC dL_law_4 rfl (TI_X11_init_0 bb _) iiL_9 rfl rfl (Nat.le_of_ble_eq_true rfl) (by decide) (by decide) ?_
    refine y_astore_n (lv' := [(0, .ref b)]) hC dL_law_7 rfl rfl (by decide) rfl ?_
    refine y_new (kc := 599945) (ks := 7298026) hC dL_law_8 rfl clsX12 rfl ⟨mg tw1106 rfl, mg tw1107 rfl, mg tw12 rfl⟩ (dfX12 bb) ?_
    refine y_dup hC dL_law_11 rfl rfl ?_
    refine y_init (k := 54) (As := []) (rest := [.ref (bb.1 + 54)]) (kc := 599905) (ks := 7216060) hC dL_law_12 rfl (TI_X12_init_54 bb _) iiL_12 rfl rfl (Nat.le_of_ble_eq_true rfl) (by decide) (by decide) ?_
    refine y_astore_n (lv' := [(1, .ref (bb.1 + 0)), (0, .ref b)]) hC dL_law_15 rfl rfl (by decide) rfl ?_
    refine y_to_x MW0_00 (fun k hk => cel_same hk (MW0_ref k hk)) ?_
    refine x_iconst hC dL_law_16 rfl ?_
    refine x_istore_n (lv' := [(2, .ref (bb.1 + 54)), (1, .ref (bb.1 + 0)), (0, .ref b)]) (K := fun x => some (x, MW0)) (Q := fun r _ => r = 0) hC dL_law_17 rfl rfl (by decide) rfl (rgc 0 rfl) rfl (fun x hx hF => ?_)
    have hx0 : x = 0 := hF
    subst hx0
    refine x_sub [0, 3, 2, 1] rfl ?_
    exact law_loop Inv pot h_mouth h_air h_feed h_tongue h_sentence h_say h_heard h_hearing h_way h_meaning h_read h_missed h_soonest h_byRules h_table h_alike h_seed h_draw h_keep h_undo h_quiet h_said h_check h_count hC hX ⟨by rw [hb1]; exact hbl, hb1⟩ hL 4001 0 MW0 MW0 599905 7216060 (by decide) (by decide) (by decide) hI0 hRg0 hRg0 hp1 hp2
  exact key s.heap [] 0 0 _ ⟨by rw [hb1]; rfl, fun k q hk => by simp [wsN] at hk⟩ va_S.rf ⟨rfl, rfl⟩ (Nat.le_refl _) hl

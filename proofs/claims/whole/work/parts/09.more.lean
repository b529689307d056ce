/-! more rows over X: guards, moved references, switches, copies, calls by the kind of the answer -/
theorem rgc (c : Int) (h : decide (-2147483648 ≤ c ∧ c ≤ 2147483647) = true) : inR c := show _ ∧ _ from of_decide_eq_true h
theorem rgcL (c : Int) (h : decide (-9223372036854775808 ≤ c ∧ c ≤ 9223372036854775807) = true) : inL c := show _ ∧ _ from of_decide_eq_true h
theorem rg_nat (x : Int) (h : inR x) : inR ((x.toNat : Nat) : Int) := by unfold inR at *; omega
theorem nar_i2b (x : Int) : vp_nar .byte (Int32.ofInt (i2b x)) = Int32.ofInt (i2b x) := by
  unfold i2b; rw [of_tI]; exact pk_vb _
def cLen (j : Nat) : Nat := if j < 2 then 200 else 14
def CdK (c : Nat) : Prop := kndA c = 0 + 4 ∧ c < 95 ∧ own2 c = true ∧ ∀ j, j < 5 → ftg c j = c + (j + 1) ∧ cknd (c + (j + 1)) = (0, cLen j) ∧ c + (j + 1) < 95 ∧ own2 (c + (j + 1)) = true
theorem CdK.lg {c : Nat} (h : CdK c) : lngk c = false := by unfold lngk; rw [h.1]; rfl
theorem CdK.rg {c : Nat} (h : CdK c) : inR (c : Int) := by have := h.2.1; unfold inR; omega
theorem CdK.n0 {c : Nat} (h : CdK c) : c ≠ 0 := fun e => by have := h.2.2.2 0 (by decide); subst e; exact absurd h.1 (by decide)
abbrev isCd (c : Nat) : Prop := c = 20 ∨ c = 26
theorem isCd_k {c : Nat} (h : isCd c) : CdK c := by
  rcases h with rfl | rfl <;> exact ⟨by decide, by decide, by decide, by decide⟩
abbrev isRw (c : Nat) : Prop := c = 41 ∨ c = 42
theorem isRw_k {c : Nat} (h : isRw c) : cknd c = (2, 9) ∧ c < 95 ∧ own2 c = true := by
  rcases h with rfl | rfl <;> exact ⟨by decide, by decide, by decide⟩
abbrev isDI (m : Mm) (c : Nat) : Prop := c = 51 ∨ (95 ≤ c ∧ c < cntD m)
theorem rg_lenA {m : Mm} (h : Rg m) (k : Nat) : inR ((lenA m k : Nat) : Int) := by
  unfold lenA
  by_cases hk : k < 95
  · rw [if_pos hk]
    have : ∀ k, k < 95 → (cknd k).2 ≤ 100000 := by decide
    have := this k hk
    unfold inR; omega
  · rw [if_neg hk]; exact rg_nat _ (h.i 0 _ rfl)
def cpyR (n : Nat) (src dst : Nat → Int) : Nat → Int := fun j => if j < n then src j else dst j
def cpy2 (m : Mm) (s d n : Nat) : Mm := fun k => if k = d then cpyR n (m s) (m d) else m k
def cpy (m : Mm) (s d n : Nat) (K : Mm → Rs) : Rs := K (cpy2 m s d n)
def txl (i : Int) (K : Int → Rs) : Rs := if 0 ≤ i ∧ i < 10 then K (txF i.toNat) else none
section XS
variable {g : Gx} {b : Bs} {q : Sd} {nL dep : Nat} {Z : State → Prop} {ow : String} {cc : ByteArray} {ret : Option FieldType} {pc n : Nat} {lv : List (Nat × Value)} {st : List Value} {m : Mm} {kc ks : Nat} {Q : Int → Mm → Prop}
theorem x_grd {c : Prop} [Decidable c] {K : Rs} (hF : okR (grd c K) Q) (kk : c → okR K Q → X g b q nL Z pc lv st m kc ks) : X g b q nL Z pc lv st m kc ks := by
  by_cases h : c
  · exact kk h ((okR_ite hF).1 h)
  · exact absurd ((okR_ite hF).2 h) (fun z => z)
theorem di_k {o : Mm} {c : Nat} (h : isDI m c) : kndA c = 0 ∧ c < cntD (fm (true, o) m) ∧ c ≠ 0 ∧ lenA (fm (true, o) m) c = lenA m c ∧ own2 c = true ∧ lngk c = false := by
  have e0 : fm (true, o) m 0 = m 0 := fm_at rfl
  have ec : cntD (fm (true, o) m) = cntD m := by unfold cntD; rw [e0]
  have el : lenA (fm (true, o) m) c = lenA m c := by unfold lenA; rw [e0]
  rw [ec, el]
  rcases h with rfl | ⟨h1, h2⟩
  · exact ⟨rfl, lt95 _ (by decide), by decide, rfl, rfl, rfl⟩
  · have e1 : kndA c = 0 := by unfold kndA; rw [if_neg (by omega)]
    exact ⟨e1, h2, by omega, rfl, by unfold own2; simp; omega, by unfold lngk; rw [e1]; rfl⟩
theorem x_ialdD {o : Mm} {c : Nat} {i : Int} {K : Int → Rs} (hC : Cok g b ow cc nL dep ret) (hd : decode cc pc = .ok (.iaload, 1)) (hn : pc + 1 = n) (hc : isDI m c) (hm : Rg m) (hi : inR i) (hF : okR (ald m c (lenA m c) i K) Q) (kk : ∀ v, inR v → okR (K v) Q → X g b (true, o) nL Z n lv (iV v :: st) m kc ks) : X g b (true, o) nL Z pc lv (iV i :: .ref (b.1 + c) :: st) m kc ks := by
  obtain ⟨h1, h2, h3, h4, h5, h6⟩ := di_k (o := o) hc
  exact x_ialdG hC hd hn h1 h2 h4 h5 h6 hm hi hF kk
theorem x_iastD {o : Mm} {c : Nat} {i v : Int} {K : Mm → Rs} (hC : Cok g b ow cc nL dep ret) (hd : decode cc pc = .ok (.iastore, 1)) (hn : pc + 1 = n) (hc : isDI m c) (hm : Rg m) (hi : inR i) (hv : inR v) (hF : okR (ast m c (lenA m c) i v K) Q) (kk : ∀ m', Rg m' → okR (K m') Q → X g b (true, o) nL Z n lv st m' kc ks) : X g b (true, o) nL Z pc lv (iV v :: iV i :: .ref (b.1 + c) :: st) m kc ks := by
  obtain ⟨h1, h2, h3, h4, h5, h6⟩ := di_k (o := o) hc
  exact x_iastG hC hd hn h1 h2 h3 h4 h5 h6 hm hi hv hF kk
theorem x_alenD {o : Mm} {c : Nat} (hC : Cok g b ow cc nL dep ret) (hd : decode cc pc = .ok (.arraylength, 1)) (hn : pc + 1 = n) (hc : isDI m c) (kk : X g b (true, o) nL Z n lv (iV ((lenA m c : Nat) : Int) :: st) m kc ks) : X g b (true, o) nL Z pc lv (.ref (b.1 + c) :: st) m kc ks := by
  obtain ⟨h1, h2, h3, h4, h5, h6⟩ := di_k (o := o) hc
  exact x_alenI hC hd hn h1 h2 h4 kk
theorem x_alenS {k L : Nat} {x : Int} (hC : Cok g b ow cc nL dep ret) (hd : decode cc pc = .ok (.arraylength, 1)) (hn : pc + 1 = n) (hk : cknd k = (0, L)) (hk9 : k < 95) (hx : (L : Int) = x) (kk : X g b q nL Z n lv (iV x :: st) m kc ks) : X g b q nL Z pc lv (.ref (b.1 + k) :: st) m kc ks := by
  subst hx
  exact x_alenI hC hd hn (by unfold kndA; rw [if_pos hk9, hk]) (lt95 _ hk9) (by unfold lenA; rw [if_pos hk9, hk]) kk
theorem x_tab1 {x v off dflt lo hi : Int} {offs : Array Int} {len tgt : Nat} {A B : Rs} (hC : Cok g b ow cc nL dep ret) (hd : decode cc pc = .ok (.tableswitch dflt lo hi offs, len)) (hv : (decide (¬ v < lo) && decide (¬ hi < v) && decide (offs[(v - lo).toNat]? = some off)) = true) (ht : (pc : Int) + off = (tgt : Int)) (hx : inR x) (hF : okR (if x = v then A else B) Q) (kt : x = v → okR A Q → X g b q nL Z tgt lv st m kc ks) (kf : ¬ x = v → okR B Q → X g b q nL Z pc lv (iV x :: st) m kc ks) : X g b q nL Z pc lv (iV x :: st) m kc ks := by
  have h0 := okR_ite hF
  simp only [Bool.and_eq_true, decide_eq_true_eq] at hv
  by_cases e : x = v
  · intro H locs cells slots ls hH hS hc hs hl
    have k := kt e (h0.1 e) H locs cells slots ls hH hS hc hs hl
    exact lv_tableIn hC.1 hC.2.1 hd (by rw [t_ofI' hx, e]; exact hv.1.1) (by rw [t_ofI' hx, e]; exact hv.1.2) (by rw [t_ofI' hx, e]; exact hv.2) ht k
  · exact kf e (h0.2 e)
theorem x_tabD {x dflt lo hi : Int} {offs : Array Int} {len tgt : Nat} (ex : List Int) (hC : Cok g b ow cc nL dep ret) (hd : decode cc pc = .ok (.tableswitch dflt lo hi offs, len)) (ht : (pc : Int) + dflt = (tgt : Int)) (hx : inR x) (hall : ((List.range (hi - lo + 1).toNat).all fun i => decide (offs[i]? = some dflt) || decide ((lo + (i : Int)) ∈ ex)) = true) (hex : ∀ v ∈ ex, ¬ x = v) (kk : X g b q nL Z tgt lv st m kc ks) : X g b q nL Z pc lv (iV x :: st) m kc ks := by
  intro H locs cells slots ls hH hS hc hs hl
  have k := kk H locs cells slots ls hH hS hc hs hl
  by_cases h1 : x < lo ∨ hi < x
  · exact lv_tableOut hC.1 hC.2.1 hd (by rw [t_ofI' hx]; exact h1) ht k
  · have h2 := List.all_eq_true.mp hall (x - lo).toNat (List.mem_range.mpr (by omega))
    simp only [Bool.or_eq_true, decide_eq_true_eq] at h2
    rcases h2 with h2 | h2
    · exact lv_tableIn hC.1 hC.2.1 hd (by rw [t_ofI' hx]; omega) (by rw [t_ofI' hx]; omega) (by rw [t_ofI' hx]; exact h2) ht k
    · exact absurd (by omega) (hex _ h2)
theorem look_dflt {dflt x : Int} : ∀ {ps : List (Int × Int)}, (∀ v ∈ ps.map (·.1), ¬ x = v) → Op.lookupswitch.offset ps dflt x = dflt
  | [], _ => rfl
  | (a, o) :: r, h => by
    rw [Op.lookupswitch.offset_cons, if_neg (fun e => h a List.mem_cons_self e.symm)]
    exact look_dflt (fun v hv => h v (List.mem_cons_of_mem _ hv))
theorem x_look1 {x v off dflt : Int} {ps : Array (Int × Int)} {len tgt : Nat} {A B : Rs} (hC : Cok g b ow cc nL dep ret) (hd : decode cc pc = .ok (.lookupswitch dflt ps, len)) (hv : ((ps.toList.zip (ps.toList.drop 1)).all (fun (a, next) => a.1 < next.1) && decide (Op.lookupswitch.offset ps.toList dflt v = off)) = true) (ht : (pc : Int) + off = (tgt : Int)) (hx : inR x) (hF : okR (if x = v then A else B) Q) (kt : x = v → okR A Q → X g b q nL Z tgt lv st m kc ks) (kf : ¬ x = v → okR B Q → X g b q nL Z pc lv (iV x :: st) m kc ks) : X g b q nL Z pc lv (iV x :: st) m kc ks := by
  have h0 := okR_ite hF
  rw [Bool.and_eq_true, decide_eq_true_eq] at hv
  by_cases e : x = v
  · intro H locs cells slots ls hH hS hc hs hl
    have k := kt e (h0.1 e) H locs cells slots ls hH hS hc hs hl
    exact lv_lookup hC.1 hC.2.1 hd hv.1 (by rw [t_ofI' hx, e]; exact hv.2) ht k
  · exact kf e (h0.2 e)
theorem x_lookD {x dflt : Int} {ps : Array (Int × Int)} {len tgt : Nat} (ex : List Int) (hC : Cok g b ow cc nL dep ret) (hd : decode cc pc = .ok (.lookupswitch dflt ps, len)) (ht : (pc : Int) + dflt = (tgt : Int)) (hx : inR x) (hall : ((ps.toList.zip (ps.toList.drop 1)).all (fun (a, next) => a.1 < next.1) && decide (ps.toList.map (·.1) = ex)) = true) (hex : ∀ v ∈ ex, ¬ x = v) (kk : X g b q nL Z tgt lv st m kc ks) : X g b q nL Z pc lv (iV x :: st) m kc ks := by
  intro H locs cells slots ls hH hS hc hs hl
  have k := kk H locs cells slots ls hH hS hc hs hl
  rw [Bool.and_eq_true, decide_eq_true_eq] at hall
  exact lv_lookup hC.1 hC.2.1 hd hall.1 (by rw [t_ofI' hx]; exact look_dflt (by rw [hall.2]; exact hex)) ht k
theorem x_ldcS (hC : Cok g b RX2 cc nL dep ret) (hd : decode cc pc = .ok (.ldc 116, 2)) (hn : pc + 2 = n) (kk : X g b q nL Z n lv (.ref (bT b) :: st) m kc ks) : X g b q nL Z pc lv st m kc ks := by
  subst hn
  intro H locs cells slots ls hH hS hc hs hl
  have k := kk H locs cells slots ls hH hS hc hs hl
  obtain ⟨hx, hb, -, hown, hts, -, hK, -⟩ := hC
  exact va_ldcS hx hb hown hK.2.2.2.2.2.2.1 hd k
theorem x_strV {idx : Nat} (hC : Cok g b ow cc nL dep ret) (hd : decode cc pc = .ok (.getfield idx, 3)) (hn : pc + 3 = n) (hw : Cond.fieldLink ow idx "java/lang/String" "value" "[B" ∈ gtb) (kk : X g b q nL Z n lv (.ref (bU b) :: st) m kc ks) : X g b q nL Z pc lv (.ref (bT b) :: st) m kc ks := by
  subst hn
  intro H locs cells slots ls hH hS hc hs hl
  have k := kk H locs cells slots ls hH hS hc hs hl
  obtain ⟨hx, hb, -, hown, hts, -, hK, -⟩ := hC
  exact vk_getf hx hb (hK.2.2.2.2.2.1.1 0 (by decide)).2.2.1 hS hown (hts _ hw) (fun _ h => h) hd k
theorem x_strC {idx : Nat} (hC : Cok g b ow cc nL dep ret) (hd : decode cc pc = .ok (.getfield idx, 3)) (hn : pc + 3 = n) (hw : Cond.fieldLink ow idx "java/lang/String" "coder" "B" ∈ gtb) (kk : X g b q nL Z n lv (iV 0 :: st) m kc ks) : X g b q nL Z pc lv (.ref (bT b) :: st) m kc ks := by
  subst hn
  intro H locs cells slots ls hH hS hc hs hl
  have k := kk H locs cells slots ls hH hS hc hs hl
  obtain ⟨hx, hb, -, hown, hts, -, hK, -⟩ := hC
  exact vk_getf hx hb (hK.2.2.2.2.2.1.1 0 (by decide)).2.1 hS hown (hts _ hw) (fun _ h => h) hd k
theorem x_strK {idx : Nat} (hC : Cok g b ow cc nL dep ret) (hd : decode cc pc = .ok (.getstatic idx, 3)) (hn : pc + 3 = n) (hw : Cond.fieldLink ow idx "java/lang/String" "COMPACT_STRINGS" "Z" ∈ gtb) (kk : X g b q nL Z n lv (iV 1 :: st) m kc ks) : X g b q nL Z pc lv st m kc ks := by
  subst hn
  intro H locs cells slots ls hH hS hc hs hl
  have k := kk H locs cells slots ls hH hS hc hs hl
  obtain ⟨hx, hb, -, hown, hts, -, hK, -⟩ := hC
  exact va_gets hx hb hK.2.2.2.2.2.2.2 hS hown (hts _ hw) (fun _ h => h) hd k
theorem x_strL (hC : Cok g b ow cc nL dep ret) (hd : decode cc pc = .ok (.arraylength, 1)) (hn : pc + 1 = n) (kk : X g b q nL Z n lv (iV 10 :: st) m kc ks) : X g b q nL Z pc lv (.ref (bU b) :: st) m kc ks := by
  subst hn
  intro H locs cells slots ls hH hS hc hs hl
  have k := kk H locs cells slots ls hH hS hc hs hl
  obtain ⟨hx, hb, -, hown, hts, -, hK, -⟩ := hC
  exact va_tlen hx hb (hK.2.2.2.2.2.1.1 0 (by decide)).2.2.2 hS rfl hd k
theorem x_strB {i : Int} {K : Int → Rs} (hC : Cok g b ow cc nL dep ret) (hd : decode cc pc = .ok (.baload, 1)) (hn : pc + 1 = n) (hi : inR i) (hF : okR (txl i K) Q) (kk : ∀ v, inR v → okR (K v) Q → X g b q nL Z n lv (iV v :: st) m kc ks) : X g b q nL Z pc lv (iV i :: .ref (bU b) :: st) m kc ks := by
  subst hn
  intro H locs cells slots ls hH hS hc hs hl
  have h0 := okR_ite hF
  by_cases hb0 : 0 ≤ i ∧ i < 10
  · have k := kk (txF i.toNat) (by unfold txF inR; split <;> omega) (h0.1 hb0) H locs cells slots ls hH hS hc hs hl
    obtain ⟨hx, hb, -, hown, hts, -, hK, -⟩ := hC
    refine va_tb (i := Int32.ofInt i) hx hb (hK.2.2.2.2.2.1.1 0 (by decide)).2.2.2 hS (vin hi hb0) ?_ hd k
    rw [clamp hi]
    have : ∀ j, j < 10 → Value.int (((txB.getD 0 []).getD j 0)) = iV (txF j) := by decide
    exact this _ (by omega)
  · exact absurd (h0.2 hb0) (fun z => z)
theorem x_callVS {y : MethodName} {cc' : ByteArray} {nL' dep' mc ms rt idx n0 : Nat} {ret' : Option FieldType} {As rest st0 : List Value} {o : Rs} {K : Int → Mm → Rs} {kc2 ks2 : Nat} (hC : Cok g b ow cc nL dep ret) (hd : decode cc pc = .ok (.invokevirtual idx, 3)) (hn : pc + 3 = n) (hm : Rg m)
    (hM : ∀ r m', o = some (r, m') → Cn y cc' nL' ret' dep' mc ms rt b q m (.ref (bT b) :: As) o) (hL : MLk ow idx y cc' nL' ret' n0) (hV : Cond.instanceMethod y ∈ gtb ∧ Cond.selects "java/lang/String" y y ∈ gtb ∧ y.cls = "java/lang/String") (hAn : As.length = n0) (hst : st0 = As.reverse ++ .ref (bT b) :: rest) (hrest : (rest.map fun v => v.category).sum ≤ 8)
    (hdep : dep' + 1 ≤ dep) (hnl : nL' ≤ 41) (hkc : kc = mc + kc2) (hks : ks = ms + ks2) (hF : okR (cll o K) Q) (kk : ∀ r m', rtO rt r → Rg m' → okR (K r m') Q → X g b q nL Z n lv ((rtV rt r).toList ++ rest) m' kc2 ks2) : X g b q nL Z pc lv st0 m kc ks := by
  obtain ⟨r0, m0, ho0, -⟩ := okR_cll hF
  have hMet := hM r0 m0 ho0
  refine x_run (av := (.ref (bT b) :: As).toArray) hn hkc hks (fun H locs cells slots ls hH hS hc hs hl => ?_) hF kk
  obtain ⟨hx, hb, hml, hown, hts, hlk, hK, hfr, hlo, hret⟩ := hC
  obtain ⟨l1, l2, l3, l4, l5⟩ := hL
  obtain ⟨v1, v2, v3⟩ := hV
  have hcw : CallW (gR g) (gS g) (gA g) ow "java/lang/String" idx y cc' nL' ret' (.code y cc' nL' ret' :: gtb) (rmM dep' mc ms) mc ms n0 := by
    refine ⟨callB_of n0 hts (gtb_in l3) rfl rfl rfl (hts _ l2) (hts _ l1) ⟨l4.1, l4.2, l5⟩ ⟨?_, ?_⟩, hts _ v1, hts _ v2⟩
    · exact Nat.le_trans hdep hfr
    · show 8 + (nL' + 11) + 60 * dep' ≤ (gR g).locals; omega
  exact va_runV (Ts := gtb) ⟨hx, hb, hml, hown, hts⟩ (hMet g.2.1) hcw ⟨PcM_blind b q m _, vk_recv hK.2.2.2.2.2.1 (i := 0) (by decide) hS, fun U hU hW => pre_of hK hH hS hm hU hW⟩ rfl hAn hl.1 hst (lv_room hrest) hd ⟨by show cells + mc ≤ (gR g).cells; have := hc.2; omega, by show slots + ms ≤ (gR g).slots; omega⟩
def CpK (ow : String) (idx : Nat) : Prop := Cond.methodLink ow idx arraycopyName ∈ gtb ∧ Cond.native arraycopyName ∈ gtb ∧ Cond.static arraycopyName ∈ gtb ∧ Cond.initialized "java/lang/System" ∈ gtb
theorem x_copy {idx s d L : Nat} {K : Mm → Rs} (hC : Cok g b ow cc nL dep ret) (hd : decode cc pc = .ok (.invokestatic idx, 3)) (hn : pc + 3 = n) (hw : CpK ow idx) (hks1 : cknd s = (0, L)) (hkd : cknd d = (0, L)) (hs9 : s < 95) (hd9 : d < 95) (hL : (L : Int) < 1000) (hos : own2 s = q.1) (hod : own2 d = q.1) (hrest : (st.map fun v => v.category).sum ≤ 8) (hdep : 1 ≤ dep) (hm : Rg m) (hF : okR (cpy m s d L K) Q) (kk : ∀ m', Rg m' → okR (K m') Q → X g b q nL Z n lv st m' kc ks) : X g b q nL Z pc lv (iV (L : Int) :: iV 0 :: .ref (b.1 + d) :: iV 0 :: .ref (b.1 + s) :: st) m kc ks := by
  subst hn
  intro H locs cells slots ls hH hS hc hs hl
  have es : kndA s = 0 := by unfold kndA; rw [if_pos hs9, hks1]
  have ed : kndA d = 0 := by unfold kndA; rw [if_pos hd9, hkd]
  have Ls : ∀ M : Mm, lenA M s = L := fun M => by unfold lenA; rw [if_pos hs9, hks1]
  have Ld : ∀ M : Mm, lenA M d = L := fun M => by unfold lenA; rw [if_pos hd9, hkd]
  have hd0 : d ≠ 0 := fun z => by subst z; cases hkd
  have hLr : inR (L : Int) := ⟨by omega, by omega⟩
  have h0r : inR 0 := ⟨by decide, by decide⟩
  have c0 : (Int32.ofInt 0).toNatClampNeg = 0 := clamp h0r
  have cL : (Int32.ofInt (L : Int)).toNatClampNeg = L := by rw [clamp hLr]; omega
  have nn : ∀ z : Int, inR z → 0 ≤ z → ¬ Int32.ofInt z < 0 := fun z hz h => by
    intro hlt
    rw [o_z, o_lt hz h0r] at hlt
    omega
  obtain ⟨hx, hb, hml, hown, hts, -, hK, hfr, hlo, -⟩ := hC
  obtain ⟨w1, w2, w3, w4⟩ := hw
  have hsz : g.2.2.2.2.2.2.2.2.2.maxLocals = ls.size := by rw [hml]; exact hl.1.symm
  refine va_copyi (ty := .int) hx hb hsz hown (hts _ w1) (hts _ w2) (hts _ w3) (hts _ w4) hK.1 hH.2 (wsF_D b _) hS s d 0 0 (by rw [wsF_get b _ (lt95 _ hs9), cel_i es]) (by rw [wsF_get b _ (lt95 _ hd9), cel_i ed]) rfl rfl rfl (nn _ h0r (by decide)) (nn _ h0r (by decide)) (nn _ hLr (by omega)) (by rw [c0, cL, Ls]; omega) (by rw [c0, cL, Ld]; omega) (fun _ _ => rfl) (Nat.le_trans hdep hfr) (by show _ + _ ≤ (gR g).locals; have : nativeFrameWords "java/lang/System" "arraycopy" 5 = 7 := rfl; omega) hd (fun H1 locs1 hP1 _ hS1 => ?_)
  have ecell : ∀ k', k' ≠ d → celF b (cpy2 (fm q m) s d L) k' = celF b (fm q m) k' := fun k' hk' => by
    have e1 : cpy2 (fm q m) s d L k' = fm q m k' := by unfold cpy2; rw [if_neg hk']
    have e0 : cpy2 (fm q m) s d L 0 = fm q m 0 := by unfold cpy2; rw [if_neg (fun z => hd0 z.symm)]
    unfold celF lenA
    rw [e1, e0]
  have ecnt : cntD (cpy2 (fm q m) s d L) = cntD (fm q m) := by unfold cntD cpy2; rw [if_neg (fun z => hd0 z.symm)]
  have efm : fm q (cpy2 m s d L) = cpy2 (fm q m) s d L := by
    funext k'
    by_cases hk' : k' = d
    · subst hk'
      rw [fm_at hod]
      unfold cpy2
      rw [if_pos rfl, if_pos rfl, fm_at hod, fm_at hos]
    · unfold fm cpy2
      rw [if_neg hk', if_neg hk']
  refine W_setG (M' := cpy2 (fm q m) s d L) (lt95 _ hd9) ecnt ecell hH.1 hc.1 ?_ hP1 (fun hH1 hz1 => ?_)
  · rw [cel_i ed, c0, cL, Ld, Ld]
    refine congrArg (fun z => Sum.inl (b.2.2.1, L, Sum.inl z)) ?_
    funext j
    unfold cpy2 cpyR va_cpy
    rw [if_pos rfl]
    by_cases hj : j < L
    · rw [if_pos hj, if_pos ⟨by omega, by omega⟩]
      congr 2
      omega
    · rw [if_neg hj, if_neg (by omega)]
  · refine kk (cpy2 m s d L) (fun k' j => ?_) hF H1 locs1 cells slots ls (by rw [efm]; exact hH1) hS1 ⟨hz1, hc.2⟩ hs hl
    by_cases hk' : k' = d
    · subst hk'
      unfold cpy2 cpyR
      rw [if_pos rfl]
      have a1 := hm.i s j (by unfold lngk; rw [es]; rfl)
      have a2 := hm.i k' j (by unfold lngk; rw [ed]; rfl)
      refine rgk_i (by unfold lngk; rw [ed]; rfl) (by rw [ed]; decide) ?_
      split
      · exact a1
      · exact a2
    · unfold cpy2
      rw [if_neg hk']
      exact hm k' j
theorem x_istore_nZ {f : Fin 4} {i : Nat} {v : Int} {K : Int → Rs} {lv' : List (Nat × Value)} (hC : Cok g b ow cc nL dep ret) (hd : decode cc pc = .ok (.istore_n f, 1)) (hn : pc + 1 = n) (hi : (f : Nat) = i) (hi2 : i < nL) (hlv : lv.filter (fun q => !(q.1 == i) && !(q.1 + 1 == i && q.2.category == 2)) = lv') (hv : v = 0 ∨ v = 1) (hF : okR (nmv v K) Q) (kk : ∀ x, (x = 0 ∨ x = 1) → okR (K x) Q → X g b q nL Z n ((i, iV x) :: lv') st m kc ks) : X g b q nL Z pc lv (iV v :: st) m kc ks := by
  subst hn
  intro H locs cells slots ls hH hS hc hs hl
  exact lv_istore_n (lv' := (i, iV v) :: lv') hC.1 hC.2.1 hd hi hl hi2 (congrArg _ hlv) (fun ls' hl' => kk v hv hF H locs cells slots ls' hH hS hc hs hl')
theorem x_istoreZ {i : Nat} {v : Int} {K : Int → Rs} {lv' : List (Nat × Value)} (hC : Cok g b ow cc nL dep ret) (hd : decode cc pc = .ok (.istore i, 2)) (hn : pc + 2 = n) (hi2 : i < nL) (hlv : lv.filter (fun q => !(q.1 == i) && !(q.1 + 1 == i && q.2.category == 2)) = lv') (hv : v = 0 ∨ v = 1) (hF : okR (nmv v K) Q) (kk : ∀ x, (x = 0 ∨ x = 1) → okR (K x) Q → X g b q nL Z n ((i, iV x) :: lv') st m kc ks) : X g b q nL Z pc lv (iV v :: st) m kc ks := by
  subst hn
  intro H locs cells slots ls hH hS hc hs hl
  exact lv_istore (lv' := (i, iV v) :: lv') hC.1 hC.2.1 hd hl hi2 (congrArg _ hlv) (fun ls' hl' => kk v hv hF H locs cells slots ls' hH hS hc hs hl')
theorem x_callV0 {y : MethodName} {cc' : ByteArray} {nL' dep' mc ms k ci idx n0 : Nat} {ret' : Option FieldType} {As rest st0 : List Value} {o : Rs} {K : Int → Mm → Rs} {kc2 ks2 : Nat} (hC : Cok g b ow cc nL dep ret) (hd : decode cc pc = .ok (.invokevirtual idx, 3)) (hn : pc + 3 = n) (hm : Rg m)
    (hM : ∀ r m', o = some (r, m') → Cn y cc' nL' ret' dep' mc ms 0 b q m (.ref (b.1 + k) :: As) o) (hL : MLk ow idx y cc' nL' ret' n0) (hV : VLk y ci) (hk : kndA k = ci + 4) (hk9 : k < 95) (hAn : As.length = n0) (hst : st0 = As.reverse ++ .ref (b.1 + k) :: rest) (hrest : (rest.map fun v => v.category).sum ≤ 8)
    (hdep : dep' + 1 ≤ dep) (hnl : nL' ≤ 41) (hkc : kc = mc + kc2) (hks : ks = ms + ks2) (hF : okR (cll o K) Q) (kk : ∀ r m', (r = 0) → Rg m' → okR (K r m') Q → X g b q nL Z n lv (rest) m' kc2 ks2) : X g b q nL Z pc lv st0 m kc ks :=
  x_callV hC hd hn hm hM hL hV hk hk9 hAn hst hrest hdep hnl hkc hks hF kk
theorem x_callS0 {y : MethodName} {cc' : ByteArray} {nL' dep' mc ms idx n0 : Nat} {ret' : Option FieldType} {As rest st0 : List Value} {o : Rs} {K : Int → Mm → Rs} {kc2 ks2 : Nat} (hC : Cok g b ow cc nL dep ret) (hd : decode cc pc = .ok (.invokestatic idx, 3)) (hn : pc + 3 = n) (hm : Rg m)
    (hM : ∀ r m', o = some (r, m') → Cn y cc' nL' ret' dep' mc ms 0 b q m As o) (hL : MLk ow idx y cc' nL' ret' n0) (hV : Cond.static y ∈ gtb) (hAn : As.length = n0) (hst : st0 = As.reverse ++ rest) (hrest : (rest.map fun v => v.category).sum ≤ 8)
    (hdep : dep' + 1 ≤ dep) (hnl : nL' ≤ 41) (hkc : kc = mc + kc2) (hks : ks = ms + ks2) (hF : okR (cll o K) Q) (kk : ∀ r m', (r = 0) → Rg m' → okR (K r m') Q → X g b q nL Z n lv (rest) m' kc2 ks2) : X g b q nL Z pc lv st0 m kc ks :=
  x_callS hC hd hn hm hM hL hV hAn hst hrest hdep hnl hkc hks hF kk
theorem x_callV1 {y : MethodName} {cc' : ByteArray} {nL' dep' mc ms k ci idx n0 : Nat} {ret' : Option FieldType} {As rest st0 : List Value} {o : Rs} {K : Int → Mm → Rs} {kc2 ks2 : Nat} (hC : Cok g b ow cc nL dep ret) (hd : decode cc pc = .ok (.invokevirtual idx, 3)) (hn : pc + 3 = n) (hm : Rg m)
    (hM : ∀ r m', o = some (r, m') → Cn y cc' nL' ret' dep' mc ms 1 b q m (.ref (b.1 + k) :: As) o) (hL : MLk ow idx y cc' nL' ret' n0) (hV : VLk y ci) (hk : kndA k = ci + 4) (hk9 : k < 95) (hAn : As.length = n0) (hst : st0 = As.reverse ++ .ref (b.1 + k) :: rest) (hrest : (rest.map fun v => v.category).sum ≤ 8)
    (hdep : dep' + 1 ≤ dep) (hnl : nL' ≤ 41) (hkc : kc = mc + kc2) (hks : ks = ms + ks2) (hF : okR (cll o K) Q) (kk : ∀ r m', (inR r) → Rg m' → okR (K r m') Q → X g b q nL Z n lv (iV r :: rest) m' kc2 ks2) : X g b q nL Z pc lv st0 m kc ks :=
  x_callV hC hd hn hm hM hL hV hk hk9 hAn hst hrest hdep hnl hkc hks hF kk
theorem x_callS1 {y : MethodName} {cc' : ByteArray} {nL' dep' mc ms idx n0 : Nat} {ret' : Option FieldType} {As rest st0 : List Value} {o : Rs} {K : Int → Mm → Rs} {kc2 ks2 : Nat} (hC : Cok g b ow cc nL dep ret) (hd : decode cc pc = .ok (.invokestatic idx, 3)) (hn : pc + 3 = n) (hm : Rg m)
    (hM : ∀ r m', o = some (r, m') → Cn y cc' nL' ret' dep' mc ms 1 b q m As o) (hL : MLk ow idx y cc' nL' ret' n0) (hV : Cond.static y ∈ gtb) (hAn : As.length = n0) (hst : st0 = As.reverse ++ rest) (hrest : (rest.map fun v => v.category).sum ≤ 8)
    (hdep : dep' + 1 ≤ dep) (hnl : nL' ≤ 41) (hkc : kc = mc + kc2) (hks : ks = ms + ks2) (hF : okR (cll o K) Q) (kk : ∀ r m', (inR r) → Rg m' → okR (K r m') Q → X g b q nL Z n lv (iV r :: rest) m' kc2 ks2) : X g b q nL Z pc lv st0 m kc ks :=
  x_callS hC hd hn hm hM hL hV hAn hst hrest hdep hnl hkc hks hF kk
theorem x_callV2 {y : MethodName} {cc' : ByteArray} {nL' dep' mc ms k ci idx n0 : Nat} {ret' : Option FieldType} {As rest st0 : List Value} {o : Rs} {K : Int → Mm → Rs} {kc2 ks2 : Nat} (hC : Cok g b ow cc nL dep ret) (hd : decode cc pc = .ok (.invokevirtual idx, 3)) (hn : pc + 3 = n) (hm : Rg m)
    (hM : ∀ r m', o = some (r, m') → Cn y cc' nL' ret' dep' mc ms 2 b q m (.ref (b.1 + k) :: As) o) (hL : MLk ow idx y cc' nL' ret' n0) (hV : VLk y ci) (hk : kndA k = ci + 4) (hk9 : k < 95) (hAn : As.length = n0) (hst : st0 = As.reverse ++ .ref (b.1 + k) :: rest) (hrest : (rest.map fun v => v.category).sum ≤ 8)
    (hdep : dep' + 1 ≤ dep) (hnl : nL' ≤ 41) (hkc : kc = mc + kc2) (hks : ks = ms + ks2) (hF : okR (cll o K) Q) (kk : ∀ r m', (inL r) → Rg m' → okR (K r m') Q → X g b q nL Z n lv (lV r :: rest) m' kc2 ks2) : X g b q nL Z pc lv st0 m kc ks :=
  x_callV hC hd hn hm hM hL hV hk hk9 hAn hst hrest hdep hnl hkc hks hF kk
theorem x_callS2 {y : MethodName} {cc' : ByteArray} {nL' dep' mc ms idx n0 : Nat} {ret' : Option FieldType} {As rest st0 : List Value} {o : Rs} {K : Int → Mm → Rs} {kc2 ks2 : Nat} (hC : Cok g b ow cc nL dep ret) (hd : decode cc pc = .ok (.invokestatic idx, 3)) (hn : pc + 3 = n) (hm : Rg m)
    (hM : ∀ r m', o = some (r, m') → Cn y cc' nL' ret' dep' mc ms 2 b q m As o) (hL : MLk ow idx y cc' nL' ret' n0) (hV : Cond.static y ∈ gtb) (hAn : As.length = n0) (hst : st0 = As.reverse ++ rest) (hrest : (rest.map fun v => v.category).sum ≤ 8)
    (hdep : dep' + 1 ≤ dep) (hnl : nL' ≤ 41) (hkc : kc = mc + kc2) (hks : ks = ms + ks2) (hF : okR (cll o K) Q) (kk : ∀ r m', (inL r) → Rg m' → okR (K r m') Q → X g b q nL Z n lv (lV r :: rest) m' kc2 ks2) : X g b q nL Z pc lv st0 m kc ks :=
  x_callS hC hd hn hm hM hL hV hAn hst hrest hdep hnl hkc hks hF kk
theorem x_callV3 {y : MethodName} {cc' : ByteArray} {nL' dep' mc ms k ci idx n0 : Nat} {ret' : Option FieldType} {As rest st0 : List Value} {o : Rs} {K : Int → Mm → Rs} {kc2 ks2 : Nat} (hC : Cok g b ow cc nL dep ret) (hd : decode cc pc = .ok (.invokevirtual idx, 3)) (hn : pc + 3 = n) (hm : Rg m)
    (hM : ∀ r m', o = some (r, m') → Cn y cc' nL' ret' dep' mc ms 3 b q m (.ref (b.1 + k) :: As) o) (hL : MLk ow idx y cc' nL' ret' n0) (hV : VLk y ci) (hk : kndA k = ci + 4) (hk9 : k < 95) (hAn : As.length = n0) (hst : st0 = As.reverse ++ .ref (b.1 + k) :: rest) (hrest : (rest.map fun v => v.category).sum ≤ 8)
    (hdep : dep' + 1 ≤ dep) (hnl : nL' ≤ 41) (hkc : kc = mc + kc2) (hks : ks = ms + ks2) (hF : okR (cll o K) Q) (kk : ∀ r m', (r = 0 ∨ r = 1) → Rg m' → okR (K r m') Q → X g b q nL Z n lv (iV r :: rest) m' kc2 ks2) : X g b q nL Z pc lv st0 m kc ks :=
  x_callV hC hd hn hm hM hL hV hk hk9 hAn hst hrest hdep hnl hkc hks hF kk
theorem x_callS3 {y : MethodName} {cc' : ByteArray} {nL' dep' mc ms idx n0 : Nat} {ret' : Option FieldType} {As rest st0 : List Value} {o : Rs} {K : Int → Mm → Rs} {kc2 ks2 : Nat} (hC : Cok g b ow cc nL dep ret) (hd : decode cc pc = .ok (.invokestatic idx, 3)) (hn : pc + 3 = n) (hm : Rg m)
    (hM : ∀ r m', o = some (r, m') → Cn y cc' nL' ret' dep' mc ms 3 b q m As o) (hL : MLk ow idx y cc' nL' ret' n0) (hV : Cond.static y ∈ gtb) (hAn : As.length = n0) (hst : st0 = As.reverse ++ rest) (hrest : (rest.map fun v => v.category).sum ≤ 8)
    (hdep : dep' + 1 ≤ dep) (hnl : nL' ≤ 41) (hkc : kc = mc + kc2) (hks : ks = ms + ks2) (hF : okR (cll o K) Q) (kk : ∀ r m', (r = 0 ∨ r = 1) → Rg m' → okR (K r m') Q → X g b q nL Z n lv (iV r :: rest) m' kc2 ks2) : X g b q nL Z pc lv st0 m kc ks :=
  x_callS hC hd hn hm hM hL hV hAn hst hrest hdep hnl hkc hks hF kk
theorem x_callVS1 {y : MethodName} {cc' : ByteArray} {nL' dep' mc ms idx n0 : Nat} {ret' : Option FieldType} {As rest st0 : List Value} {o : Rs} {K : Int → Mm → Rs} {kc2 ks2 : Nat} (hC : Cok g b ow cc nL dep ret) (hd : decode cc pc = .ok (.invokevirtual idx, 3)) (hn : pc + 3 = n) (hm : Rg m)
    (hM : ∀ r m', o = some (r, m') → Cn y cc' nL' ret' dep' mc ms 1 b q m (.ref (bT b) :: As) o) (hL : MLk ow idx y cc' nL' ret' n0) (hV : Cond.instanceMethod y ∈ gtb ∧ Cond.selects "java/lang/String" y y ∈ gtb ∧ y.cls = "java/lang/String") (hAn : As.length = n0) (hst : st0 = As.reverse ++ .ref (bT b) :: rest) (hrest : (rest.map fun v => v.category).sum ≤ 8)
    (hdep : dep' + 1 ≤ dep) (hnl : nL' ≤ 41) (hkc : kc = mc + kc2) (hks : ks = ms + ks2) (hF : okR (cll o K) Q) (kk : ∀ r m', (inR r) → Rg m' → okR (K r m') Q → X g b q nL Z n lv (iV r :: rest) m' kc2 ks2) : X g b q nL Z pc lv st0 m kc ks :=
  x_callVS hC hd hn hm hM hL hV hAn hst hrest hdep hnl hkc hks hF kk
theorem x_callVS3 {y : MethodName} {cc' : ByteArray} {nL' dep' mc ms idx n0 : Nat} {ret' : Option FieldType} {As rest st0 : List Value} {o : Rs} {K : Int → Mm → Rs} {kc2 ks2 : Nat} (hC : Cok g b ow cc nL dep ret) (hd : decode cc pc = .ok (.invokevirtual idx, 3)) (hn : pc + 3 = n) (hm : Rg m)
    (hM : ∀ r m', o = some (r, m') → Cn y cc' nL' ret' dep' mc ms 3 b q m (.ref (bT b) :: As) o) (hL : MLk ow idx y cc' nL' ret' n0) (hV : Cond.instanceMethod y ∈ gtb ∧ Cond.selects "java/lang/String" y y ∈ gtb ∧ y.cls = "java/lang/String") (hAn : As.length = n0) (hst : st0 = As.reverse ++ .ref (bT b) :: rest) (hrest : (rest.map fun v => v.category).sum ≤ 8)
    (hdep : dep' + 1 ≤ dep) (hnl : nL' ≤ 41) (hkc : kc = mc + kc2) (hks : ks = ms + ks2) (hF : okR (cll o K) Q) (kk : ∀ r m', (r = 0 ∨ r = 1) → Rg m' → okR (K r m') Q → X g b q nL Z n lv (iV r :: rest) m' kc2 ks2) : X g b q nL Z pc lv st0 m kc ks :=
  x_callVS hC hd hn hm hM hL hV hAn hst hrest hdep hnl hkc hks hF kk
theorem x_callSN1 {y : MethodName} {cc' : ByteArray} {nL' dep' mc ms idx n0 : Nat} {ret' : Option FieldType} {As rest st0 : List Value} {o : Rs} {K : Int → Mm → Rs} {kc2 ks2 : Nat} (hC : Cok g b ow cc nL dep ret) (hd : decode cc pc = .ok (.invokestatic idx, 3)) (hn : pc + 3 = n) (hm : Rg m)
    (hM : ∀ r m', o = some (r, m') → Cn y cc' nL' ret' dep' mc ms 1 b q m As o) (hL : NLk ow idx y cc' nL' ret' n0) (hV : Cond.static y ∈ gtb) (hAn : As.length = n0) (hst : st0 = As.reverse ++ rest) (hrest : (rest.map fun v => v.category).sum ≤ 8)
    (hdep : dep' + 1 ≤ dep) (hnl : nL' ≤ 41) (hkc : kc = mc + kc2) (hks : ks = ms + ks2) (hF : okR (cll o K) Q) (kk : ∀ r m', (inR r) → Rg m' → okR (K r m') Q → X g b q nL Z n lv (iV r :: rest) m' kc2 ks2) : X g b q nL Z pc lv st0 m kc ks :=
  x_callSN hC hd hn hm hM hL hV hAn hst hrest hdep hnl hkc hks hF kk
theorem x_callSN3 {y : MethodName} {cc' : ByteArray} {nL' dep' mc ms idx n0 : Nat} {ret' : Option FieldType} {As rest st0 : List Value} {o : Rs} {K : Int → Mm → Rs} {kc2 ks2 : Nat} (hC : Cok g b ow cc nL dep ret) (hd : decode cc pc = .ok (.invokestatic idx, 3)) (hn : pc + 3 = n) (hm : Rg m)
    (hM : ∀ r m', o = some (r, m') → Cn y cc' nL' ret' dep' mc ms 3 b q m As o) (hL : NLk ow idx y cc' nL' ret' n0) (hV : Cond.static y ∈ gtb) (hAn : As.length = n0) (hst : st0 = As.reverse ++ rest) (hrest : (rest.map fun v => v.category).sum ≤ 8)
    (hdep : dep' + 1 ≤ dep) (hnl : nL' ≤ 41) (hkc : kc = mc + kc2) (hks : ks = ms + ks2) (hF : okR (cll o K) Q) (kk : ∀ r m', (r = 0 ∨ r = 1) → Rg m' → okR (K r m') Q → X g b q nL Z n lv (iV r :: rest) m' kc2 ks2) : X g b q nL Z pc lv st0 m kc ks :=
  x_callSN hC hd hn hm hM hL hV hAn hst hrest hdep hnl hkc hks hF kk
end XS

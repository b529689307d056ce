/-! more rows over X: guards, moved references, switches, copies, calls by the kind of the answer -/
theorem rgc (c : Int) (h : decide (-2147483648 ≤ c ∧ c ≤ 2147483647) = true) : inR c := show _ ∧ _ from of_decide_eq_true h
theorem rgcL (c : Int) (h : decide (-9223372036854775808 ≤ c ∧ c ≤ 9223372036854775807) = true) : inL c := show _ ∧ _ from of_decide_eq_true h
theorem rg_nat (x : Int) (h : inR x) : inR ((x.toNat : Nat) : Int) := by unfold inR at *; omega
theorem nar_i2b (x : Int) : vp_nar .byte (Int32.ofInt (i2b x)) = Int32.ofInt (i2b x) := by
  unfold i2b; rw [of_tI]; exact pk_vb _
def cLen (j : Nat) : Nat := if j < 2 then 200 else 14
def CdK (c : Nat) : Prop := kndA c = 0 + 4 ∧ c < 95 ∧ own2 c = true ∧ ∀ j, j < 5 → ftg c j = c + (j + 1) ∧ cknd (c + (j + 1)) = (0, cLen j) ∧ c + (j + 1) < 95 ∧ own2 (c + (j + 1)) = true
theorem CdK.lg {c : Nat} (h : CdK c) : lngk c = false := by unfold lngk; rw [h.1]; rfl
theorem CdK.n0 {c : Nat} (h : CdK c) : c ≠ 0 := fun e => by have := h.2.2.2 0 (by decide); subst e; exact absurd h.1 (by decide)
abbrev isCd (c : Nat) : Prop := c = 20 ∨ c = 26
theorem isCd_k {c : Nat} (h : isCd c) : CdK c := by
  rcases h with rfl | rfl <;> exact ⟨by decide, by decide, by decide, by decide⟩
abbrev isRw (c : Nat) : Prop := c = 41 ∨ c = 42
theorem isRw_k {c : Nat} (h : isRw c) : cknd c = (2, 9) ∧ c < 95 ∧ own2 c = true := by
  rcases h with rfl | rfl <;> exact ⟨by decide, by decide, by decide⟩
abbrev isDI (m : Mm) (c : Nat) : Prop := c = 51 ∨ (95 ≤ c ∧ c < cntD m)
def onl (i : Int) (K : Int → Rs) : Rs := if 0 ≤ i ∧ i < 5 then K (oneF i.toNat) else none
theorem rg_lenA {m : Mm} (h : Rg m) (k : Nat) : inR ((lenA m k : Nat) : Int) := by
  unfold lenA
  by_cases hk : k < 95
  · rw [if_pos hk]
    have : ∀ k, k < 95 → (cknd k).2 ≤ 100000 := by decide
    have := this k hk
    unfold inR; omega
  · rw [if_neg hk]; exact rg_nat _ (h.i 0 _ rfl)
def cpyR (n : Nat) (src dst : Nat → Int) : Nat → Int := fun j => if j < n then src j else dst j
def cpy2 (m : Mm) (s d n : Nat) : Mm := fun k => if k = d then cpyR n (m s) (m d) else m k
def cpy (m : Mm) (s d n : Nat) (K : Mm → Rs) : Rs := K (cpy2 m s d n)
section XS
variable {g : Gx} {b : Bs} {q : Sd} {nL dep : Nat} {Z : State → Prop} {ow : String} {cc : ByteArray} {ret : Option FieldType} {pc n : Nat} {lv : List (Nat × Value)} {st : List Value} {m : Mm} {kc ks : Nat} {Q : Int → Mm → Prop}
theorem x_grd {c : Prop} [Decidable c] {K : Rs} (hF : okR (grd c K) Q) (kk : c → okR K Q → X g b q nL Z pc lv st m kc ks) : X g b q nL Z pc lv st m kc ks := by
  by_cases h : c
  · exact kk h ((okR_ite hF).1 h)
  · exact absurd ((okR_ite hF).2 h) (fun z => z)
theorem di_k {o : Mm} {c : Nat} (h : isDI m c) : kndA c = 0 ∧ c < cntD (fm (true, o) m) ∧ c ≠ 0 ∧ lenA (fm (true, o) m) c = lenA m c ∧ own2 c = true ∧ lngk c = false := by
  have e0 : fm (true, o) m 0 = m 0 := fm_at rfl
  have ec : cntD (fm (true, o) m) = cntD m := by unfold cntD; rw [e0]
  have el : lenA (fm (true, o) m) c = lenA m c := by unfold lenA; rw [e0]
  rw [ec, el]
  rcases h with rfl | ⟨h1, h2⟩
  · exact ⟨rfl, lt95 _ (by decide), by decide, rfl, rfl, rfl⟩
  · have e1 : kndA c = 0 := by unfold kndA; rw [if_neg (by omega)]
    exact ⟨e1, h2, by omega, rfl, by unfold own2; simp; omega, by unfold lngk; rw [e1]; rfl⟩
theorem x_ialdD {o : Mm} {c : Nat} {i : Int} {K : Int → Rs} (hC : Cok g b ow cc nL dep ret) (hd : decode cc pc = .ok (.iaload, 1)) (hn : pc + 1 = n) (hc : isDI m c) (hm : Rg m) (hi : inR i) (hF : okR (ald m c (lenA m c) i K) Q) (kk : ∀ v, inR v → okR (K v) Q → X g b (true, o) nL Z n lv (iV v :: st) m kc ks) : X g b (true, o) nL Z pc lv (iV i :: .ref (b.1 + c) :: st) m kc ks := by
  obtain ⟨h1, h2, h3, h4, h5, h6⟩ := di_k (o := o) hc
  exact x_ialdG hC hd hn h1 h2 h4 h5 h6 hm hi hF kk
theorem x_iastD {o : Mm} {c : Nat} {i v : Int} {K : Mm → Rs} (hC : Cok g b ow cc nL dep ret) (hd : decode cc pc = .ok (.iastore, 1)) (hn : pc + 1 = n) (hc : isDI m c) (hm : Rg m) (hi : inR i) (hv : inR v) (hF : okR (ast m c (lenA m c) i v K) Q) (kk : ∀ m', Rg m' → okR (K m') Q → X g b (true, o) nL Z n lv st m' kc ks) : X g b (true, o) nL Z pc lv (iV v :: iV i :: .ref (b.1 + c) :: st) m kc ks := by
  obtain ⟨h1, h2, h3, h4, h5, h6⟩ := di_k (o := o) hc
  exact x_iastG hC hd hn h1 h2 h3 h4 h5 h6 hm hi hv hF kk
theorem x_alenD {o : Mm} {c : Nat} (hC : Cok g b ow cc nL dep ret) (hd : decode cc pc = .ok (.arraylength, 1)) (hn : pc + 1 = n) (hc : isDI m c) (kk : X g b (true, o) nL Z n lv (iV ((lenA m c : Nat) : Int) :: st) m kc ks) : X g b (true, o) nL Z pc lv (.ref (b.1 + c) :: st) m kc ks := by
  obtain ⟨h1, h2, h3, h4, h5, h6⟩ := di_k (o := o) hc
  exact x_alenI hC hd hn h1 h2 h4 kk
theorem x_alenS {k L : Nat} {x : Int} (hC : Cok g b ow cc nL dep ret) (hd : decode cc pc = .ok (.arraylength, 1)) (hn : pc + 1 = n) (hk : cknd k = (0, L)) (hk9 : k < 95) (hx : (L : Int) = x) (kk : X g b q nL Z n lv (iV x :: st) m kc ks) : X g b q nL Z pc lv (.ref (b.1 + k) :: st) m kc ks := by
  subst hx
  exact x_alenI hC hd hn (by unfold kndA; rw [if_pos hk9, hk]) (lt95 _ hk9) (by unfold lenA; rw [if_pos hk9, hk]) kk
theorem x_tab1 {x v off dflt lo hi : Int} {offs : Array Int} {len tgt : Nat} {A B : Rs} (hC : Cok g b ow cc nL dep ret) (hd : decode cc pc = .ok (.tableswitch dflt lo hi offs, len)) (hv : (decide (¬ v < lo) && decide (¬ hi < v) && decide (offs[(v - lo).toNat]? = some off)) = true) (ht : (pc : Int) + off = (tgt : Int)) (hx : inR x) (hF : okR (if x = v then A else B) Q) (kt : x = v → okR A Q → X g b q nL Z tgt lv st m kc ks) (kf : ¬ x = v → okR B Q → X g b q nL Z pc lv (iV x :: st) m kc ks) : X g b q nL Z pc lv (iV x :: st) m kc ks := by
  have h0 := okR_ite hF
  simp only [Bool.and_eq_true, decide_eq_true_eq] at hv
  by_cases e : x = v
  · intro H locs cells slots ls hH hS hc hs hl
    have k := kt e (h0.1 e) H locs cells slots ls hH hS hc hs hl
    exact lv_tableIn hC.1 hC.2.1 hd (by rw [t_ofI' hx, e]; exact hv.1.1) (by rw [t_ofI' hx, e]; exact hv.1.2) (by rw [t_ofI' hx, e]; exact hv.2) ht k
  · exact kf e (h0.2 e)
theorem x_tabD {x dflt lo hi : Int} {offs : Array Int} {len tgt : Nat} (ex : List Int) (hC : Cok g b ow cc nL dep ret) (hd : decode cc pc = .ok (.tableswitch dflt lo hi offs, len)) (ht : (pc : Int) + dflt = (tgt : Int)) (hx : inR x) (hall : ((List.range (hi - lo + 1).toNat).all fun i => decide (offs[i]? = some dflt) || decide ((lo + (i : Int)) ∈ ex)) = true) (hex : ∀ v ∈ ex, ¬ x = v) (kk : X g b q nL Z tgt lv st m kc ks) : X g b q nL Z pc lv (iV x :: st) m kc ks := by
  intro H locs cells slots ls hH hS hc hs hl
  have k := kk H locs cells slots ls hH hS hc hs hl
  by_cases h1 : x < lo ∨ hi < x
  · exact lv_tableOut hC.1 hC.2.1 hd (by rw [t_ofI' hx]; exact h1) ht k
  · have h2 := List.all_eq_true.mp hall (x - lo).toNat (List.mem_range.mpr (by omega))
    simp only [Bool.or_eq_true, decide_eq_true_eq] at h2
    rcases h2 with h2 | h2
    · exact lv_tableIn hC.1 hC.2.1 hd (by rw [t_ofI' hx]; omega) (by rw [t_ofI' hx]; omega) (by rw [t_ofI' hx]; exact h2) ht k
    · exact absurd (by omega) (hex _ h2)
theorem look_dflt {dflt x : Int} : ∀ {ps : List (Int × Int)}, (∀ v ∈ ps.map (·.1), ¬ x = v) → Op.lookupswitch.offset ps dflt x = dflt
  | [], _ => rfl
  | (a, o) :: r, h => by
    rw [Op.lookupswitch.offset_cons, if_neg (fun e => h a List.mem_cons_self e.symm)]
    exact look_dflt (fun v hv => h v (List.mem_cons_of_mem _ hv))
theorem x_look1 {x v off dflt : Int} {ps : Array (Int × Int)} {len tgt : Nat} {A B : Rs} (hC : Cok g b ow cc nL dep ret) (hd : decode cc pc = .ok (.lookupswitch dflt ps, len)) (hv : ((ps.toList.zip (ps.toList.drop 1)).all (fun (a, next) => a.1 < next.1) && decide (Op.lookupswitch.offset ps.toList dflt v = off)) = true) (ht : (pc : Int) + off = (tgt : Int)) (hx : inR x) (hF : okR (if x = v then A else B) Q) (kt : x = v → okR A Q → X g b q nL Z tgt lv st m kc ks) (kf : ¬ x = v → okR B Q → X g b q nL Z pc lv (iV x :: st) m kc ks) : X g b q nL Z pc lv (iV x :: st) m kc ks := by
  have h0 := okR_ite hF
  rw [Bool.and_eq_true, decide_eq_true_eq] at hv
  by_cases e : x = v
  · intro H locs cells slots ls hH hS hc hs hl
    have k := kt e (h0.1 e) H locs cells slots ls hH hS hc hs hl
    exact lv_lookup hC.1 hC.2.1 hd hv.1 (by rw [t_ofI' hx, e]; exact hv.2) ht k
  · exact kf e (h0.2 e)
theorem x_lookD {x dflt : Int} {ps : Array (Int × Int)} {len tgt : Nat} (ex : List Int) (hC : Cok g b ow cc nL dep ret) (hd : decode cc pc = .ok (.lookupswitch dflt ps, len)) (ht : (pc : Int) + dflt = (tgt : Int)) (hx : inR x) (hall : ((ps.toList.zip (ps.toList.drop 1)).all (fun (a, next) => a.1 < next.1) && decide (ps.toList.map (·.1) = ex)) = true) (hex : ∀ v ∈ ex, ¬ x = v) (kk : X g b q nL Z tgt lv st m kc ks) : X g b q nL Z pc lv (iV x :: st) m kc ks := by
  intro H locs cells slots ls hH hS hc hs hl
  have k := kk H locs cells slots ls hH hS hc hs hl
  rw [Bool.and_eq_true, decide_eq_true_eq] at hall
  exact lv_lookup hC.1 hC.2.1 hd hall.1 (by rw [t_ofI' hx]; exact look_dflt (by rw [hall.2]; exact hex)) ht k
theorem x_istore_nZ {f : Fin 4} {i : Nat} {v : Int} {K : Int → Rs} {lv' : List (Nat × Value)} (hC : Cok g b ow cc nL dep ret) (hd : decode cc pc = .ok (.istore_n f, 1)) (hn : pc + 1 = n) (hi : (f : Nat) = i) (hi2 : i < nL) (hlv : lv.filter (fun q => !(q.1 == i) && !(q.1 + 1 == i && q.2.category == 2)) = lv') (hv : v = 0 ∨ v = 1) (hF : okR (nmv v K) Q) (kk : ∀ x, (x = 0 ∨ x = 1) → okR (K x) Q → X g b q nL Z n ((i, iV x) :: lv') st m kc ks) : X g b q nL Z pc lv (iV v :: st) m kc ks := by
  subst hn
  intro H locs cells slots ls hH hS hc hs hl
  exact lv_istore_n (lv' := (i, iV v) :: lv') hC.1 hC.2.1 hd hi hl hi2 (congrArg _ hlv) (fun ls' hl' => kk v hv hF H locs cells slots ls' hH hS hc hs hl')
theorem x_istoreZ {i : Nat} {v : Int} {K : Int → Rs} {lv' : List (Nat × Value)} (hC : Cok g b ow cc nL dep ret) (hd : decode cc pc = .ok (.istore i, 2)) (hn : pc + 2 = n) (hi2 : i < nL) (hlv : lv.filter (fun q => !(q.1 == i) && !(q.1 + 1 == i && q.2.category == 2)) = lv') (hv : v = 0 ∨ v = 1) (hF : okR (nmv v K) Q) (kk : ∀ x, (x = 0 ∨ x = 1) → okR (K x) Q → X g b q nL Z n ((i, iV x) :: lv') st m kc ks) : X g b q nL Z pc lv (iV v :: st) m kc ks := by
  subst hn
  intro H locs cells slots ls hH hS hc hs hl
  exact lv_istore (lv' := (i, iV v) :: lv') hC.1 hC.2.1 hd hl hi2 (congrArg _ hlv) (fun ls' hl' => kk v hv hF H locs cells slots ls' hH hS hc hs hl')
theorem x_callV0 {y : MethodName} {cc' : ByteArray} {nL' dep' mc ms k ci idx n0 : Nat} {ret' : Option FieldType} {As rest st0 : List Value} {o : Rs} {K : Int → Mm → Rs} {kc2 ks2 : Nat} (hC : Cok g b ow cc nL dep ret) (hd : decode cc pc = .ok (.invokevirtual idx, 3)) (hn : pc + 3 = n) (hm : Rg m)
    (hM : ∀ r m', o = some (r, m') → Cn y cc' nL' ret' dep' mc ms 0 b q m (.ref (b.1 + k) :: As) o) (hL : MLk ow idx y cc' nL' ret' n0) (hV : VLk y ci) (hk : kndA k = ci + 4) (hk9 : k < 95) (hAn : As.length = n0) (hst : st0 = As.reverse ++ .ref (b.1 + k) :: rest) (hrest : (rest.map fun v => v.category).sum ≤ 8)
    (hdep : dep' + 1 ≤ dep) (hnl : nL' ≤ 41) (hkc : kc = mc + kc2) (hks : ks = ms + ks2) (hF : okR (cll o K) Q) (kk : ∀ r m', (r = 0) → Rg m' → okR (K r m') Q → X g b q nL Z n lv (rest) m' kc2 ks2) : X g b q nL Z pc lv st0 m kc ks :=
  x_callV hC hd hn hm hM hL hV hk hk9 hAn hst hrest hdep hnl hkc hks hF kk
theorem x_callS0 {y : MethodName} {cc' : ByteArray} {nL' dep' mc ms idx n0 : Nat} {ret' : Option FieldType} {As rest st0 : List Value} {o : Rs} {K : Int → Mm → Rs} {kc2 ks2 : Nat} (hC : Cok g b ow cc nL dep ret) (hd : decode cc pc = .ok (.invokestatic idx, 3)) (hn : pc + 3 = n) (hm : Rg m)
    (hM : ∀ r m', o = some (r, m') → Cn y cc' nL' ret' dep' mc ms 0 b q m As o) (hL : MLk ow idx y cc' nL' ret' n0) (hV : Cond.static y ∈ gtb) (hAn : As.length = n0) (hst : st0 = As.reverse ++ rest) (hrest : (rest.map fun v => v.category).sum ≤ 8)
    (hdep : dep' + 1 ≤ dep) (hnl : nL' ≤ 41) (hkc : kc = mc + kc2) (hks : ks = ms + ks2) (hF : okR (cll o K) Q) (kk : ∀ r m', (r = 0) → Rg m' → okR (K r m') Q → X g b q nL Z n lv (rest) m' kc2 ks2) : X g b q nL Z pc lv st0 m kc ks :=
  x_callS hC hd hn hm hM hL hV hAn hst hrest hdep hnl hkc hks hF kk
theorem x_callV1 {y : MethodName} {cc' : ByteArray} {nL' dep' mc ms k ci idx n0 : Nat} {ret' : Option FieldType} {As rest st0 : List Value} {o : Rs} {K : Int → Mm → Rs} {kc2 ks2 : Nat} (hC : Cok g b ow cc nL dep ret) (hd : decode cc pc = .ok (.invokevirtual idx, 3)) (hn : pc + 3 = n) (hm : Rg m)
    (hM : ∀ r m', o = some (r, m') → Cn y cc' nL' ret' dep' mc ms 1 b q m (.ref (b.1 + k) :: As) o) (hL : MLk ow idx y cc' nL' ret' n0) (hV : VLk y ci) (hk : kndA k = ci + 4) (hk9 : k < 95) (hAn : As.length = n0) (hst : st0 = As.reverse ++ .ref (b.1 + k) :: rest) (hrest : (rest.map fun v => v.category).sum ≤ 8)
    (hdep : dep' + 1 ≤ dep) (hnl : nL' ≤ 41) (hkc : kc = mc + kc2) (hks : ks = ms + ks2) (hF : okR (cll o K) Q) (kk : ∀ r m', (inR r) → Rg m' → okR (K r m') Q → X g b q nL Z n lv (iV r :: rest) m' kc2 ks2) : X g b q nL Z pc lv st0 m kc ks :=
  x_callV hC hd hn hm hM hL hV hk hk9 hAn hst hrest hdep hnl hkc hks hF kk
theorem x_callS1 {y : MethodName} {cc' : ByteArray} {nL' dep' mc ms idx n0 : Nat} {ret' : Option FieldType} {As rest st0 : List Value} {o : Rs} {K : Int → Mm → Rs} {kc2 ks2 : Nat} (hC : Cok g b ow cc nL dep ret) (hd : decode cc pc = .ok (.invokestatic idx, 3)) (hn : pc + 3 = n) (hm : Rg m)
    (hM : ∀ r m', o = some (r, m') → Cn y cc' nL' ret' dep' mc ms 1 b q m As o) (hL : MLk ow idx y cc' nL' ret' n0) (hV : Cond.static y ∈ gtb) (hAn : As.length = n0) (hst : st0 = As.reverse ++ rest) (hrest : (rest.map fun v => v.category).sum ≤ 8)
    (hdep : dep' + 1 ≤ dep) (hnl : nL' ≤ 41) (hkc : kc = mc + kc2) (hks : ks = ms + ks2) (hF : okR (cll o K) Q) (kk : ∀ r m', (inR r) → Rg m' → okR (K r m') Q → X g b q nL Z n lv (iV r :: rest) m' kc2 ks2) : X g b q nL Z pc lv st0 m kc ks :=
  x_callS hC hd hn hm hM hL hV hAn hst hrest hdep hnl hkc hks hF kk
theorem x_callV2 {y : MethodName} {cc' : ByteArray} {nL' dep' mc ms k ci idx n0 : Nat} {ret' : Option FieldType} {As rest st0 : List Value} {o : Rs} {K : Int → Mm → Rs} {kc2 ks2 : Nat} (hC : Cok g b ow cc nL dep ret) (hd : decode cc pc = .ok (.invokevirtual idx, 3)) (hn : pc + 3 = n) (hm : Rg m)
    (hM : ∀ r m', o = some (r, m') → Cn y cc' nL' ret' dep' mc ms 2 b q m (.ref (b.1 + k) :: As) o) (hL : MLk ow idx y cc' nL' ret' n0) (hV : VLk y ci) (hk : kndA k = ci + 4) (hk9 : k < 95) (hAn : As.length = n0) (hst : st0 = As.reverse ++ .ref (b.1 + k) :: rest) (hrest : (rest.map fun v => v.category).sum ≤ 8)
    (hdep : dep' + 1 ≤ dep) (hnl : nL' ≤ 41) (hkc : kc = mc + kc2) (hks : ks = ms + ks2) (hF : okR (cll o K) Q) (kk : ∀ r m', (inL r) → Rg m' → okR (K r m') Q → X g b q nL Z n lv (lV r :: rest) m' kc2 ks2) : X g b q nL Z pc lv st0 m kc ks :=
  x_callV hC hd hn hm hM hL hV hk hk9 hAn hst hrest hdep hnl hkc hks hF kk
theorem x_callS2 {y : MethodName} {cc' : ByteArray} {nL' dep' mc ms idx n0 : Nat} {ret' : Option FieldType} {As rest st0 : List Value} {o : Rs} {K : Int → Mm → Rs} {kc2 ks2 : Nat} (hC : Cok g b ow cc nL dep ret) (hd : decode cc pc = .ok (.invokestatic idx, 3)) (hn : pc + 3 = n) (hm : Rg m)
    (hM : ∀ r m', o = some (r, m') → Cn y cc' nL' ret' dep' mc ms 2 b q m As o) (hL : MLk ow idx y cc' nL' ret' n0) (hV : Cond.static y ∈ gtb) (hAn : As.length = n0) (hst : st0 = As.reverse ++ rest) (hrest : (rest.map fun v => v.category).sum ≤ 8)
    (hdep : dep' + 1 ≤ dep) (hnl : nL' ≤ 41) (hkc : kc = mc + kc2) (hks : ks = ms + ks2) (hF : okR (cll o K) Q) (kk : ∀ r m', (inL r) → Rg m' → okR (K r m') Q → X g b q nL Z n lv (lV r :: rest) m' kc2 ks2) : X g b q nL Z pc lv st0 m kc ks :=
  x_callS hC hd hn hm hM hL hV hAn hst hrest hdep hnl hkc hks hF kk
theorem x_callV3 {y : MethodName} {cc' : ByteArray} {nL' dep' mc ms k ci idx n0 : Nat} {ret' : Option FieldType} {As rest st0 : List Value} {o : Rs} {K : Int → Mm → Rs} {kc2 ks2 : Nat} (hC : Cok g b ow cc nL dep ret) (hd : decode cc pc = .ok (.invokevirtual idx, 3)) (hn : pc + 3 = n) (hm : Rg m)
    (hM : ∀ r m', o = some (r, m') → Cn y cc' nL' ret' dep' mc ms 3 b q m (.ref (b.1 + k) :: As) o) (hL : MLk ow idx y cc' nL' ret' n0) (hV : VLk y ci) (hk : kndA k = ci + 4) (hk9 : k < 95) (hAn : As.length = n0) (hst : st0 = As.reverse ++ .ref (b.1 + k) :: rest) (hrest : (rest.map fun v => v.category).sum ≤ 8)
    (hdep : dep' + 1 ≤ dep) (hnl : nL' ≤ 41) (hkc : kc = mc + kc2) (hks : ks = ms + ks2) (hF : okR (cll o K) Q) (kk : ∀ r m', (r = 0 ∨ r = 1) → Rg m' → okR (K r m') Q → X g b q nL Z n lv (iV r :: rest) m' kc2 ks2) : X g b q nL Z pc lv st0 m kc ks :=
  x_callV hC hd hn hm hM hL hV hk hk9 hAn hst hrest hdep hnl hkc hks hF kk
theorem x_callS3 {y : MethodName} {cc' : ByteArray} {nL' dep' mc ms idx n0 : Nat} {ret' : Option FieldType} {As rest st0 : List Value} {o : Rs} {K : Int → Mm → Rs} {kc2 ks2 : Nat} (hC : Cok g b ow cc nL dep ret) (hd : decode cc pc = .ok (.invokestatic idx, 3)) (hn : pc + 3 = n) (hm : Rg m)
    (hM : ∀ r m', o = some (r, m') → Cn y cc' nL' ret' dep' mc ms 3 b q m As o) (hL : MLk ow idx y cc' nL' ret' n0) (hV : Cond.static y ∈ gtb) (hAn : As.length = n0) (hst : st0 = As.reverse ++ rest) (hrest : (rest.map fun v => v.category).sum ≤ 8)
    (hdep : dep' + 1 ≤ dep) (hnl : nL' ≤ 41) (hkc : kc = mc + kc2) (hks : ks = ms + ks2) (hF : okR (cll o K) Q) (kk : ∀ r m', (r = 0 ∨ r = 1) → Rg m' → okR (K r m') Q → X g b q nL Z n lv (iV r :: rest) m' kc2 ks2) : X g b q nL Z pc lv st0 m kc ks :=
  x_callS hC hd hn hm hM hL hV hAn hst hrest hdep hnl hkc hks hF kk
theorem x_callSN1 {y : MethodName} {cc' : ByteArray} {nL' dep' mc ms idx n0 : Nat} {ret' : Option FieldType} {As rest st0 : List Value} {o : Rs} {K : Int → Mm → Rs} {kc2 ks2 : Nat} (hC : Cok g b ow cc nL dep ret) (hd : decode cc pc = .ok (.invokestatic idx, 3)) (hn : pc + 3 = n) (hm : Rg m)
    (hM : ∀ r m', o = some (r, m') → Cn y cc' nL' ret' dep' mc ms 1 b q m As o) (hL : NLk ow idx y cc' nL' ret' n0) (hV : Cond.static y ∈ gtb) (hAn : As.length = n0) (hst : st0 = As.reverse ++ rest) (hrest : (rest.map fun v => v.category).sum ≤ 8)
    (hdep : dep' + 1 ≤ dep) (hnl : nL' ≤ 41) (hkc : kc = mc + kc2) (hks : ks = ms + ks2) (hF : okR (cll o K) Q) (kk : ∀ r m', (inR r) → Rg m' → okR (K r m') Q → X g b q nL Z n lv (iV r :: rest) m' kc2 ks2) : X g b q nL Z pc lv st0 m kc ks :=
  x_callSN hC hd hn hm hM hL hV hAn hst hrest hdep hnl hkc hks hF kk
theorem x_callSN3 {y : MethodName} {cc' : ByteArray} {nL' dep' mc ms idx n0 : Nat} {ret' : Option FieldType} {As rest st0 : List Value} {o : Rs} {K : Int → Mm → Rs} {kc2 ks2 : Nat} (hC : Cok g b ow cc nL dep ret) (hd : decode cc pc = .ok (.invokestatic idx, 3)) (hn : pc + 3 = n) (hm : Rg m)
    (hM : ∀ r m', o = some (r, m') → Cn y cc' nL' ret' dep' mc ms 3 b q m As o) (hL : NLk ow idx y cc' nL' ret' n0) (hV : Cond.static y ∈ gtb) (hAn : As.length = n0) (hst : st0 = As.reverse ++ rest) (hrest : (rest.map fun v => v.category).sum ≤ 8)
    (hdep : dep' + 1 ≤ dep) (hnl : nL' ≤ 41) (hkc : kc = mc + kc2) (hks : ks = ms + ks2) (hF : okR (cll o K) Q) (kk : ∀ r m', (r = 0 ∨ r = 1) → Rg m' → okR (K r m') Q → X g b q nL Z n lv (iV r :: rest) m' kc2 ks2) : X g b q nL Z pc lv st0 m kc ks :=
  x_callSN hC hd hn hm hM hL hV hAn hst hrest hdep hnl hkc hks hF kk
end XS

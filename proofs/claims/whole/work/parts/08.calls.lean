/-! calls and ends over X; a contract out of a walk -/
def MLk (ow : String) (idx : Nat) (y : MethodName) (cc : ByteArray) (nL : Nat) (ret : Option FieldType) (n : Nat) : Prop :=
  Cond.methodLink ow idx y ∈ gtb ∧ Cond.initialized y.cls ∈ gtb ∧ Cond.code y cc nL ret ∈ gtb ∧ (y.cls ≠ "java/lang/invoke/MethodHandle" ∧ y.cls ≠ "java/lang/invoke/VarHandle") ∧ (parseMethodDescriptor y.desc).map (fun d => d.parameters.length) = some n
def VLk (y : MethodName) (ci : Nat) : Prop := Cond.instanceMethod y ∈ gtb ∧ Cond.selects y.cls y y ∈ gtb ∧ ∃ T N, vwCl[ci]? = some (y.cls, T, N)
theorem PcM_blind (b : Bs) (q : Sd) (m : Mm) (av : List Value) : FrameBlind (PcM b q m av) := by
  intro a U g mk h
  obtain ⟨h1, h2, h3, h4⟩ := h
  exact ⟨h1, h2, h3.mv (U := U.calling g mk a) (nst_same rfl) (vk_R.same rfl) (Vm.Alike.refl U.vm) (Nat.le_refl _) (fun _ _ _ => rfl), h4⟩
section XC
variable {g : Gx} {b : Bs} {q : Sd} {nL dep : Nat} {Z : State → Prop} {ow : String} {cc : ByteArray} {ret : Option FieldType} {pc n' : Nat} {lv : List (Nat × Value)} {st : List Value} {m : Mm} {kc ks kc2 ks2 : Nat} {Q : Int → Mm → Prop}
theorem x_run {mc ms rt : Nat} {av : Array Value} {o : Rs} {K : Int → Mm → Rs} {rest st0 : List Value} (hn : pc + 3 = n') (hkc : kc = mc + kc2) (hks : ks = ms + ks2)
    (hr : ∀ (H : Heap) (locs : List Loc) (cells slots : Nat) (ls : Array Slot), Hc b (fm q m) H → va_S (fun a => b.1 ≤ a) (gS g).heap H locs → (H.size = (gS g).heap.size + cells ∧ cells + kc = (gR g).cells) → slots + ks ≤ (gR g).slots → lv_has ls nL lv →
      va_Run g.1 g.2.1 g.2.2.1 g.2.2.2.1 g.2.2.2.2.1 g.2.2.2.2.2.1 g.2.2.2.2.2.2.1 g.2.2.2.2.2.2.2.1 g.2.2.2.2.2.2.2.2.1 g.2.2.2.2.2.2.2.2.2 H locs cells slots mc ms (F0 g.2.2.2.2.2.1 pc ls st0) rest (QcM b q rt mc (fun r m' => o = some (r, m')) av) (fun a => b.1 ≤ a))
    (hF : okR (cll o K) Q) (kk : ∀ r m', rtO rt r → Rg m' → okR (K r m') Q → X g b q nL Z n' lv ((rtV rt r).toList ++ rest) m' kc2 ks2) : X g b q nL Z pc lv st0 m kc ks := by
  subst hn
  subst hkc
  subst hks
  intro H locs cells slots ls hH hS hc hs hl T hT X0
  obtain ⟨v, st₀, t, T', L, h0, X', hL, e1, e2, ⟨⟨⟨r, m', ho, hrt, hv, hWd⟩, hgr⟩, hz, hkp⟩, st⟩ := hr H locs cells slots ls hH hS hc hs hl T hT X0
  cases hv
  rw [h0] at hz hkp hgr
  obtain ⟨r2, m2, ho2, hF2⟩ := okR_cll hF
  rw [ho] at ho2
  cases ho2
  obtain ⟨t2, a1, b1⟩ := kk r m' hrt hWd.2.2 hF2 T'.heap (locs ++ L) (cells + mc) (slots + ms) ls (by rw [e1]; exact hWd.1)
    ⟨Nat.le_trans hS.1 (by rw [e1]; exact hz), fun q h1 h2 => by rw [e1, hkp q (Nat.lt_of_lt_of_le h1 hS.1) h2]; exact hS.2.1 q h1 h2, fun q hq => by
      rcases List.mem_append.mp hq with h | h
      · exact hS.2.2 q h
      · exact hL q h⟩ ⟨by rw [e1, hgr, hc.1]; omega, by have := hc.2; omega⟩ (by omega) hl T' rfl X'
  exact ⟨t2, st t2 a1, b1⟩
theorem pre_of {H : Heap} {locs : List Loc} {av : List Value} {U : State} (hK : Kx b (gS g)) (hH : Hc b (fm q m) H) (hS : va_S (fun a => b.1 ≤ a) (gS g).heap H locs) (hm : Rg m) (hU : U.heap = H) (hW : (gS g).WarmedH U.vm) : PcM b q m av av.toArray U :=
  ⟨rfl, by rw [hU]; exact hH, hK.warm hW (by rw [hU]; exact hS.1) (fun a h1 h2 => by rw [hU]; exact hS.2.1 a h1 h2), hm⟩
theorem x_callV {y : MethodName} {cc' : ByteArray} {nL' dep' mc ms rt k ci idx n : Nat} {ret' : Option FieldType} {As rest st0 : List Value} {o : Rs} {K : Int → Mm → Rs} (hC : Cok g b ow cc nL dep ret) (hd : decode cc pc = .ok (.invokevirtual idx, 3)) (hn : pc + 3 = n') (hm : Rg m)
    (hM : ∀ r m', o = some (r, m') → Cn y cc' nL' ret' dep' mc ms rt b q m (.ref (b.1 + k) :: As) o) (hL : MLk ow idx y cc' nL' ret' n) (hV : VLk y ci) (hk : kndA k = ci + 4) (hk9 : k < 95) (hAn : As.length = n) (hst : st0 = As.reverse ++ .ref (b.1 + k) :: rest) (hrest : (rest.map fun v => v.category).sum ≤ 8)
    (hdep : dep' + 1 ≤ dep) (hnl : nL' ≤ 41) (hkc : kc = mc + kc2) (hks : ks = ms + ks2) (hF : okR (cll o K) Q) (kk : ∀ r m', rtO rt r → Rg m' → okR (K r m') Q → X g b q nL Z n' lv ((rtV rt r).toList ++ rest) m' kc2 ks2) : X g b q nL Z pc lv st0 m kc ks := by
  obtain ⟨r0, m0, ho0, -⟩ := okR_cll hF
  have hMet := hM r0 m0 ho0
  refine x_run (av := (.ref (b.1 + k) :: As).toArray) hn hkc hks (fun H locs cells slots ls hH hS hc hs hl => ?_) hF kk
  obtain ⟨hx, hb, hml, hown, hts, hlk, hK, hfr, hlo, hret⟩ := hC
  obtain ⟨l1, l2, l3, l4, l5⟩ := hL
  obtain ⟨v1, v2, T, N, v3⟩ := hV
  have hcw : CallW (gR g) (gS g) (gA g) ow y.cls idx y cc' nL' ret' (.code y cc' nL' ret' :: gtb) (rmM dep' mc ms) mc ms n := by
    refine ⟨callB_of n hts (gtb_in l3) rfl rfl rfl (hts _ l2) (hts _ l1) ⟨l4.1, l4.2, l5⟩ ⟨?_, ?_⟩, hts _ v1, hts _ v2⟩
    · exact Nat.le_trans hdep hfr
    · show 8 + (nL' + 11) + 60 * dep' ≤ (gR g).locals; omega
  exact va_runV (Ts := gtb) ⟨hx, hb, hml, hown, hts⟩ (hMet g.2.1) hcw ⟨PcM_blind b q m _, va_recv hK.1 hH.2 (ci := ci) (q0 := k) v3 (by rw [wsF_get b _ (lt95 _ hk9), cel_obj hk]), fun U hU hW => pre_of hK hH hS hm hU hW⟩ rfl hAn hl.1 hst (lv_room hrest) hd ⟨by show cells + mc ≤ (gR g).cells; have := hc.2; omega, by show slots + ms ≤ (gR g).slots; omega⟩
theorem x_callS {y : MethodName} {cc' : ByteArray} {nL' dep' mc ms rt idx n : Nat} {ret' : Option FieldType} {As rest st0 : List Value} {o : Rs} {K : Int → Mm → Rs} (hC : Cok g b ow cc nL dep ret) (hd : decode cc pc = .ok (.invokestatic idx, 3)) (hn : pc + 3 = n') (hm : Rg m)
    (hM : ∀ r m', o = some (r, m') → Cn y cc' nL' ret' dep' mc ms rt b q m As o) (hL : MLk ow idx y cc' nL' ret' n) (hV : Cond.static y ∈ gtb) (hAn : As.length = n) (hst : st0 = As.reverse ++ rest) (hrest : (rest.map fun v => v.category).sum ≤ 8)
    (hdep : dep' + 1 ≤ dep) (hnl : nL' ≤ 41) (hkc : kc = mc + kc2) (hks : ks = ms + ks2) (hF : okR (cll o K) Q) (kk : ∀ r m', rtO rt r → Rg m' → okR (K r m') Q → X g b q nL Z n' lv ((rtV rt r).toList ++ rest) m' kc2 ks2) : X g b q nL Z pc lv st0 m kc ks := by
  obtain ⟨r0, m0, ho0, -⟩ := okR_cll hF
  have hMet := hM r0 m0 ho0
  refine x_run (av := As.toArray) hn hkc hks (fun H locs cells slots ls hH hS hc hs hl => ?_) hF kk
  obtain ⟨hx, hb, hml, hown, hts, hlk, hK, hfr, hlo, hret⟩ := hC
  obtain ⟨l1, l2, l3, l4, l5⟩ := hL
  have hcw : CallB (gR g) (gS g) (gA g) ow idx y cc' nL' ret' (.code y cc' nL' ret' :: gtb) (rmM dep' mc ms) mc ms n := by
    refine callB_of n hts (gtb_in l3) rfl rfl rfl (hts _ l2) (hts _ l1) ⟨l4.1, l4.2, l5⟩ ⟨?_, ?_⟩
    · exact Nat.le_trans hdep hfr
    · show 8 + (nL' + 11) + 60 * dep' ≤ (gR g).locals; omega
  exact va_runS (Ts := gtb) ⟨hx, hb, hml, hown, hts⟩ (hMet g.2.1) ⟨hcw, hts _ hV⟩ ⟨PcM_blind b q m _, fun U hU hW => pre_of hK hH hS hm hU hW⟩ rfl hAn hl.1 hst (lv_room hrest) hd ⟨by show cells + mc ≤ (gR g).cells; have := hc.2; omega, by show slots + ms ≤ (gR g).slots; omega⟩
def NLk (ow : String) (idx : Nat) (y : MethodName) (cc : ByteArray) (nL : Nat) (ret : Option FieldType) (n : Nat) : Prop :=
  Cond.methodLinkNest ow idx y "OneWord" ∈ nst ∧ Cond.initialized y.cls ∈ gtb ∧ Cond.code y cc nL ret ∈ gtb ∧ (y.cls ≠ "java/lang/invoke/MethodHandle" ∧ y.cls ≠ "java/lang/invoke/VarHandle") ∧ (parseMethodDescriptor y.desc).map (fun d => d.parameters.length) = some n
theorem x_callSN {y : MethodName} {cc' : ByteArray} {nL' dep' mc ms rt idx n : Nat} {ret' : Option FieldType} {As rest st0 : List Value} {o : Rs} {K : Int → Mm → Rs} (hC : Cok g b ow cc nL dep ret) (hd : decode cc pc = .ok (.invokestatic idx, 3)) (hn : pc + 3 = n') (hm : Rg m)
    (hM : ∀ r m', o = some (r, m') → Cn y cc' nL' ret' dep' mc ms rt b q m As o) (hL : NLk ow idx y cc' nL' ret' n) (hV : Cond.static y ∈ gtb) (hAn : As.length = n) (hst : st0 = As.reverse ++ rest) (hrest : (rest.map fun v => v.category).sum ≤ 8)
    (hdep : dep' + 1 ≤ dep) (hnl : nL' ≤ 41) (hkc : kc = mc + kc2) (hks : ks = ms + ks2) (hF : okR (cll o K) Q) (kk : ∀ r m', rtO rt r → Rg m' → okR (K r m') Q → X g b q nL Z n' lv ((rtV rt r).toList ++ rest) m' kc2 ks2) : X g b q nL Z pc lv st0 m kc ks := by
  obtain ⟨r0, m0, ho0, -⟩ := okR_cll hF
  have hMet := hM r0 m0 ho0
  refine x_run (av := As.toArray) hn hkc hks (fun H locs cells slots ls hH hS hc hs hl => ?_) hF kk
  obtain ⟨hx, hb, hml, hown, hts, hlk, hK, hfr, hlo, hret⟩ := hC
  obtain ⟨l1, l2, l3, l4, l5⟩ := hL
  have hcw : va_CN (gR g) (gS g) (gA g) ow idx y "OneWord" cc' nL' ret' (.code y cc' nL' ret' :: gtb) (rmM dep' mc ms) mc ms n := by
    refine va_cnB n hts (gtb_in l3) rfl rfl rfl (hK.2.2.2.2.1 _ l1) (hts _ l2) ⟨l4.1, l4.2, l5⟩ ⟨?_, ?_⟩
    · exact Nat.le_trans hdep hfr
    · show 8 + (nL' + 11) + 60 * dep' ≤ (gR g).locals; omega
  exact va_runSN (Ts := gtb) ⟨hx, hb, hml, hown, hts⟩ (hMet g.2.1) ⟨hcw, hts _ hV, trivial⟩ ⟨PcM_blind b q m _, fun U hU hW => pre_of hK hH hS hm hU hW⟩ rfl hAn hl.1 hst (lv_room hrest) hd ⟨by show cells + mc ≤ (gR g).cells; have := hc.2; omega, by show slots + ms ≤ (gR g).slots; omega⟩
/-- ends -/
theorem q_end {rt : Nat} {H : Heap} {locs : List Loc} {r : Int} (hC : Cok g b ow cc nL dep ret) (hH : Hc b (fm q m) H) (hS : va_S (fun a => b.1 ≤ a) (gS g).heap H locs) (hgr : H.size = (gS g).heap.size + (gR g).cells) (hm : Rg m) (hr : rtO rt r) (hF : okR (some (r, m)) Q) : ∀ t : State, t.heap = H → (gS g).WarmedH t.vm → QcM b q rt (gR g).cells Q (gA g) (gS g) (.returned (rtV rt r)) t := by
  intro t ht hW
  exact ⟨⟨⟨r, m, hF, hr, rfl, by rw [ht]; exact hH, hC.2.2.2.2.2.2.1.warm hW (by rw [ht]; exact hS.1) (fun a h1 h2 => by rw [ht]; exact hS.2.1 a h1 h2), hm⟩, by rw [ht]; exact hgr⟩, hS.F ht⟩
theorem x_ireturn {r : Int} (hC : Cok g b ow cc nL dep (some .int)) (hd : decode cc pc = .ok (.ireturn, 1)) (hm : Rg m) (hr : inR r) (hF : okR (some (r, m)) Q) : X g b q nL (ZM g b q 1 Q) pc lv [iV r] m 0 ks := by
  intro H locs cells slots ls hH hS hc hs hl
  have hgr : H.size = (gS g).heap.size + (gR g).cells := by have := hc.1; have := hc.2; omega
  refine W.widen (k := (gR g).cells) (n := (gR g).slots) (by have := hc.2; omega) (by omega) ?_
  exact W.iret hC.1 hC.2.1 hC.2.2.2.2.2.2.2.2.2 (q_end (rt := 1) hC hH hS hgr hm hr hF) hS.2.2 hd hC.2.2.2.2.2.1
theorem x_zreturn {r : Int} (hC : Cok g b ow cc nL dep (some .boolean)) (hd : decode cc pc = .ok (.ireturn, 1)) (hm : Rg m) (hr : r = 0 ∨ r = 1) (hF : okR (some (r, m)) Q) : X g b q nL (ZM g b q 3 Q) pc lv [iV r] m 0 ks := by
  intro H locs cells slots ls hH hS hc hs hl
  have hgr : H.size = (gS g).heap.size + (gR g).cells := by have := hc.1; have := hc.2; omega
  refine W.widen (k := (gR g).cells) (n := (gR g).slots) (by have := hc.2; omega) (by omega) ?_
  exact W.zret hC.1 hC.2.1 hC.2.2.2.2.2.2.2.2.2 (by rcases hr with rfl | rfl <;> rfl) (q_end (rt := 3) hC hH hS hgr hm hr hF) hS.2.2 hd hC.2.2.2.2.2.1
theorem x_breturn {r : Int} (hC : Cok g b ow cc nL dep (some .byte)) (hd : decode cc pc = .ok (.ireturn, 1)) (hm : Rg m) (hr : r = 0 ∨ r = 1) (hF : okR (some (r, m)) Q) : X g b q nL (ZM g b q 3 Q) pc lv [iV r] m 0 ks := by
  intro H locs cells slots ls hH hS hc hs hl
  have hgr : H.size = (gS g).heap.size + (gR g).cells := by have := hc.1; have := hc.2; omega
  refine W.widen (k := (gR g).cells) (n := (gR g).slots) (by have := hc.2; omega) (by omega) ?_
  exact W.zret hC.1 hC.2.1 hC.2.2.2.2.2.2.2.2.2 (by rcases hr with rfl | rfl <;> rfl) (q_end (rt := 3) hC hH hS hgr hm hr hF) hS.2.2 hd hC.2.2.2.2.2.1
theorem x_lreturn {r : Int} (hC : Cok g b ow cc nL dep (some .long)) (hd : decode cc pc = .ok (.lreturn, 1)) (hm : Rg m) (hr : inL r) (hF : okR (some (r, m)) Q) : X g b q nL (ZM g b q 2 Q) pc lv [lV r] m 0 ks := by
  intro H locs cells slots ls hH hS hc hs hl
  have hgr : H.size = (gS g).heap.size + (gR g).cells := by have := hc.1; have := hc.2; omega
  refine W.widen (k := (gR g).cells) (n := (gR g).slots) (by have := hc.2; omega) (by omega) ?_
  exact W.lret hC.1 hC.2.1 hC.2.2.2.2.2.2.2.2.2 (q_end (rt := 2) hC hH hS hgr hm hr hF) hS.2.2 hd hC.2.2.2.2.2.1
theorem x_return (hC : Cok g b ow cc nL dep none) (hd : decode cc pc = .ok (.return_, 1)) (hm : Rg m) (hF : okR (some (0, m)) Q) : X g b q nL (ZM g b q 0 Q) pc lv [] m 0 ks := by
  intro H locs cells slots ls hH hS hc hs hl
  have hgr : H.size = (gS g).heap.size + (gR g).cells := by have := hc.1; have := hc.2; omega
  refine W.widen (k := (gR g).cells) (n := (gR g).slots) (by have := hc.2; omega) (by omega) ?_
  exact W.vret hC.1 hC.2.1 hC.2.2.2.2.2.2.2.2.2 (q_end (rt := 0) hC hH hS hgr hm rfl hF) hS.2.2 hd hC.2.2.2.2.2.1
theorem x_lv {lv' : List (Nat × Value)} (h : lv = lv') (kk : X g b q nL Z pc lv' st m kc ks) : X g b q nL Z pc lv st m kc ks := h ▸ kk
theorem Cn_of {y : MethodName} {rt : Nat} {av : List Value} {o : Rs} (hy : plainName y.cls = true) (hfit : (lg_sl av).length ≤ nL)
    (h : ∀ g : Gx, Cok g b y.cls cc nL dep ret → Rg m → X g b q nL (ZM g b q rt (fun r m' => o = some (r, m'))) 0 (lv_args 0 av) [] m kc ks) : Cn y cc nL ret dep kc ks rt b q m av o := by
  intro l
  refine Met.ofW (cc := cc) (maxL := nL) (ret := ret) hy rfl ?_
  intro p e s mm args below meth c s₁ B hml hv
  obtain ⟨rfl, hH, hK, hm⟩ := hv
  have hts := atoms_spec (ws := .code y cc nL ret :: gtb) B.pre
  have hl := lv_entry av (n := nL) hfit
  rw [lg_entry_eq]
  exact h (p, l, e, rmM dep kc ks, s, mm, av.toArray, below, meth, c) ⟨B.exec, B.bytes, hml, findClass_of_methodNamed B.named, fun w hw => hts w (List.mem_cons_of_mem _ hw), B.notSynchronized, hK, Nat.le_refl _, Nat.le_refl _, B.returns⟩ hm s.heap [] 0 0 _ hH va_S.rf ⟨by show s.heap.size = s.heap.size + 0; omega, by show 0 + kc = kc; omega⟩ (by show 0 + ks ≤ ks; omega) hl
theorem Cn_ofF {y : MethodName} {rt : Nat} {av : List Value} {o : Rs} (hy : plainFor y = true) (hfit : (lg_sl av).length ≤ nL)
    (h : ∀ g : Gx, Cok g b y.cls cc nL dep ret → Rg m → X g b q nL (ZM g b q rt (fun r m' => o = some (r, m'))) 0 (lv_args 0 av) [] m kc ks) : Cn y cc nL ret dep kc ks rt b q m av o := by
  intro l
  refine va_MetF (cc := cc) (maxL := nL) (ret := ret) hy rfl ?_
  intro p e s mm args below meth c s₁ B hml hv
  obtain ⟨rfl, hH, hK, hm⟩ := hv
  have hts := atoms_spec (ws := .code y cc nL ret :: gtb) B.pre
  have hl := lv_entry av (n := nL) hfit
  rw [lg_entry_eq]
  exact h (p, l, e, rmM dep kc ks, s, mm, av.toArray, below, meth, c) ⟨B.exec, B.bytes, hml, findClass_of_methodNamed B.named, fun w hw => hts w (List.mem_cons_of_mem _ hw), B.notSynchronized, hK, Nat.le_refl _, Nat.le_refl _, B.returns⟩ hm s.heap [] 0 0 _ hH va_S.rf ⟨by show s.heap.size = s.heap.size + 0; omega, by show 0 + kc = kc; omega⟩ (by show 0 + ks ≤ ks; omega) hl
end XC

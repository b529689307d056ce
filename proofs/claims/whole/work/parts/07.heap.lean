/-! fields, arrays, calls, ends over X -/
section ZP
variable {p : Program} {l : Launch} {e : Env} {R : Room} {s : State} {m : MethodId} {args : Array Value} {below : List Frame} {meth : Method} {c : Code} {H : Heap} {locs : List Loc} {cells slots : Nat} {Q : State → Prop}
variable {cc : ByteArray} {pc : Nat} {ls : Array Slot} {rest : List Value} {A : Nat → Prop} {H0 : Heap} {D : va_G} {cl : List vw_C} {ws : va_W} {tys : List (ClassId × FieldType)} {a : Nat}
theorem zp_put (hexec : p.tables.exec = Jvm.exec) (hb : c.code = cc) {own ref C : String} {T : u_T} {N ci index : Nat} {Ts : List Cond} (hts : ∀ w ∈ Ts, w.before args s = true) (hin : ∀ w ∈ u_ws C T N, w ∈ Ts) (ty0 : Nat → FieldType) (hty : ∀ k, k < N → parseFieldDescriptor (T k).2.2.1 = some (ty0 k)) (hnm : ∀ a, a < N → ∀ b, b < N → a ≠ b → (T a).2.1 ≠ (T b).2.1) (hown : s.vm.findClass own = some m.cls) (hK : va_K D cl tys s) (hP : va_P D cl ws H) (hD : va_D A ws) (hS0 : va_S A H0 H locs) (q0 : Nat) {fs : List Value} (he : ws[q0]? = some (a, .inr (ci, fs))) (hc : cl[ci]? = some (C, T, N)) (k : Nat) (hk : k < N) (hlink : (Cond.fieldLink own index ref (T k).2.1 (T k).2.2.1).before args s = true) (hsame : ∀ x, s.fieldFound? (T k).1 (T k).2.1 (T k).2.2.1 = some x → s.fieldFound? ref (T k).2.1 (T k).2.2.1 = some x) (hfin : (T k).2.2.2 = false) {ty : FieldType} {v : Value} (hd : parseFieldDescriptor (T k).2.2.1 = some ty) (hn : narrow ty v = v) (hfit : fits ty v = true) (hl : k < fs.length)
    (hdg : decode cc pc = .ok (.putfield index, 3)) (kk : ∀ (H1 : Heap) (locs1 : List Loc), va_P D cl (ws.set q0 (a, .inr (ci, fs.set k v))) H1 → H1.size = H.size → va_S A H0 H1 locs1 → W p l e R s m args below meth c H1 locs1 cells slots Q (F0 m (pc + 3) ls rest)) : W p l e R s m args below meth c H locs cells slots Q (F0 m pc ls (v :: .ref a :: rest)) := by
  have hap := va_apart (own := own) hts hin ty0 hty hnm hK hc
  obtain ⟨r, h1, cell, q1, q2, q3, q4⟩ := hP q0 _ he
  have hr : r = (C, T, N) := Option.some.inj (h1.symm.trans hc)
  subst hr
  obtain ⟨hS, hfc, kC, hkC, hkind⟩ := hK.1 ci _ hc
  obtain ⟨cf, kf, fi, f, hi, hsl⟩ := hS k hk
  have hlay := hts _ (hin _ (u_in_lay hk))
  unfold u_lay at hlay
  rw [if_neg (by rw [hfin]; decide)] at hlay
  have hst := (u_facts hfc hkC (u_lays hts hin hk) hi).1
  have h6 := u_store hfc hkC hkind hlay hi hd hn hfit
  refine W.putK hexec hb (f := f) ⟨hown, hlink, ⟨_, _, _, hsame _ hi⟩, hst⟩ (by rw [q2]; exact h6) q1 q3 (by rw [hsl]; exact k2_hasslot (q4 k hk)) rfl rfl hdg fun H' e1 e2 e3 => ?_
  rw [hsl] at e1 ⊢
  exact kk H' _ (hP.set hD he ⟨_, hc, t_OB.to (V := updV (vp_V fs) k v) ⟨_, e1, q2, q3, t_set q4 hap hk v⟩ (fun j _ => vp_updV_set hl v j)⟩ e3) e2 (hS0.put e2 e3 (hD.2 q0 _ he))
theorem zp_iast (hexec : p.tables.exec = Jvm.exec) (hb : c.code = cc) (hK : va_K D cl tys s) (hP : va_P D cl ws H) (hD : va_D A ws) (hS : va_S A H0 H locs) (q0 t0 : Nat) {cA : ClassId} {n : Nat} {f : Nat → Int32} (ha : ws[q0]? = some (a, .inl (cA, n, .inl f))) (ht : tys[t0]? = some (cA, .int)) {i : Int32} {x : Int32} (hin : vp_in i n) (hdg : decode cc pc = .ok (.iastore, 1))
    (kk : ∀ (H1 : Heap) (locs1 : List Loc), va_P D cl (ws.set q0 (a, .inl (cA, n, .inl (upd f i.toNatClampNeg x)))) H1 → H1.size = H.size → va_S A H0 H1 locs1 → W p l e R s m args below meth c H1 locs1 cells slots Q (F0 m (pc + 1) ls rest)) : W p l e R s m args below meth c H locs cells slots Q (F0 m pc ls (.int x :: .int i :: .ref a :: rest)) := by
  refine W.iast hexec hb (hP q0 _ ha) ((hK.2 t0 _ ht).1 n (fun j => .int (f j))) (fun q => by cases q) (by show ¬ (i < 0 ∨ (arrV _ _ _).slots.size ≤ _); rw [arrV_size]; exact hin) rfl rfl hdg fun H1 e z oq => ?_
  refine kk H1 _ (hP.set hD ha ?_ oq) z (hS.put z oq (hD.2 q0 _ ha))
  show H1[a]? = some (vp_cell _ _)
  rw [e]
  rw [vp_cell_i, vp_cell_i, arrV_store]
  congr 2
  funext q
  by_cases hq : q = i.toNatClampNeg
  · subst hq
    simp [updV, upd]
  · simp [updV, upd, hq]
theorem zp_bast (hexec : p.tables.exec = Jvm.exec) (hb : c.code = cc) (hK : va_K D cl tys s) (hP : va_P D cl ws H) (hD : va_D A ws) (hS : va_S A H0 H locs) (q0 t0 : Nat) {cA : ClassId} {n : Nat} {f : Nat → Int32} (ha : ws[q0]? = some (a, .inl (cA, n, .inl f))) (ht : tys[t0]? = some (cA, .byte)) {i : Int32} {x : Int32} (hin : vp_in i n) (hdg : decode cc pc = .ok (.bastore, 1))
    (kk : ∀ (H1 : Heap) (locs1 : List Loc), va_P D cl (ws.set q0 (a, .inl (cA, n, .inl (upd f i.toNatClampNeg (vp_nar .byte x))))) H1 → H1.size = H.size → va_S A H0 H1 locs1 → W p l e R s m args below meth c H1 locs1 cells slots Q (F0 m (pc + 1) ls rest)) : W p l e R s m args below meth c H locs cells slots Q (F0 m pc ls (.int x :: .int i :: .ref a :: rest)) := by
  refine W.bast hexec hb (hP q0 _ ha) ((hK.2 t0 _ ht).1 n (fun j => .int (f j))) (fun q => by cases q) (by show ¬ (i < 0 ∨ (arrV _ _ _).slots.size ≤ _); rw [arrV_size]; exact hin) rfl rfl hdg fun H1 e z oq => ?_
  refine kk H1 _ (hP.set hD ha ?_ oq) z (hS.put z oq (hD.2 q0 _ ha))
  show H1[a]? = some (vp_cell _ _)
  rw [e]
  rw [vp_cell_i, vp_cell_i, arrV_store]
  congr 2
  funext q
  by_cases hq : q = i.toNatClampNeg
  · subst hq
    simp [updV, upd, vp_nar, narrow]
  · simp [updV, upd, hq]
theorem zp_zast (hexec : p.tables.exec = Jvm.exec) (hb : c.code = cc) (hK : va_K D cl tys s) (hP : va_P D cl ws H) (hD : va_D A ws) (hS : va_S A H0 H locs) (q0 t0 : Nat) {cA : ClassId} {n : Nat} {f : Nat → Int32} (ha : ws[q0]? = some (a, .inl (cA, n, .inl f))) (ht : tys[t0]? = some (cA, .boolean)) {i : Int32} {x : Int32} (hin : vp_in i n) (hdg : decode cc pc = .ok (.bastore, 1))
    (kk : ∀ (H1 : Heap) (locs1 : List Loc), va_P D cl (ws.set q0 (a, .inl (cA, n, .inl (upd f i.toNatClampNeg (vp_nar .boolean x))))) H1 → H1.size = H.size → va_S A H0 H1 locs1 → W p l e R s m args below meth c H1 locs1 cells slots Q (F0 m (pc + 1) ls rest)) : W p l e R s m args below meth c H locs cells slots Q (F0 m pc ls (.int x :: .int i :: .ref a :: rest)) := by
  refine W.zast hexec hb (hP q0 _ ha) ((hK.2 t0 _ ht).1 n (fun j => .int (f j))) (fun q => by cases q) (by show ¬ (i < 0 ∨ (arrV _ _ _).slots.size ≤ _); rw [arrV_size]; exact hin) rfl rfl hdg fun H1 e z oq => ?_
  refine kk H1 _ (hP.set hD ha ?_ oq) z (hS.put z oq (hD.2 q0 _ ha))
  show H1[a]? = some (vp_cell _ _)
  rw [e]
  rw [vp_cell_i, vp_cell_i, arrV_store]
  congr 2
  funext q
  by_cases hq : q = i.toNatClampNeg
  · subst hq
    simp [updV, upd, vp_nar, narrow]
  · simp [updV, upd, hq]
theorem zp_last (hexec : p.tables.exec = Jvm.exec) (hb : c.code = cc) (hK : va_K D cl tys s) (hP : va_P D cl ws H) (hD : va_D A ws) (hS : va_S A H0 H locs) (q0 t0 : Nat) {cA : ClassId} {n : Nat} {f : Nat → Int64} (ha : ws[q0]? = some (a, .inl (cA, n, .inr (.inl f)))) (ht : tys[t0]? = some (cA, .long)) {i : Int32} {x : Int64} (hin : vp_in i n) (hdg : decode cc pc = .ok (.lastore, 1))
    (kk : ∀ (H1 : Heap) (locs1 : List Loc), va_P D cl (ws.set q0 (a, .inl (cA, n, .inr (.inl (vp_updL f i.toNatClampNeg x))))) H1 → H1.size = H.size → va_S A H0 H1 locs1 → W p l e R s m args below meth c H1 locs1 cells slots Q (F0 m (pc + 1) ls rest)) : W p l e R s m args below meth c H locs cells slots Q (F0 m pc ls (.long x :: .int i :: .ref a :: rest)) := by
  refine W.last hexec hb (hP q0 _ ha) ((hK.2 t0 _ ht).1 n (fun j => .long (f j))) (fun q => by cases q) (by show ¬ (i < 0 ∨ (arrV _ _ _).slots.size ≤ _); rw [arrV_size]; exact hin) rfl rfl hdg fun H1 e z oq => ?_
  refine kk H1 _ (hP.set hD ha ?_ oq) z (hS.put z oq (hD.2 q0 _ ha))
  show H1[a]? = some (vp_cell _ _)
  rw [e]
  rw [vp_cell_l, vp_cell_l, arrV_store]
  congr 2
  funext q
  by_cases hq : q = i.toNatClampNeg
  · subst hq
    simp [updV, vp_updL]
  · simp [updV, vp_updL, hq]
end ZP
def Cls (n : Nat) (C : String) (T : u_T) (N : Nat) (ty : Nat → FieldType) : Prop := vwCl[n]? = some (C, T, N) ∧ (∀ w ∈ u_ws C T N, w ∈ gtb) ∧ (∀ k, k < N → parseFieldDescriptor (T k).2.2.1 = some (ty k)) ∧ (∀ a, a < N → ∀ b, b < N → a ≠ b → (T a).2.1 ≠ (T b).2.1) ∧ nfl n = N
def FLk (ow : String) (idx n j : Nat) : Prop := ∃ C T N ty, Cls n C T N ty ∧ j < N ∧ Cond.fieldLink ow idx (T j).1 (T j).2.1 (T j).2.2.1 ∈ gtb
def FPk (ow : String) (idx n j : Nat) (t : FieldType) : Prop := ∃ C T N ty, Cls n C T N ty ∧ j < N ∧ Cond.fieldLink ow idx (T j).1 (T j).2.1 (T j).2.2.1 ∈ gtb ∧ ty j = t ∧ (T j).2.2.2 = false
theorem cel_obj {b : Bs} {M : Mm} {k n : Nat} (h : kndA k = n + 4) : celF b M k = .inr (n, (List.range (nfl n)).map (fun j => fvl b k n j (M k j))) := by unfold celF; rw [h]
theorem cel_i {b : Bs} {M : Mm} {k : Nat} (h : kndA k = 0) : celF b M k = .inl (b.2.2.1, lenA M k, .inl (fun j => Int32.ofInt (M k j))) := by unfold celF; rw [h]
theorem cel_b {b : Bs} {M : Mm} {k : Nat} (h : kndA k = 1) : celF b M k = .inl (b.2.2.2.1, lenA M k, .inl (fun j => Int32.ofInt (M k j))) := by unfold celF; rw [h]
theorem cel_l {b : Bs} {M : Mm} {k : Nat} (h : kndA k = 2) : celF b M k = .inl (b.2.2.2.2.1, lenA M k, .inr (.inl (fun j => Int64.ofInt (M k j)))) := by unfold celF; rw [h]
theorem cel_z {b : Bs} {M : Mm} {k : Nat} (h : kndA k = 3) : celF b M k = .inl (b.2.2.2.2.2.1, lenA M k, .inl (fun j => Int32.ofInt (M k j))) := by unfold celF; rw [h]
theorem rmap_get {N j : Nat} {f : Nat → Value} (h : j < N) : ((List.range N).map f)[j]? = some (f j) := by rw [List.getElem?_map, List.getElem?_range h]; rfl
theorem rmap_set {N j : Nat} {f f' : Nat → Value} (h : j < N) (ho : ∀ i, i ≠ j → f' i = f i) : ((List.range N).map f).set j (f' j) = (List.range N).map f' := by
  apply List.ext_getElem?
  intro i
  by_cases hi : i < N
  · rw [rmap_get hi]
    by_cases e : i = j
    · subst e; rw [List.getElem?_set_self (by rw [List.length_map, List.length_range]; exact h)]
    · rw [List.getElem?_set_ne (fun z => e z.symm), rmap_get hi, ho i e]
  · rw [List.getElem?_eq_none (by rw [List.length_set, List.length_map, List.length_range]; omega), List.getElem?_eq_none (by rw [List.length_map, List.length_range]; omega)]
theorem lt95 (m : Mm) {k : Nat} (h : k < 95) : k < cntD m := by unfold cntD; omega
theorem vin {i : Int} {n : Nat} (hi : inR i) (h : 0 ≤ i ∧ i < (n : Int)) : vp_in (Int32.ofInt i) n := by rw [vp_in_iff, t_ofI' hi]; exact h
theorem clamp {i : Int} (hi : inR i) : (Int32.ofInt i).toNatClampNeg = i.toNat := Int32.toNatClampNeg_ofInt_of_le (by have := hi.1; omega) (by have := hi.2; omega)
theorem Hc_set {b : Bs} {M : Mm} {k i : Nat} {v : Int} {H H1 : Heap} {e : va_E} (h0 : k ≠ 0) (hk : k < cntD M) (hsz : H.size = b.1 + cntD M) (hz : H1.size = H.size) (he : celF b (upd2 M k i v) k = e) (hP : va_P b.2.1 vwCl ((wsF b M).set k (b.1 + k, e)) H1) : Hc b (upd2 M k i v) H1 := by
  subst he
  refine ⟨by rw [hz, hsz, cntD_u2 h0], ?_⟩
  rw [wsF_set b hk (cntD_u2 h0) (fun k' hk' => celF_ne h0 k' hk')] at hP
  exact hP
section XH
variable {g : Gx} {b : Bs} {q : Sd} {nL dep : Nat} {Z : State → Prop} {ow : String} {cc : ByteArray} {ret : Option FieldType} {pc n' : Nat} {lv : List (Nat × Value)} {st : List Value} {m : Mm} {kc ks : Nat} {Q : Int → Mm → Prop}
theorem x_getI {k n j idx : Nat} (hC : Cok g b ow cc nL dep ret) (hd : decode cc pc = .ok (.getfield idx, 3)) (hn : pc + 3 = n') (hf : FLk ow idx n j) (hk : kndA k = n + 4) (hk9 : k < 95) (hty : fty n j = 0) (hs : own2 k = q.1) (kk : X g b q nL Z n' lv (iV (m k j) :: st) m kc ks) : X g b q nL Z pc lv (.ref (b.1 + k) :: st) m kc ks := by
  subst hn
  intro H locs cells slots ls hH hS hc hs' hl
  have kx := kk H locs cells slots ls hH hS hc hs' hl
  obtain ⟨C, T, N, ty, ⟨c1, c2, c3, c4, c5⟩, hj, hlk⟩ := hf
  obtain ⟨hx, hb, -, hown, hts, -, hK, -⟩ := hC
  refine va_get (D := b.2.1) (ci := n) (v := iV (m k j)) hx hb hts c2 hown hK.1 hH.2 k (by rw [wsF_get b _ (lt95 _ hk9), cel_obj hk]) c1 j hj (hts _ hlk) (fun _ h => h) ?_ hd kx
  rw [rmap_get (by rw [c5]; exact hj)]
  unfold fvl
  rw [hty, fm_at hs]
  rfl
theorem x_getR {k n j idx t : Nat} (hC : Cok g b ow cc nL dep ret) (hd : decode cc pc = .ok (.getfield idx, 3)) (hn : pc + 3 = n') (hf : FLk ow idx n j) (hk : kndA k = n + 4) (hk9 : k < 95) (hty : fty n j = 1) (ht : ftg k j = t) (kk : X g b q nL Z n' lv (.ref (b.1 + t) :: st) m kc ks) : X g b q nL Z pc lv (.ref (b.1 + k) :: st) m kc ks := by
  subst hn
  subst ht
  intro H locs cells slots ls hH hS hc hs' hl
  have kx := kk H locs cells slots ls hH hS hc hs' hl
  obtain ⟨C, T, N, ty, ⟨c1, c2, c3, c4, c5⟩, hj, hlk⟩ := hf
  obtain ⟨hx, hb, -, hown, hts, -, hK, -⟩ := hC
  refine va_get (D := b.2.1) (ci := n) (v := .ref (b.1 + ftg k j)) hx hb hts c2 hown hK.1 hH.2 k (by rw [wsF_get b _ (lt95 _ hk9), cel_obj hk]) c1 j hj (hts _ hlk) (fun _ h => h) ?_ hd kx
  rw [rmap_get (by rw [c5]; exact hj)]
  unfold fvl
  rw [hty]
  rfl
theorem x_getD {k n j idx : Nat} (hC : Cok g b ow cc nL dep ret) (hd : decode cc pc = .ok (.getfield idx, 3)) (hn : pc + 3 = n') (hf : FLk ow idx n j) (hk : kndA k = n + 4) (hk9 : k < 95) (hty : fty n j = 2) (hs : own2 k = q.1) (kk : X g b q nL Z n' lv (.ref (b.1 + (m k j).toNat) :: st) m kc ks) : X g b q nL Z pc lv (.ref (b.1 + k) :: st) m kc ks := by
  subst hn
  intro H locs cells slots ls hH hS hc hs' hl
  have kx := kk H locs cells slots ls hH hS hc hs' hl
  obtain ⟨C, T, N, ty, ⟨c1, c2, c3, c4, c5⟩, hj, hlk⟩ := hf
  obtain ⟨hx, hb, -, hown, hts, -, hK, -⟩ := hC
  refine va_get (D := b.2.1) (ci := n) (v := .ref (b.1 + (m k j).toNat)) hx hb hts c2 hown hK.1 hH.2 k (by rw [wsF_get b _ (lt95 _ hk9), cel_obj hk]) c1 j hj (hts _ hlk) (fun _ h => h) ?_ hd kx
  rw [rmap_get (by rw [c5]; exact hj)]
  unfold fvl
  rw [hty, fm_at hs]
  rfl
theorem x_putG {k n j idx : Nat} {v : Int} {w : Value} {t : FieldType} {K : Mm → Rs} (hC : Cok g b ow cc nL dep ret) (hd : decode cc pc = .ok (.putfield idx, 3)) (hn : pc + 3 = n') (hf : FPk ow idx n j t) (hk : kndA k = n + 4) (hk9 : k < 95) (h0 : k ≠ 0) (hw : fvl b k n j v = w) (hnr : narrow t w = w) (hft : fits t w = true) (hs : own2 k = q.1) (hm : Rg m) (hv : rgk k v) (hF : okR (stf m k j v K) Q) (kk : ∀ m', Rg m' → okR (K m') Q → X g b q nL Z n' lv st m' kc ks) : X g b q nL Z pc lv (w :: .ref (b.1 + k) :: st) m kc ks := by
  subst hn
  intro H locs cells slots ls hH hS hc hs' hl
  obtain ⟨C, T, N, ty, ⟨c1, c2, c3, c4, c5⟩, hj, hlk, ht, hfin⟩ := hf
  obtain ⟨hx, hb, -, hown, hts, -, hK, -⟩ := hC
  refine zp_put (D := b.2.1) (ci := n) (ty := t) hx hb hts c2 ty c3 c4 hown hK.1 hH.2 (wsF_D b _) hS k (by rw [wsF_get b _ (lt95 _ hk9), cel_obj hk]) c1 j hj (hts _ hlk) (fun _ h => h) hfin (by rw [c3 j hj, ht]) hnr hft (by rw [List.length_map, List.length_range, c5]; exact hj) hd (fun H1 locs1 hP1 hz hS1 => ?_)
  refine kk (upd2 m k j v) (hm.u j hv) hF H1 locs1 cells slots ls ?_ hS1 hc hs' hl
  rw [fm_u2 hs]
  refine Hc_set h0 (lt95 _ hk9) hH.1 hz ?_ hP1
  rw [cel_obj hk, ← hw]
  have e := rmap_set (N := nfl n) (j := j) (f := fun i => fvl b k n i (fm q m k i)) (f' := fun i => fvl b k n i (upd2 (fm q m) k j v k i)) (by rw [c5]; exact hj) (fun i hi => by
    show fvl b k n i (upd2 (fm q m) k j v k i) = fvl b k n i (fm q m k i)
    rw [u2_row]; unfold upr; rw [if_neg hi])
  rw [u2_same] at e
  rw [← e]
theorem x_putI {k n j idx : Nat} {v : Int} {K : Mm → Rs} (hC : Cok g b ow cc nL dep ret) (hd : decode cc pc = .ok (.putfield idx, 3)) (hn : pc + 3 = n') (hf : FPk ow idx n j .int) (hk : kndA k = n + 4) (hk9 : k < 95) (h0 : k ≠ 0) (hty : fty n j = 0) (hs : own2 k = q.1) (hm : Rg m) (hv : inR v) (hlg : lngk k = false) (hF : okR (stf m k j v K) Q) (kk : ∀ m', Rg m' → okR (K m') Q → X g b q nL Z n' lv st m' kc ks) : X g b q nL Z pc lv (iV v :: .ref (b.1 + k) :: st) m kc ks :=
  x_putG hC hd hn hf hk hk9 h0 (by unfold fvl; rw [hty]; rfl) rfl rfl hs hm (rgk_i hlg (by rw [hk]; omega) hv) hF kk
theorem x_putZ {k n j idx : Nat} {v : Int} {K : Mm → Rs} (hC : Cok g b ow cc nL dep ret) (hd : decode cc pc = .ok (.putfield idx, 3)) (hn : pc + 3 = n') (hf : FPk ow idx n j .boolean) (hk : kndA k = n + 4) (hk9 : k < 95) (h0 : k ≠ 0) (hty : fty n j = 0) (hs : own2 k = q.1) (hm : Rg m) (hv : v = 0 ∨ v = 1) (hlg : lngk k = false) (hF : okR (stf m k j v K) Q) (kk : ∀ m', Rg m' → okR (K m') Q → X g b q nL Z n' lv st m' kc ks) : X g b q nL Z pc lv (iV v :: .ref (b.1 + k) :: st) m kc ks :=
  x_putG hC hd hn hf hk hk9 h0 (by unfold fvl; rw [hty]; rfl) (by rcases hv with rfl | rfl <;> rfl) (by rcases hv with rfl | rfl <;> rfl) hs hm (rgk_i hlg (by rw [hk]; omega) (rg_01 hv)) hF kk
theorem x_putD {k n j idx t : Nat} {ft : FieldType} {K : Mm → Rs} (hC : Cok g b ow cc nL dep ret) (hd : decode cc pc = .ok (.putfield idx, 3)) (hn : pc + 3 = n') (hf : FPk ow idx n j ft) (hk : kndA k = n + 4) (hk9 : k < 95) (h0 : k ≠ 0) (hty : fty n j = 2) (hnr : ∀ a, narrow ft (.ref a) = .ref a) (hft : ∀ a, fits ft (.ref a) = true) (hs : own2 k = q.1) (hm : Rg m) (hv : inR (t : Int)) (hlg : lngk k = false) (hF : okR (stf m k j (t : Int) K) Q) (kk : ∀ m', Rg m' → okR (K m') Q → X g b q nL Z n' lv st m' kc ks) : X g b q nL Z pc lv (.ref (b.1 + t) :: .ref (b.1 + k) :: st) m kc ks :=
  x_putG hC hd hn hf hk hk9 h0 (by unfold fvl; rw [hty]; rfl) (hnr _) (hft _) hs hm (rgk_i hlg (by rw [hk]; omega) hv) hF kk
theorem x_ialdG {k L : Nat} {i : Int} {K : Int → Rs} (hC : Cok g b ow cc nL dep ret) (hd : decode cc pc = .ok (.iaload, 1)) (hn : pc + 1 = n') (hk : kndA k = 0) (hkc : k < cntD (fm q m)) (hL : lenA (fm q m) k = L) (hs : own2 k = q.1) (hlg : lngk k = false) (hm : Rg m) (hi : inR i) (hF : okR (ald m k L i K) Q) (kk : ∀ v, inR v → okR (K v) Q → X g b q nL Z n' lv (iV v :: st) m kc ks) : X g b q nL Z pc lv (iV i :: .ref (b.1 + k) :: st) m kc ks := by
  subst hn
  intro H locs cells slots ls hH hS hc hs' hl
  have h0 := okR_ite hF
  by_cases hb0 : 0 ≤ i ∧ i < (L : Int)
  · have kx := kk (m k i.toNat) (hm.i k _ hlg) (h0.1 hb0) H locs cells slots ls hH hS hc hs' hl
    obtain ⟨hx, hb, -, hown, hts, -, hK, -⟩ := hC
    refine va_iald (i := Int32.ofInt i) hx hb hK.1 hH.2 k 0 (by rw [wsF_get b _ hkc, cel_i hk]) rfl (vin hi (by rw [hL]; exact hb0)) hd ?_
    rw [clamp hi, fm_at hs]
    exact kx
  · exact absurd (h0.2 hb0) (fun z => z)
theorem x_iald {k L : Nat} {i : Int} {K : Int → Rs} (hC : Cok g b ow cc nL dep ret) (hd : decode cc pc = .ok (.iaload, 1)) (hn : pc + 1 = n') (hk : cknd k = (0, L)) (hk9 : k < 95) (hs : own2 k = q.1) (hm : Rg m) (hi : inR i) (hF : okR (ald m k L i K) Q) (kk : ∀ v, inR v → okR (K v) Q → X g b q nL Z n' lv (iV v :: st) m kc ks) : X g b q nL Z pc lv (iV i :: .ref (b.1 + k) :: st) m kc ks := by
  have e : kndA k = 0 := by unfold kndA; rw [if_pos hk9, hk]
  exact x_ialdG hC hd hn e (lt95 _ hk9) (by unfold lenA; rw [if_pos hk9, hk]) hs (by unfold lngk; rw [e]; rfl) hm hi hF kk
theorem x_iastG {k L : Nat} {i v : Int} {K : Mm → Rs} (hC : Cok g b ow cc nL dep ret) (hd : decode cc pc = .ok (.iastore, 1)) (hn : pc + 1 = n') (hk : kndA k = 0) (hkc : k < cntD (fm q m)) (hk0 : k ≠ 0) (hL : lenA (fm q m) k = L) (hs : own2 k = q.1) (hlg : lngk k = false) (hm : Rg m) (hi : inR i) (hv : inR v) (hF : okR (ast m k L i v K) Q) (kk : ∀ m', Rg m' → okR (K m') Q → X g b q nL Z n' lv st m' kc ks) : X g b q nL Z pc lv (iV v :: iV i :: .ref (b.1 + k) :: st) m kc ks := by
  subst hn
  intro H locs cells slots ls hH hS hc hs' hl
  have h0 := okR_ite hF
  by_cases hb0 : 0 ≤ i ∧ i < (L : Int)
  · have kx := kk (upd2 m k i.toNat v) (hm.u _ (rgk_i hlg (by rw [hk]; decide) hv)) (h0.1 hb0)
    obtain ⟨hx, hb, -, hown, hts, -, hK, -⟩ := hC
    refine zp_iast (i := Int32.ofInt i) (x := Int32.ofInt v) hx hb hK.1 hH.2 (wsF_D b _) hS k 0 (by rw [wsF_get b _ hkc, cel_i hk]) rfl (vin hi (by rw [hL]; exact hb0)) hd (fun H1 locs1 hP1 hz hS1 => ?_)
    refine kx H1 locs1 cells slots ls ?_ hS1 hc hs' hl
    rw [fm_u2 hs]
    refine Hc_set hk0 hkc hH.1 hz ?_ hP1
    rw [cel_i hk, lenA_u2 hk0, clamp hi]
    refine congrArg (fun z => Sum.inl (b.2.2.1, lenA (fm q m) k, Sum.inl z)) ?_
    funext j
    rw [u2_row]
    unfold upd upr
    split <;> rfl
  · exact absurd (h0.2 hb0) (fun z => z)
theorem x_iast {k L : Nat} {i v : Int} {K : Mm → Rs} (hC : Cok g b ow cc nL dep ret) (hd : decode cc pc = .ok (.iastore, 1)) (hn : pc + 1 = n') (hk : cknd k = (0, L)) (hk9 : k < 95) (hs : own2 k = q.1) (hm : Rg m) (hi : inR i) (hv : inR v) (hF : okR (ast m k L i v K) Q) (kk : ∀ m', Rg m' → okR (K m') Q → X g b q nL Z n' lv st m' kc ks) : X g b q nL Z pc lv (iV v :: iV i :: .ref (b.1 + k) :: st) m kc ks := by
  have e : kndA k = 0 := by unfold kndA; rw [if_pos hk9, hk]
  exact x_iastG hC hd hn e (lt95 _ hk9) (fun z => by subst z; cases hk) (by unfold lenA; rw [if_pos hk9, hk]) hs (by unfold lngk; rw [e]; rfl) hm hi hv hF kk
theorem x_bald {k L : Nat} {i : Int} {K : Int → Rs} (hC : Cok g b ow cc nL dep ret) (hd : decode cc pc = .ok (.baload, 1)) (hn : pc + 1 = n') (hk : cknd k = (1, L)) (hk9 : k < 95) (hs : own2 k = q.1) (hm : Rg m) (hi : inR i) (hF : okR (ald m k L i K) Q) (kk : ∀ v, inR v → okR (K v) Q → X g b q nL Z n' lv (iV v :: st) m kc ks) : X g b q nL Z pc lv (iV i :: .ref (b.1 + k) :: st) m kc ks := by
  have e : kndA k = 1 := by unfold kndA; rw [if_pos hk9, hk]
  have hL : lenA (fm q m) k = L := by unfold lenA; rw [if_pos hk9, hk]
  have hlg : lngk k = false := by unfold lngk; rw [e]; rfl
  subst hn
  intro H locs cells slots ls hH hS hc hs' hl
  have h0 := okR_ite hF
  by_cases hb0 : 0 ≤ i ∧ i < (L : Int)
  · have kx := kk (m k i.toNat) (hm.i k _ hlg) (h0.1 hb0) H locs cells slots ls hH hS hc hs' hl
    obtain ⟨hx, hb, -, hown, hts, -, hK, -⟩ := hC
    refine va_bald (i := Int32.ofInt i) hx hb hK.1 hH.2 k 1 (by rw [wsF_get b _ (lt95 _ hk9), cel_b e]) rfl (vin hi (by rw [hL]; exact hb0)) hd ?_
    rw [clamp hi, fm_at hs]
    exact kx
  · exact absurd (h0.2 hb0) (fun z => z)
theorem x_zald {k L : Nat} {i : Int} {K : Int → Rs} (hC : Cok g b ow cc nL dep ret) (hd : decode cc pc = .ok (.baload, 1)) (hn : pc + 1 = n') (hk : cknd k = (3, L)) (hk9 : k < 95) (hs : own2 k = q.1) (hm : Rg m) (hi : inR i) (hF : okR (ald m k L i K) Q) (kk : ∀ v, (v = 0 ∨ v = 1) → okR (K v) Q → X g b q nL Z n' lv (iV v :: st) m kc ks) : X g b q nL Z pc lv (iV i :: .ref (b.1 + k) :: st) m kc ks := by
  have e : kndA k = 3 := by unfold kndA; rw [if_pos hk9, hk]
  have hL : lenA (fm q m) k = L := by unfold lenA; rw [if_pos hk9, hk]
  have hlg : lngk k = false := by unfold lngk; rw [e]; rfl
  subst hn
  intro H locs cells slots ls hH hS hc hs' hl
  have h0 := okR_ite hF
  by_cases hb0 : 0 ≤ i ∧ i < (L : Int)
  · have kx := kk (m k i.toNat) (hm.z k _ e) (h0.1 hb0) H locs cells slots ls hH hS hc hs' hl
    obtain ⟨hx, hb, -, hown, hts, -, hK, -⟩ := hC
    refine va_zald (i := Int32.ofInt i) hx hb hK.1 hH.2 k 3 (by rw [wsF_get b _ (lt95 _ hk9), cel_z e]) rfl (vin hi (by rw [hL]; exact hb0)) hd ?_
    rw [clamp hi, fm_at hs]
    exact kx
  · exact absurd (h0.2 hb0) (fun z => z)
theorem x_bast {k L : Nat} {i v : Int} {K : Mm → Rs} (hC : Cok g b ow cc nL dep ret) (hd : decode cc pc = .ok (.bastore, 1)) (hn : pc + 1 = n') (hk : cknd k = (1, L)) (hk9 : k < 95) (hs : own2 k = q.1) (hm : Rg m) (hi : inR i) (hv : vp_nar .byte (Int32.ofInt v) = Int32.ofInt v) (hv2 : inR v) (hF : okR (ast m k L i v K) Q) (kk : ∀ m', Rg m' → okR (K m') Q → X g b q nL Z n' lv st m' kc ks) : X g b q nL Z pc lv (iV v :: iV i :: .ref (b.1 + k) :: st) m kc ks := by
  have e : kndA k = 1 := by unfold kndA; rw [if_pos hk9, hk]
  have hL : lenA (fm q m) k = L := by unfold lenA; rw [if_pos hk9, hk]
  have hlg : lngk k = false := by unfold lngk; rw [e]; rfl
  have hk0 : k ≠ 0 := fun z => by subst z; cases hk
  subst hn
  intro H locs cells slots ls hH hS hc hs' hl
  have h0 := okR_ite hF
  by_cases hb0 : 0 ≤ i ∧ i < (L : Int)
  · have kx := kk (upd2 m k i.toNat v) (hm.u _ (rgk_i hlg (by rw [e]; decide) hv2)) (h0.1 hb0)
    obtain ⟨hx, hb, -, hown, hts, -, hK, -⟩ := hC
    refine zp_bast (i := Int32.ofInt i) (x := Int32.ofInt v) hx hb hK.1 hH.2 (wsF_D b _) hS k 1 (by rw [wsF_get b _ (lt95 _ hk9), cel_b e]) rfl (vin hi (by rw [hL]; exact hb0)) hd (fun H1 locs1 hP1 hz hS1 => ?_)
    refine kx H1 locs1 cells slots ls ?_ hS1 hc hs' hl
    rw [fm_u2 hs]
    refine Hc_set hk0 (lt95 _ hk9) hH.1 hz ?_ hP1
    rw [cel_b e, lenA_u2 hk0, clamp hi, hv]
    refine congrArg (fun z => Sum.inl (b.2.2.2.1, lenA (fm q m) k, Sum.inl z)) ?_
    funext j
    rw [u2_row]
    unfold upd upr
    split <;> rfl
  · exact absurd (h0.2 hb0) (fun z => z)
theorem x_zast {k L : Nat} {i v : Int} {K : Mm → Rs} (hC : Cok g b ow cc nL dep ret) (hd : decode cc pc = .ok (.bastore, 1)) (hn : pc + 1 = n') (hk : cknd k = (3, L)) (hk9 : k < 95) (hs : own2 k = q.1) (hm : Rg m) (hi : inR i) (hv : v = 0 ∨ v = 1) (hF : okR (ast m k L i v K) Q) (kk : ∀ m', Rg m' → okR (K m') Q → X g b q nL Z n' lv st m' kc ks) : X g b q nL Z pc lv (iV v :: iV i :: .ref (b.1 + k) :: st) m kc ks := by
  have e : kndA k = 3 := by unfold kndA; rw [if_pos hk9, hk]
  have hL : lenA (fm q m) k = L := by unfold lenA; rw [if_pos hk9, hk]
  have hlg : lngk k = false := by unfold lngk; rw [e]; rfl
  have hk0 : k ≠ 0 := fun z => by subst z; cases hk
  subst hn
  intro H locs cells slots ls hH hS hc hs' hl
  have h0 := okR_ite hF
  by_cases hb0 : 0 ≤ i ∧ i < (L : Int)
  · have kx := kk (upd2 m k i.toNat v) (hm.u _ (rgk_z e hv)) (h0.1 hb0)
    obtain ⟨hx, hb, -, hown, hts, -, hK, -⟩ := hC
    refine zp_zast (i := Int32.ofInt i) (x := Int32.ofInt v) hx hb hK.1 hH.2 (wsF_D b _) hS k 3 (by rw [wsF_get b _ (lt95 _ hk9), cel_z e]) rfl (vin hi (by rw [hL]; exact hb0)) hd (fun H1 locs1 hP1 hz hS1 => ?_)
    refine kx H1 locs1 cells slots ls ?_ hS1 hc hs' hl
    rw [fm_u2 hs]
    refine Hc_set hk0 (lt95 _ hk9) hH.1 hz ?_ hP1
    rw [cel_z e, lenA_u2 hk0, clamp hi, show vp_nar .boolean (Int32.ofInt v) = Int32.ofInt v by rcases hv with rfl | rfl <;> rfl]
    refine congrArg (fun z => Sum.inl (b.2.2.2.2.2.1, lenA (fm q m) k, Sum.inl z)) ?_
    funext j
    rw [u2_row]
    unfold upd upr
    split <;> rfl
  · exact absurd (h0.2 hb0) (fun z => z)
theorem x_lald {k L : Nat} {i : Int} {K : Int → Rs} (hC : Cok g b ow cc nL dep ret) (hd : decode cc pc = .ok (.laload, 1)) (hn : pc + 1 = n') (hk : cknd k = (2, L)) (hk9 : k < 95) (hs : own2 k = q.1) (hm : Rg m) (hi : inR i) (hF : okR (ald m k L i K) Q) (kk : ∀ v, inL v → okR (K v) Q → X g b q nL Z n' lv (lV v :: st) m kc ks) : X g b q nL Z pc lv (iV i :: .ref (b.1 + k) :: st) m kc ks := by
  have e : kndA k = 2 := by unfold kndA; rw [if_pos hk9, hk]
  have hL : lenA (fm q m) k = L := by unfold lenA; rw [if_pos hk9, hk]
  have hlg : lngk k = true := by unfold lngk; rw [e]; rfl
  subst hn
  intro H locs cells slots ls hH hS hc hs' hl
  have h0 := okR_ite hF
  by_cases hb0 : 0 ≤ i ∧ i < (L : Int)
  · have kx := kk (m k i.toNat) (hm.l k _ hlg) (h0.1 hb0) H locs cells slots ls hH hS hc hs' hl
    obtain ⟨hx, hb, -, hown, hts, -, hK, -⟩ := hC
    refine va_lald (i := Int32.ofInt i) hx hb hK.1 hH.2 k 2 (by rw [wsF_get b _ (lt95 _ hk9), cel_l e]) rfl (vin hi (by rw [hL]; exact hb0)) hd ?_
    rw [clamp hi, fm_at hs]
    exact kx
  · exact absurd (h0.2 hb0) (fun z => z)
theorem x_last {k L : Nat} {i v : Int} {K : Mm → Rs} (hC : Cok g b ow cc nL dep ret) (hd : decode cc pc = .ok (.lastore, 1)) (hn : pc + 1 = n') (hk : cknd k = (2, L)) (hk9 : k < 95) (hs : own2 k = q.1) (hm : Rg m) (hi : inR i) (hv : inL v) (hF : okR (ast m k L i v K) Q) (kk : ∀ m', Rg m' → okR (K m') Q → X g b q nL Z n' lv st m' kc ks) : X g b q nL Z pc lv (lV v :: iV i :: .ref (b.1 + k) :: st) m kc ks := by
  have e : kndA k = 2 := by unfold kndA; rw [if_pos hk9, hk]
  have hL : lenA (fm q m) k = L := by unfold lenA; rw [if_pos hk9, hk]
  have hlg : lngk k = true := by unfold lngk; rw [e]; rfl
  have hk0 : k ≠ 0 := fun z => by subst z; cases hk
  subst hn
  intro H locs cells slots ls hH hS hc hs' hl
  have h0 := okR_ite hF
  by_cases hb0 : 0 ≤ i ∧ i < (L : Int)
  · have kx := kk (upd2 m k i.toNat v) (hm.u _ (rgk_l hlg hv)) (h0.1 hb0)
    obtain ⟨hx, hb, -, hown, hts, -, hK, -⟩ := hC
    refine zp_last (i := Int32.ofInt i) (x := Int64.ofInt v) hx hb hK.1 hH.2 (wsF_D b _) hS k 2 (by rw [wsF_get b _ (lt95 _ hk9), cel_l e]) rfl (vin hi (by rw [hL]; exact hb0)) hd (fun H1 locs1 hP1 hz hS1 => ?_)
    refine kx H1 locs1 cells slots ls ?_ hS1 hc hs' hl
    rw [fm_u2 hs]
    refine Hc_set hk0 (lt95 _ hk9) hH.1 hz ?_ hP1
    rw [cel_l e, lenA_u2 hk0, clamp hi]
    refine congrArg (fun z => Sum.inl (b.2.2.2.2.1, lenA (fm q m) k, Sum.inr (Sum.inl z))) ?_
    funext j
    rw [u2_row]
    unfold vp_updL upr
    split <;> rfl
  · exact absurd (h0.2 hb0) (fun z => z)
theorem x_alenI {k L : Nat} (hC : Cok g b ow cc nL dep ret) (hd : decode cc pc = .ok (.arraylength, 1)) (hn : pc + 1 = n') (hk : kndA k = 0) (hkc : k < cntD (fm q m)) (hL : lenA (fm q m) k = L) (kk : X g b q nL Z n' lv (iV (L : Int) :: st) m kc ks) : X g b q nL Z pc lv (.ref (b.1 + k) :: st) m kc ks := by
  subst hn
  intro H locs cells slots ls hH hS hc hs' hl
  have kx := kk H locs cells slots ls hH hS hc hs' hl
  obtain ⟨hx, hb, -, hown, hts, -, hK, -⟩ := hC
  exact va_alen hx hb hK.1 hH.2 k 0 (by rw [wsF_get b _ hkc, cel_i hk]) rfl (by show Int32.ofNat (lenA (fm q m) k) = _; rw [hL, ← Int32.ofInt_eq_ofNat]) hd kx
/-- ONE_BY: the static, and a place of it -/
theorem x_one {idx : Nat} (hC : Cok g b ow cc nL dep ret) (hd : decode cc pc = .ok (.getstatic idx, 3)) (hn : pc + 3 = n') (hw : Cond.fieldLink ow idx "OneWord$Crowd" "ONE_BY" "[I" ∈ gtb) (kk : X g b q nL Z n' lv (.ref b.2.2.2.2.2.2.1 :: st) m kc ks) : X g b q nL Z pc lv st m kc ks := by
  subst hn
  intro H locs cells slots ls hH hS hc hs' hl
  have kx := kk H locs cells slots ls hH hS hc hs' hl
  obtain ⟨hx, hb, -, hown, hts, -, hK, -⟩ := hC
  exact va_gets hx hb hK.2.2.1 hS hown (hts _ hw) (fun _ h => h) hd kx
theorem x_oneld {i : Int} {K : Int → Rs} (hC : Cok g b ow cc nL dep ret) (hd : decode cc pc = .ok (.iaload, 1)) (hn : pc + 1 = n') (hi : inR i) (hF : okR (if 0 ≤ i ∧ i < 5 then K (oneF i.toNat) else none) Q) (kk : ∀ v, inR v → okR (K v) Q → X g b q nL Z n' lv (iV v :: st) m kc ks) : X g b q nL Z pc lv (iV i :: .ref b.2.2.2.2.2.2.1 :: st) m kc ks := by
  subst hn
  intro H locs cells slots ls hH hS hc hs' hl
  have h0 := okR_ite hF
  by_cases hb0 : 0 ≤ i ∧ i < 5
  · have kx := kk (oneF i.toNat) (by unfold oneF inR; split <;> omega) (h0.1 hb0) H locs cells slots ls hH hS hc hs' hl
    obtain ⟨hx, hb, -, hown, hts, -, hK, -⟩ := hC
    have hlt := hK.2.2.2.1.1
    refine va_sld (i := Int32.ofInt i) hx hb hK.2.2.2.1.2 (by have := hK.2.1; omega) (by omega) hS (vin hi hb0) hd ?_
    rw [clamp hi]
    exact kx
  · exact absurd (h0.2 hb0) (fun z => z)
end XH

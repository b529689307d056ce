/-! fields, arrays, calls, ends over X -/
def Cls (n : Nat) (C : String) (T : u_T) (N : Nat) (ty : Nat → FieldType) : Prop := vwCl[n]? = some (C, T, N) ∧ (∀ w ∈ u_ws C T N, w ∈ gtb) ∧ (∀ k, k < N → parseFieldDescriptor (T k).2.2.1 = some (ty k)) ∧ (∀ a, a < N → ∀ b, b < N → a ≠ b → (T a).2.1 ≠ (T b).2.1) ∧ nfl n = N
def FLk (ow : String) (idx n j : Nat) : Prop := ∃ C T N ty, Cls n C T N ty ∧ j < N ∧ Cond.fieldLink ow idx (T j).1 (T j).2.1 (T j).2.2.1 ∈ gtb
def FPk (ow : String) (idx n j : Nat) (t : FieldType) : Prop := ∃ C T N ty, Cls n C T N ty ∧ j < N ∧ Cond.fieldLink ow idx (T j).1 (T j).2.1 (T j).2.2.1 ∈ gtb ∧ ty j = t ∧ (T j).2.2.2 = false
theorem cel_obj {b : Bs} {M : Mm} {k n : Nat} (h : kndA k = n + 4) : celF b M k = .inr (n, (List.range (nfl n)).map (fun j => fvl b k n j (M k j))) := by unfold celF; rw [h]
theorem cel_i {b : Bs} {M : Mm} {k : Nat} (h : kndA k = 0) : celF b M k = .inl (b.2.2.1, lenA M k, .inl (fun j => Int32.ofInt (M k j))) := by unfold celF; rw [h]
theorem cel_b {b : Bs} {M : Mm} {k : Nat} (h : kndA k = 1) : celF b M k = .inl (b.2.2.2.1, lenA M k, .inl (fun j => Int32.ofInt (M k j))) := by unfold celF; rw [h]
theorem cel_l {b : Bs} {M : Mm} {k : Nat} (h : kndA k = 2) : celF b M k = .inl (b.2.2.2.2.1, lenA M k, .inr (.inl (fun j => Int64.ofInt (M k j)))) := by unfold celF; rw [h]
theorem cel_z {b : Bs} {M : Mm} {k : Nat} (h : kndA k = 3) : celF b M k = .inl (b.2.2.2.2.2.1, lenA M k, .inl (fun j => Int32.ofInt (M k j))) := by unfold celF; rw [h]
theorem rmap_get {N j : Nat} {f : Nat → Value} (h : j < N) : ((List.range N).map f)[j]? = some (f j) := by rw [List.getElem?_map, List.getElem?_range h]; rfl
theorem rmap_set {N j : Nat} {f f' : Nat → Value} (h : j < N) (ho : ∀ i, i ≠ j → f' i = f i) : ((List.range N).map f).set j (f' j) = (List.range N).map f' := by
  apply List.ext_getElem?
  intro i
  by_cases hi : i < N
  · rw [rmap_get hi]
    by_cases e : i = j
    · subst e; rw [List.getElem?_set_self (by rw [List.length_map, List.length_range]; exact h)]
    · rw [List.getElem?_set_ne (fun z => e z.symm), rmap_get hi, ho i e]
  · rw [List.getElem?_eq_none (by rw [List.length_set, List.length_map, List.length_range]; omega), List.getElem?_eq_none (by rw [List.length_map, List.length_range]; omega)]
theorem lt95 (m : Mm) {k : Nat} (h : k < 95) : k < cntD m := by unfold cntD; omega
theorem vin {i : Int} {n : Nat} (hi : inR i) (h : 0 ≤ i ∧ i < (n : Int)) : vp_in (Int32.ofInt i) n := by rw [vp_in_iff, t_ofI' hi]; exact h
theorem clamp {i : Int} (hi : inR i) : (Int32.ofInt i).toNatClampNeg = i.toNat := Int32.toNatClampNeg_ofInt_of_le (by have := hi.1; omega) (by have := hi.2; omega)
theorem Hc_low {b : Bs} {M : Mm} {ws : va_W} {H : Heap} (hP : va_P b.2.1 vwCl ws H) (he : ws = wsF b M) : b.1 + cntD M ≤ H.size := by
  subst he
  have h95 : 95 ≤ cntD M := by unfold cntD; omega
  have h := (hP (cntD M - 1) _ (wsF_get b M (by omega))).lt
  simp only at h
  omega
/-- a store has been made: the new world, and its size by the walk's own account -/
theorem W_setG {p : Program} {l : Launch} {e : Env} {R : Room} {s : State} {mt : MethodId} {args : Array Value} {below : List Frame} {meth : Method} {c : Code} {b : Bs} {M M' : Mm} {k : Nat} {H H1 : Heap} {locs : List Loc} {cells slots : Nat} {Z : State → Prop} {g : JFrame} {x : va_E} (hk : k < cntD M) (hcn : cntD M' = cntD M) (ho : ∀ k', k' ≠ k → celF b M' k' = celF b M k') (hsz : H.size = b.1 + cntD M) (hz : H.size = s.heap.size + cells) (he : celF b M' k = x) (hP : va_P b.2.1 vwCl ((wsF b M).set k (b.1 + k, x)) H1)
    (kk : Hc b M' H1 → H1.size = s.heap.size + cells → W p l e R s mt args below meth c H1 locs cells slots Z g) : W p l e R s mt args below meth c H1 locs cells slots Z g := by
  subst he
  rw [wsF_set b hk hcn ho] at hP
  intro T hT X0
  have h1 := Hc_low hP rfl
  have h2 := X0.heapSize
  rw [hT] at h2
  rw [hcn] at h1
  have h3 : H1.size = s.heap.size + cells := by omega
  exact kk ⟨by rw [hcn]; omega, hP⟩ h3 T hT X0
theorem W_set {p : Program} {l : Launch} {e : Env} {R : Room} {s : State} {mt : MethodId} {args : Array Value} {below : List Frame} {meth : Method} {c : Code} {b : Bs} {M : Mm} {k i : Nat} {v : Int} {H H1 : Heap} {locs : List Loc} {cells slots : Nat} {Z : State → Prop} {g : JFrame} {x : va_E} (h0 : k ≠ 0) (hk : k < cntD M) (hsz : H.size = b.1 + cntD M) (hz : H.size = s.heap.size + cells) (he : celF b (upd2 M k i v) k = x) (hP : va_P b.2.1 vwCl ((wsF b M).set k (b.1 + k, x)) H1)
    (kk : Hc b (upd2 M k i v) H1 → H1.size = s.heap.size + cells → W p l e R s mt args below meth c H1 locs cells slots Z g) : W p l e R s mt args below meth c H1 locs cells slots Z g :=
  W_setG hk (cntD_u2 h0) (fun k' hk' => celF_ne h0 k' hk') hsz hz he hP kk
def onl (i : Int) (K : Int → Rs) : Rs := if 0 ≤ i ∧ i < 5 then K (oneF i.toNat) else none
section XH
variable {g : Gx} {b : Bs} {q : Sd} {nL dep : Nat} {Z : State → Prop} {ow : String} {cc : ByteArray} {ret : Option FieldType} {pc n' : Nat} {lv : List (Nat × Value)} {st : List Value} {m : Mm} {kc ks : Nat} {Q : Int → Mm → Prop}
theorem x_getI {k n j idx : Nat} (hC : Cok g b ow cc nL dep ret) (hd : decode cc pc = .ok (.getfield idx, 3)) (hn : pc + 3 = n') (hf : FLk ow idx n j) (hk : kndA k = n + 4) (hk9 : k < 95) (hty : fty n j = 0) (hs : own2 k = q.1) (kk : X g b q nL Z n' lv (iV (m k j) :: st) m kc ks) : X g b q nL Z pc lv (.ref (b.1 + k) :: st) m kc ks := by
  subst hn
  intro H locs cells slots ls hH hS hc hs' hl
  have kx := kk H locs cells slots ls hH hS hc hs' hl
  obtain ⟨C, T, N, ty, ⟨c1, c2, c3, c4, c5⟩, hj, hlk⟩ := hf
  obtain ⟨hx, hb, -, hown, hts, -, hK, -⟩ := hC
  refine va_get (D := b.2.1) (ci := n) (v := iV (m k j)) hx hb hts c2 hown hK.1 hH.2 k (by rw [wsF_get b _ (lt95 _ hk9), cel_obj hk]) c1 j hj (hts _ hlk) (fun _ h => h) ?_ hd kx
  rw [rmap_get (by rw [c5]; exact hj)]
  unfold fvl
  rw [hty, fm_at hs]
  rfl
theorem x_getR {k n j idx t : Nat} (hC : Cok g b ow cc nL dep ret) (hd : decode cc pc = .ok (.getfield idx, 3)) (hn : pc + 3 = n') (hf : FLk ow idx n j) (hk : kndA k = n + 4) (hk9 : k < 95) (hty : fty n j = 1) (ht : ftg k j = t) (kk : X g b q nL Z n' lv (.ref (b.1 + t) :: st) m kc ks) : X g b q nL Z pc lv (.ref (b.1 + k) :: st) m kc ks := by
  subst hn
  subst ht
  intro H locs cells slots ls hH hS hc hs' hl
  have kx := kk H locs cells slots ls hH hS hc hs' hl
  obtain ⟨C, T, N, ty, ⟨c1, c2, c3, c4, c5⟩, hj, hlk⟩ := hf
  obtain ⟨hx, hb, -, hown, hts, -, hK, -⟩ := hC
  refine va_get (D := b.2.1) (ci := n) (v := .ref (b.1 + ftg k j)) hx hb hts c2 hown hK.1 hH.2 k (by rw [wsF_get b _ (lt95 _ hk9), cel_obj hk]) c1 j hj (hts _ hlk) (fun _ h => h) ?_ hd kx
  rw [rmap_get (by rw [c5]; exact hj)]
  unfold fvl
  rw [hty]
  rfl
theorem x_getD {k n j idx : Nat} (hC : Cok g b ow cc nL dep ret) (hd : decode cc pc = .ok (.getfield idx, 3)) (hn : pc + 3 = n') (hf : FLk ow idx n j) (hk : kndA k = n + 4) (hk9 : k < 95) (hty : fty n j = 2) (hs : own2 k = q.1) (kk : X g b q nL Z n' lv (.ref (b.1 + (m k j).toNat) :: st) m kc ks) : X g b q nL Z pc lv (.ref (b.1 + k) :: st) m kc ks := by
  subst hn
  intro H locs cells slots ls hH hS hc hs' hl
  have kx := kk H locs cells slots ls hH hS hc hs' hl
  obtain ⟨C, T, N, ty, ⟨c1, c2, c3, c4, c5⟩, hj, hlk⟩ := hf
  obtain ⟨hx, hb, -, hown, hts, -, hK, -⟩ := hC
  refine va_get (D := b.2.1) (ci := n) (v := .ref (b.1 + (m k j).toNat)) hx hb hts c2 hown hK.1 hH.2 k (by rw [wsF_get b _ (lt95 _ hk9), cel_obj hk]) c1 j hj (hts _ hlk) (fun _ h => h) ?_ hd kx
  rw [rmap_get (by rw [c5]; exact hj)]
  unfold fvl
  rw [hty, fm_at hs]
  rfl
theorem x_putG {k n j idx : Nat} {v : Int} {w : Value} {t : FieldType} {K : Mm → Rs} (hC : Cok g b ow cc nL dep ret) (hd : decode cc pc = .ok (.putfield idx, 3)) (hn : pc + 3 = n') (hf : FPk ow idx n j t) (hk : kndA k = n + 4) (hk9 : k < 95) (h0 : k ≠ 0) (hw : fvl b k n j v = w) (hnr : narrow t w = w) (hft : fits t w = true) (hs : own2 k = q.1) (hm : Rg m) (hv : rgk k v) (hF : okR (stf m k j v K) Q) (kk : ∀ m', Rg m' → okR (K m') Q → X g b q nL Z n' lv st m' kc ks) : X g b q nL Z pc lv (w :: .ref (b.1 + k) :: st) m kc ks := by
  subst hn
  intro H locs cells slots ls hH hS hc hs' hl
  obtain ⟨C, T, N, ty, ⟨c1, c2, c3, c4, c5⟩, hj, hlk, ht, hfin⟩ := hf
  obtain ⟨hx, hb, -, hown, hts, -, hK, -⟩ := hC
  refine va_put (D := b.2.1) (ci := n) (ty := t) hx hb hts c2 ty c3 c4 hown hK.1 hH.2 (wsF_D b _) hS k (by rw [wsF_get b _ (lt95 _ hk9), cel_obj hk]) c1 j hj (hts _ hlk) (fun _ h => h) hfin (by rw [c3 j hj, ht]) hnr hft (by rw [List.length_map, List.length_range, c5]; exact hj) hd (fun H1 locs1 hP1 _ hS1 => ?_)
  refine W_set (i := j) (v := v) h0 (lt95 _ hk9) hH.1 hc.1 ?_ hP1 (fun hH1 hz1 => ?_)
  · rw [cel_obj hk, ← hw]
    have e := rmap_set (N := nfl n) (j := j) (f := fun i => fvl b k n i (fm q m k i)) (f' := fun i => fvl b k n i (upd2 (fm q m) k j v k i)) (by rw [c5]; exact hj) (fun i hi => by
      show fvl b k n i (upd2 (fm q m) k j v k i) = fvl b k n i (fm q m k i)
      rw [u2_row]; unfold upr; rw [if_neg hi])
    rw [u2_same] at e
    rw [← e]
  · exact kk (upd2 m k j v) (hm.u j hv) hF H1 locs1 cells slots ls (by rw [fm_u2 hs]; exact hH1) hS1 ⟨hz1, hc.2⟩ hs' hl
theorem x_putI {k n j idx : Nat} {v : Int} {K : Mm → Rs} (hC : Cok g b ow cc nL dep ret) (hd : decode cc pc = .ok (.putfield idx, 3)) (hn : pc + 3 = n') (hf : FPk ow idx n j .int) (hk : kndA k = n + 4) (hk9 : k < 95) (h0 : k ≠ 0) (hty : fty n j = 0) (hs : own2 k = q.1) (hm : Rg m) (hv : inR v) (hlg : lngk k = false) (hF : okR (stf m k j v K) Q) (kk : ∀ m', Rg m' → okR (K m') Q → X g b q nL Z n' lv st m' kc ks) : X g b q nL Z pc lv (iV v :: .ref (b.1 + k) :: st) m kc ks :=
  x_putG hC hd hn hf hk hk9 h0 (by unfold fvl; rw [hty]; rfl) rfl rfl hs hm (rgk_i hlg (by rw [hk]; omega) hv) hF kk
theorem x_putZ {k n j idx : Nat} {v : Int} {K : Mm → Rs} (hC : Cok g b ow cc nL dep ret) (hd : decode cc pc = .ok (.putfield idx, 3)) (hn : pc + 3 = n') (hf : FPk ow idx n j .boolean) (hk : kndA k = n + 4) (hk9 : k < 95) (h0 : k ≠ 0) (hty : fty n j = 0) (hs : own2 k = q.1) (hm : Rg m) (hv : v = 0 ∨ v = 1) (hlg : lngk k = false) (hF : okR (stf m k j v K) Q) (kk : ∀ m', Rg m' → okR (K m') Q → X g b q nL Z n' lv st m' kc ks) : X g b q nL Z pc lv (iV v :: .ref (b.1 + k) :: st) m kc ks :=
  x_putG hC hd hn hf hk hk9 h0 (by unfold fvl; rw [hty]; rfl) (by rcases hv with rfl | rfl <;> rfl) (by rcases hv with rfl | rfl <;> rfl) hs hm (rgk_i hlg (by rw [hk]; omega) (rg_01 hv)) hF kk
theorem x_putD {k n j idx t : Nat} {ft : FieldType} {K : Mm → Rs} (hC : Cok g b ow cc nL dep ret) (hd : decode cc pc = .ok (.putfield idx, 3)) (hn : pc + 3 = n') (hf : FPk ow idx n j ft) (hk : kndA k = n + 4) (hk9 : k < 95) (h0 : k ≠ 0) (hty : fty n j = 2) (hnr : ∀ a, narrow ft (.ref a) = .ref a) (hft : ∀ a, fits ft (.ref a) = true) (hs : own2 k = q.1) (hm : Rg m) (hv : inR (t : Int)) (hlg : lngk k = false) (hF : okR (stf m k j (t : Int) K) Q) (kk : ∀ m', Rg m' → okR (K m') Q → X g b q nL Z n' lv st m' kc ks) : X g b q nL Z pc lv (.ref (b.1 + t) :: .ref (b.1 + k) :: st) m kc ks :=
  x_putG hC hd hn hf hk hk9 h0 (by unfold fvl; rw [hty]; rfl) (hnr _) (hft _) hs hm (rgk_i hlg (by rw [hk]; omega) hv) hF kk
theorem x_ialdG {k L : Nat} {i : Int} {K : Int → Rs} (hC : Cok g b ow cc nL dep ret) (hd : decode cc pc = .ok (.iaload, 1)) (hn : pc + 1 = n') (hk : kndA k = 0) (hkc : k < cntD (fm q m)) (hL : lenA (fm q m) k = L) (hs : own2 k = q.1) (hlg : lngk k = false) (hm : Rg m) (hi : inR i) (hF : okR (ald m k L i K) Q) (kk : ∀ v, inR v → okR (K v) Q → X g b q nL Z n' lv (iV v :: st) m kc ks) : X g b q nL Z pc lv (iV i :: .ref (b.1 + k) :: st) m kc ks := by
  subst hn
  intro H locs cells slots ls hH hS hc hs' hl
  have h0 := okR_ite hF
  by_cases hb0 : 0 ≤ i ∧ i < (L : Int)
  · have kx := kk (m k i.toNat) (hm.i k _ hlg) (h0.1 hb0) H locs cells slots ls hH hS hc hs' hl
    obtain ⟨hx, hb, -, hown, hts, -, hK, -⟩ := hC
    refine va_iald (i := Int32.ofInt i) hx hb hK.1 hH.2 k 0 (by rw [wsF_get b _ hkc, cel_i hk]) rfl (vin hi (by rw [hL]; exact hb0)) hd ?_
    rw [clamp hi, fm_at hs]
    exact kx
  · exact absurd (h0.2 hb0) (fun z => z)
theorem x_iald {k L : Nat} {i : Int} {K : Int → Rs} (hC : Cok g b ow cc nL dep ret) (hd : decode cc pc = .ok (.iaload, 1)) (hn : pc + 1 = n') (hk : cknd k = (0, L)) (hk9 : k < 95) (hs : own2 k = q.1) (hm : Rg m) (hi : inR i) (hF : okR (ald m k L i K) Q) (kk : ∀ v, inR v → okR (K v) Q → X g b q nL Z n' lv (iV v :: st) m kc ks) : X g b q nL Z pc lv (iV i :: .ref (b.1 + k) :: st) m kc ks := by
  have e : kndA k = 0 := by unfold kndA; rw [if_pos hk9, hk]
  exact x_ialdG hC hd hn e (lt95 _ hk9) (by unfold lenA; rw [if_pos hk9, hk]) hs (by unfold lngk; rw [e]; rfl) hm hi hF kk
theorem x_iastG {k L : Nat} {i v : Int} {K : Mm → Rs} (hC : Cok g b ow cc nL dep ret) (hd : decode cc pc = .ok (.iastore, 1)) (hn : pc + 1 = n') (hk : kndA k = 0) (hkc : k < cntD (fm q m)) (hk0 : k ≠ 0) (hL : lenA (fm q m) k = L) (hs : own2 k = q.1) (hlg : lngk k = false) (hm : Rg m) (hi : inR i) (hv : inR v) (hF : okR (ast m k L i v K) Q) (kk : ∀ m', Rg m' → okR (K m') Q → X g b q nL Z n' lv st m' kc ks) : X g b q nL Z pc lv (iV v :: iV i :: .ref (b.1 + k) :: st) m kc ks := by
  subst hn
  intro H locs cells slots ls hH hS hc hs' hl
  have h0 := okR_ite hF
  by_cases hb0 : 0 ≤ i ∧ i < (L : Int)
  · have kx := kk (upd2 m k i.toNat v) (hm.u _ (rgk_i hlg (by rw [hk]; decide) hv)) (h0.1 hb0)
    obtain ⟨hx, hb, -, hown, hts, -, hK, -⟩ := hC
    refine va_iast (i := Int32.ofInt i) (x := Int32.ofInt v) hx hb hK.1 hH.2 (wsF_D b _) hS k 0 (by rw [wsF_get b _ hkc, cel_i hk]) rfl (vin hi (by rw [hL]; exact hb0)) hd (fun H1 locs1 hP1 _ hS1 => ?_)
    refine W_set (i := i.toNat) (v := v) hk0 hkc hH.1 hc.1 ?_ hP1 (fun hH1 hz1 => ?_)
    · rw [cel_i hk, lenA_u2 hk0, clamp hi]
      refine congrArg (fun z => Sum.inl (b.2.2.1, lenA (fm q m) k, Sum.inl z)) ?_
      funext j
      rw [u2_row]
      unfold upd upr
      split <;> rfl
    · exact kx H1 locs1 cells slots ls (by rw [fm_u2 hs]; exact hH1) hS1 ⟨hz1, hc.2⟩ hs' hl
  · exact absurd (h0.2 hb0) (fun z => z)
theorem x_iast {k L : Nat} {i v : Int} {K : Mm → Rs} (hC : Cok g b ow cc nL dep ret) (hd : decode cc pc = .ok (.iastore, 1)) (hn : pc + 1 = n') (hk : cknd k = (0, L)) (hk9 : k < 95) (hs : own2 k = q.1) (hm : Rg m) (hi : inR i) (hv : inR v) (hF : okR (ast m k L i v K) Q) (kk : ∀ m', Rg m' → okR (K m') Q → X g b q nL Z n' lv st m' kc ks) : X g b q nL Z pc lv (iV v :: iV i :: .ref (b.1 + k) :: st) m kc ks := by
  have e : kndA k = 0 := by unfold kndA; rw [if_pos hk9, hk]
  exact x_iastG hC hd hn e (lt95 _ hk9) (fun z => by subst z; cases hk) (by unfold lenA; rw [if_pos hk9, hk]) hs (by unfold lngk; rw [e]; rfl) hm hi hv hF kk
theorem x_bald {k L : Nat} {i : Int} {K : Int → Rs} (hC : Cok g b ow cc nL dep ret) (hd : decode cc pc = .ok (.baload, 1)) (hn : pc + 1 = n') (hk : cknd k = (1, L)) (hk9 : k < 95) (hs : own2 k = q.1) (hm : Rg m) (hi : inR i) (hF : okR (ald m k L i K) Q) (kk : ∀ v, inR v → okR (K v) Q → X g b q nL Z n' lv (iV v :: st) m kc ks) : X g b q nL Z pc lv (iV i :: .ref (b.1 + k) :: st) m kc ks := by
  have e : kndA k = 1 := by unfold kndA; rw [if_pos hk9, hk]
  have hL : lenA (fm q m) k = L := by unfold lenA; rw [if_pos hk9, hk]
  have hlg : lngk k = false := by unfold lngk; rw [e]; rfl
  subst hn
  intro H locs cells slots ls hH hS hc hs' hl
  have h0 := okR_ite hF
  by_cases hb0 : 0 ≤ i ∧ i < (L : Int)
  · have kx := kk (m k i.toNat) (hm.i k _ hlg) (h0.1 hb0) H locs cells slots ls hH hS hc hs' hl
    obtain ⟨hx, hb, -, hown, hts, -, hK, -⟩ := hC
    refine va_bald (i := Int32.ofInt i) hx hb hK.1 hH.2 k 1 (by rw [wsF_get b _ (lt95 _ hk9), cel_b e]) rfl (vin hi (by rw [hL]; exact hb0)) hd ?_
    rw [clamp hi, fm_at hs]
    exact kx
  · exact absurd (h0.2 hb0) (fun z => z)
theorem x_zald {k L : Nat} {i : Int} {K : Int → Rs} (hC : Cok g b ow cc nL dep ret) (hd : decode cc pc = .ok (.baload, 1)) (hn : pc + 1 = n') (hk : cknd k = (3, L)) (hk9 : k < 95) (hs : own2 k = q.1) (hm : Rg m) (hi : inR i) (hF : okR (ald m k L i K) Q) (kk : ∀ v, (v = 0 ∨ v = 1) → okR (K v) Q → X g b q nL Z n' lv (iV v :: st) m kc ks) : X g b q nL Z pc lv (iV i :: .ref (b.1 + k) :: st) m kc ks := by
  have e : kndA k = 3 := by unfold kndA; rw [if_pos hk9, hk]
  have hL : lenA (fm q m) k = L := by unfold lenA; rw [if_pos hk9, hk]
  have hlg : lngk k = false := by unfold lngk; rw [e]; rfl
  subst hn
  intro H locs cells slots ls hH hS hc hs' hl
  have h0 := okR_ite hF
  by_cases hb0 : 0 ≤ i ∧ i < (L : Int)
  · have kx := kk (m k i.toNat) (hm.z k _ e) (h0.1 hb0) H locs cells slots ls hH hS hc hs' hl
    obtain ⟨hx, hb, -, hown, hts, -, hK, -⟩ := hC
    refine va_zald (i := Int32.ofInt i) hx hb hK.1 hH.2 k 3 (by rw [wsF_get b _ (lt95 _ hk9), cel_z e]) rfl (vin hi (by rw [hL]; exact hb0)) hd ?_
    rw [clamp hi, fm_at hs]
    exact kx
  · exact absurd (h0.2 hb0) (fun z => z)
theorem x_bast {k L : Nat} {i v : Int} {K : Mm → Rs} (hC : Cok g b ow cc nL dep ret) (hd : decode cc pc = .ok (.bastore, 1)) (hn : pc + 1 = n') (hk : cknd k = (1, L)) (hk9 : k < 95) (hs : own2 k = q.1) (hm : Rg m) (hi : inR i) (hv : vp_nar .byte (Int32.ofInt v) = Int32.ofInt v) (hv2 : inR v) (hF : okR (ast m k L i v K) Q) (kk : ∀ m', Rg m' → okR (K m') Q → X g b q nL Z n' lv st m' kc ks) : X g b q nL Z pc lv (iV v :: iV i :: .ref (b.1 + k) :: st) m kc ks := by
  have e : kndA k = 1 := by unfold kndA; rw [if_pos hk9, hk]
  have hL : lenA (fm q m) k = L := by unfold lenA; rw [if_pos hk9, hk]
  have hlg : lngk k = false := by unfold lngk; rw [e]; rfl
  have hk0 : k ≠ 0 := fun z => by subst z; cases hk
  subst hn
  intro H locs cells slots ls hH hS hc hs' hl
  have h0 := okR_ite hF
  by_cases hb0 : 0 ≤ i ∧ i < (L : Int)
  · have kx := kk (upd2 m k i.toNat v) (hm.u _ (rgk_i hlg (by rw [e]; decide) hv2)) (h0.1 hb0)
    obtain ⟨hx, hb, -, hown, hts, -, hK, -⟩ := hC
    refine va_bast (i := Int32.ofInt i) (x := Int32.ofInt v) hx hb hK.1 hH.2 (wsF_D b _) hS k 1 (by rw [wsF_get b _ (lt95 _ hk9), cel_b e]) rfl (vin hi (by rw [hL]; exact hb0)) hd (fun H1 locs1 hP1 _ hS1 => ?_)
    refine W_set (i := i.toNat) (v := v) hk0 (lt95 _ hk9) hH.1 hc.1 ?_ hP1 (fun hH1 hz1 => ?_)
    · rw [cel_b e, lenA_u2 hk0, clamp hi, hv]
      refine congrArg (fun z => Sum.inl (b.2.2.2.1, lenA (fm q m) k, Sum.inl z)) ?_
      funext j
      rw [u2_row]
      unfold upd upr
      split <;> rfl
    · exact kx H1 locs1 cells slots ls (by rw [fm_u2 hs]; exact hH1) hS1 ⟨hz1, hc.2⟩ hs' hl
  · exact absurd (h0.2 hb0) (fun z => z)
theorem x_zast {k L : Nat} {i v : Int} {K : Mm → Rs} (hC : Cok g b ow cc nL dep ret) (hd : decode cc pc = .ok (.bastore, 1)) (hn : pc + 1 = n') (hk : cknd k = (3, L)) (hk9 : k < 95) (hs : own2 k = q.1) (hm : Rg m) (hi : inR i) (hv : v = 0 ∨ v = 1) (hF : okR (ast m k L i v K) Q) (kk : ∀ m', Rg m' → okR (K m') Q → X g b q nL Z n' lv st m' kc ks) : X g b q nL Z pc lv (iV v :: iV i :: .ref (b.1 + k) :: st) m kc ks := by
  have e : kndA k = 3 := by unfold kndA; rw [if_pos hk9, hk]
  have hL : lenA (fm q m) k = L := by unfold lenA; rw [if_pos hk9, hk]
  have hlg : lngk k = false := by unfold lngk; rw [e]; rfl
  have hk0 : k ≠ 0 := fun z => by subst z; cases hk
  subst hn
  intro H locs cells slots ls hH hS hc hs' hl
  have h0 := okR_ite hF
  by_cases hb0 : 0 ≤ i ∧ i < (L : Int)
  · have kx := kk (upd2 m k i.toNat v) (hm.u _ (rgk_z e hv)) (h0.1 hb0)
    obtain ⟨hx, hb, -, hown, hts, -, hK, -⟩ := hC
    refine va_zast (i := Int32.ofInt i) (x := Int32.ofInt v) hx hb hK.1 hH.2 (wsF_D b _) hS k 3 (by rw [wsF_get b _ (lt95 _ hk9), cel_z e]) rfl (vin hi (by rw [hL]; exact hb0)) hd (fun H1 locs1 hP1 _ hS1 => ?_)
    refine W_set (i := i.toNat) (v := v) hk0 (lt95 _ hk9) hH.1 hc.1 ?_ hP1 (fun hH1 hz1 => ?_)
    · rw [cel_z e, lenA_u2 hk0, clamp hi, show vp_nar .boolean (Int32.ofInt v) = Int32.ofInt v by rcases hv with rfl | rfl <;> rfl]
      refine congrArg (fun z => Sum.inl (b.2.2.2.2.2.1, lenA (fm q m) k, Sum.inl z)) ?_
      funext j
      rw [u2_row]
      unfold upd upr
      split <;> rfl
    · exact kx H1 locs1 cells slots ls (by rw [fm_u2 hs]; exact hH1) hS1 ⟨hz1, hc.2⟩ hs' hl
  · exact absurd (h0.2 hb0) (fun z => z)
theorem x_lald {k L : Nat} {i : Int} {K : Int → Rs} (hC : Cok g b ow cc nL dep ret) (hd : decode cc pc = .ok (.laload, 1)) (hn : pc + 1 = n') (hk : cknd k = (2, L)) (hk9 : k < 95) (hs : own2 k = q.1) (hm : Rg m) (hi : inR i) (hF : okR (ald m k L i K) Q) (kk : ∀ v, inL v → okR (K v) Q → X g b q nL Z n' lv (lV v :: st) m kc ks) : X g b q nL Z pc lv (iV i :: .ref (b.1 + k) :: st) m kc ks := by
  have e : kndA k = 2 := by unfold kndA; rw [if_pos hk9, hk]
  have hL : lenA (fm q m) k = L := by unfold lenA; rw [if_pos hk9, hk]
  have hlg : lngk k = true := by unfold lngk; rw [e]; rfl
  subst hn
  intro H locs cells slots ls hH hS hc hs' hl
  have h0 := okR_ite hF
  by_cases hb0 : 0 ≤ i ∧ i < (L : Int)
  · have kx := kk (m k i.toNat) (hm.l k _ hlg) (h0.1 hb0) H locs cells slots ls hH hS hc hs' hl
    obtain ⟨hx, hb, -, hown, hts, -, hK, -⟩ := hC
    refine va_lald (i := Int32.ofInt i) hx hb hK.1 hH.2 k 2 (by rw [wsF_get b _ (lt95 _ hk9), cel_l e]) rfl (vin hi (by rw [hL]; exact hb0)) hd ?_
    rw [clamp hi, fm_at hs]
    exact kx
  · exact absurd (h0.2 hb0) (fun z => z)
theorem x_last {k L : Nat} {i v : Int} {K : Mm → Rs} (hC : Cok g b ow cc nL dep ret) (hd : decode cc pc = .ok (.lastore, 1)) (hn : pc + 1 = n') (hk : cknd k = (2, L)) (hk9 : k < 95) (hs : own2 k = q.1) (hm : Rg m) (hi : inR i) (hv : inL v) (hF : okR (ast m k L i v K) Q) (kk : ∀ m', Rg m' → okR (K m') Q → X g b q nL Z n' lv st m' kc ks) : X g b q nL Z pc lv (lV v :: iV i :: .ref (b.1 + k) :: st) m kc ks := by
  have e : kndA k = 2 := by unfold kndA; rw [if_pos hk9, hk]
  have hL : lenA (fm q m) k = L := by unfold lenA; rw [if_pos hk9, hk]
  have hlg : lngk k = true := by unfold lngk; rw [e]; rfl
  have hk0 : k ≠ 0 := fun z => by subst z; cases hk
  subst hn
  intro H locs cells slots ls hH hS hc hs' hl
  have h0 := okR_ite hF
  by_cases hb0 : 0 ≤ i ∧ i < (L : Int)
  · have kx := kk (upd2 m k i.toNat v) (hm.u _ (rgk_l hlg hv)) (h0.1 hb0)
    obtain ⟨hx, hb, -, hown, hts, -, hK, -⟩ := hC
    refine va_last (i := Int32.ofInt i) (x := Int64.ofInt v) hx hb hK.1 hH.2 (wsF_D b _) hS k 2 (by rw [wsF_get b _ (lt95 _ hk9), cel_l e]) rfl (vin hi (by rw [hL]; exact hb0)) hd (fun H1 locs1 hP1 _ hS1 => ?_)
    refine W_set (i := i.toNat) (v := v) hk0 (lt95 _ hk9) hH.1 hc.1 ?_ hP1 (fun hH1 hz1 => ?_)
    · rw [cel_l e, lenA_u2 hk0, clamp hi]
      refine congrArg (fun z => Sum.inl (b.2.2.2.2.1, lenA (fm q m) k, Sum.inr (Sum.inl z))) ?_
      funext j
      rw [u2_row]
      unfold vp_updL upr
      split <;> rfl
    · exact kx H1 locs1 cells slots ls (by rw [fm_u2 hs]; exact hH1) hS1 ⟨hz1, hc.2⟩ hs' hl
  · exact absurd (h0.2 hb0) (fun z => z)
theorem x_alenI {k L : Nat} (hC : Cok g b ow cc nL dep ret) (hd : decode cc pc = .ok (.arraylength, 1)) (hn : pc + 1 = n') (hk : kndA k = 0) (hkc : k < cntD (fm q m)) (hL : lenA (fm q m) k = L) (kk : X g b q nL Z n' lv (iV (L : Int) :: st) m kc ks) : X g b q nL Z pc lv (.ref (b.1 + k) :: st) m kc ks := by
  subst hn
  intro H locs cells slots ls hH hS hc hs' hl
  have kx := kk H locs cells slots ls hH hS hc hs' hl
  obtain ⟨hx, hb, -, hown, hts, -, hK, -⟩ := hC
  exact va_alen hx hb hK.1 hH.2 k 0 (by rw [wsF_get b _ hkc, cel_i hk]) rfl (by show Int32.ofNat (lenA (fm q m) k) = _; rw [hL, ← Int32.ofInt_eq_ofNat]) hd kx
/-- ONE_BY: the static, and a place of it -/
theorem x_one {idx : Nat} (hC : Cok g b ow cc nL dep ret) (hd : decode cc pc = .ok (.getstatic idx, 3)) (hn : pc + 3 = n') (hw : Cond.fieldLink ow idx "OneWord$Crowd" "ONE_BY" "[I" ∈ gtb) (kk : X g b q nL Z n' lv (.ref (bO b) :: st) m kc ks) : X g b q nL Z pc lv st m kc ks := by
  subst hn
  intro H locs cells slots ls hH hS hc hs' hl
  have kx := kk H locs cells slots ls hH hS hc hs' hl
  obtain ⟨hx, hb, -, hown, hts, -, hK, -⟩ := hC
  exact va_gets hx hb hK.2.2.1 hS hown (hts _ hw) (fun _ h => h) hd kx
theorem x_oneld {i : Int} {K : Int → Rs} (hC : Cok g b ow cc nL dep ret) (hd : decode cc pc = .ok (.iaload, 1)) (hn : pc + 1 = n') (hi : inR i) (hF : okR (onl i K) Q) (kk : ∀ v, inR v → okR (K v) Q → X g b q nL Z n' lv (iV v :: st) m kc ks) : X g b q nL Z pc lv (iV i :: .ref (bO b) :: st) m kc ks := by
  subst hn
  intro H locs cells slots ls hH hS hc hs' hl
  have h0 := okR_ite hF
  by_cases hb0 : 0 ≤ i ∧ i < 5
  · have kx := kk (oneF i.toNat) (by unfold oneF inR; split <;> omega) (h0.1 hb0) H locs cells slots ls hH hS hc hs' hl
    obtain ⟨hx, hb, -, hown, hts, -, hK, -⟩ := hC
    exact va_ti (i := Int32.ofInt i) hx hb hK.2.2.2.1 hS (vin hi hb0) (by rw [clamp hi]) hd kx
  · exact absurd (h0.2 hb0) (fun z => z)
end XH

/-! the world while it is being made: n cells, references that may be null (-1) -/
def fvN (b : Bs) (n j : Nat) (x : Int) : Value := if fty n j = 0 then iV x else if x = -1 then .null else .ref (b.1 + x.toNat)
def celN (b : Bs) (M : Mm) (k : Nat) : va_E := match kndA k with
  | 0 => .inl (b.2.2.1, (cknd k).2, .inl (fun j => Int32.ofInt (M k j)))
  | 1 => .inl (b.2.2.2.1, (cknd k).2, .inl (fun j => Int32.ofInt (M k j)))
  | 2 => .inl (b.2.2.2.2.1, (cknd k).2, .inr (.inl (fun j => Int64.ofInt (M k j))))
  | 3 => .inl (b.2.2.2.2.2.1, (cknd k).2, .inl (fun j => Int32.ofInt (M k j)))
  | n + 4 => .inr (n, (List.range (nfl n)).map (fun j => fvN b n j (M k j)))
def wsN (b : Bs) (n : Nat) (M : Mm) : va_W := (List.range n).map (fun k => (b.1 + k, celN b M k))
def HcN (b : Bs) (n : Nat) (M : Mm) (H : Heap) : Prop := H.size = b.1 + n ∧ va_P b.2.1 vwCl (wsN b n M) H
theorem wsN_get (b : Bs) (M : Mm) {n k : Nat} (h : k < n) : (wsN b n M)[k]? = some (b.1 + k, celN b M k) := by
  unfold wsN
  rw [List.getElem?_map, List.getElem?_range h]
  rfl
theorem wsN_len (b : Bs) (n : Nat) (M : Mm) : (wsN b n M).length = n := by unfold wsN; rw [List.length_map, List.length_range]
theorem wsN_D (b : Bs) (n : Nat) (M : Mm) : va_D (fun q => b.1 ≤ q) (wsN b n M) := by
  refine ⟨fun i j p q hi hj h => ?_, fun k q hk => ?_⟩
  · have h1 : i < n := by have := (List.getElem?_eq_some_iff.mp hi).1; rwa [wsN_len] at this
    have h2 : j < n := by have := (List.getElem?_eq_some_iff.mp hj).1; rwa [wsN_len] at this
    rw [wsN_get b M h1] at hi
    rw [wsN_get b M h2] at hj
    cases hi; cases hj
    simp only at h
    omega
  · have h1 : k < n := by have := (List.getElem?_eq_some_iff.mp hk).1; rwa [wsN_len] at this
    rw [wsN_get b M h1] at hk
    cases hk
    exact Nat.le_add_right _ _
theorem wsN_set (b : Bs) {n : Nat} {M M' : Mm} {k : Nat} (h : k < n) (ho : ∀ k', k' ≠ k → celN b M' k' = celN b M k') : (wsN b n M).set k (b.1 + k, celN b M' k) = wsN b n M' := by
  apply List.ext_getElem?
  intro i
  by_cases hi : i < n
  · rw [wsN_get b M' hi]
    by_cases e : i = k
    · subst e
      rw [List.getElem?_set_self (by rw [wsN_len]; exact h)]
    · rw [List.getElem?_set_ne (fun z => e z.symm), wsN_get b M hi, ho i e]
  · rw [List.getElem?_eq_none (by rw [List.length_set, wsN_len]; omega), List.getElem?_eq_none (by rw [wsN_len]; omega)]
theorem celN_ne {b : Bs} {M M' : Mm} {k : Nat} (h : M' k = M k) : celN b M' k = celN b M k := by unfold celN; rw [h]
theorem celN_obj {b : Bs} {M : Mm} {k n : Nat} (h : kndA k = n + 4) : celN b M k = .inr (n, (List.range (nfl n)).map (fun j => fvN b n j (M k j))) := by unfold celN; rw [h]
def rowW (M : Mm) (k : Nat) (r : Nat → Int) : Mm := fun c => if c = k then r else M c
def dflO (n : Nat) : Nat → Int := fun j => if fty n j = 0 then 0 else -1
theorem wsN_push (b : Bs) (n : Nat) (M : Mm) (r : Nat → Int) : wsN b (n + 1) (rowW M n r) = wsN b n M ++ [(b.1 + n, celN b (rowW M n r) n)] := by
  unfold wsN
  rw [List.range_succ, List.map_append]
  congr 1
  apply List.map_congr_left
  intro k hk
  have h := List.mem_range.mp hk
  rw [celN_ne (show rowW M n r k = M k by unfold rowW; rw [if_neg (by omega)])]
def WdN (b : Bs) (n : Nat) (M : Mm) (U : State) : Prop := HcN b n M U.heap ∧ Kx b U
def Y (g : Gx) (b : Bs) (nL : Nat) (Z : State → Prop) (pc : Nat) (lv : List (Nat × Value)) (st : List Value) (n : Nat) (M : Mm) (kc ks : Nat) : Prop :=
  ∀ (H : Heap) (locs : List Loc) (cells slots : Nat) (ls : Array Slot), HcN b n M H → va_S (fun a => b.1 ≤ a) (gS g).heap H locs → (H.size = (gS g).heap.size + cells ∧ cells + kc = (gR g).cells) → slots + ks ≤ (gR g).slots → lv_has ls nL lv → gW g H locs cells slots Z pc ls st
def QcN (b : Bs) (n : Nat) (M : Mm) (kc : Nat) : Array Value → State → Outcome → State → Prop := fun _ s o t => ((o = .returned none ∧ WdN b n M t) ∧ t.heap.size = s.heap.size + kc) ∧ va_F (fun a => b.1 ≤ a) s t
def ZN (g : Gx) (b : Bs) (n : Nat) (M : Mm) : State → Prop := MQ g.2.2.2.2.2.2.2.1 (QcN b n M (gR g).cells) (gA g) (gS g) (gR g).cells (gR g).slots (fun a => b.1 ≤ a)
def CnI (y : MethodName) (cc : ByteArray) (nL dep kc ks : Nat) (b : Bs) (n : Nat) (M : Mm) (av : List Value) (n' : Nat) (M' : Mm) : Prop :=
  ∀ l : Launch, Met l y (.code y cc nL none :: gtb) (rmM dep kc ks) (va_Pc av (WdN b n M)) (QcN b n' M' kc) kc ks (fun a => b.1 ≤ a)
def FQk (ow : String) (idx n j : Nat) (t : FieldType) : Prop := ∃ C T N ty, Cls n C T N ty ∧ j < N ∧ Cond.fieldLink ow idx (T j).1 (T j).2.1 (T j).2.2.1 ∈ gtb ∧ ty j = t ∧ (T j).2.2.2 = true ∧ (T j).1 = ow
theorem HcN_low {b : Bs} {n : Nat} {M : Mm} {H : Heap} (h0 : 0 < n) (hP : va_P b.2.1 vwCl (wsN b n M) H) : b.1 + n ≤ H.size := by
  have h := (hP (n - 1) _ (wsN_get b M (by omega))).lt
  simp only at h
  omega
section YR
variable {g : Gx} {b : Bs} {nL dep : Nat} {Z : State → Prop} {ow : String} {cc : ByteArray} {ret : Option FieldType} {pc pc' : Nat} {lv : List (Nat × Value)} {st : List Value} {n : Nat} {M : Mm} {kc ks : Nat}
theorem y_aload_n {f : Fin 4} {x : Nat} (hC : Cok g b ow cc nL dep ret) (hd : decode cc pc = .ok (.aload_n f, 1)) (hn : pc + 1 = pc') (p : Nat) (hp : lv[p]? = some ((f : Nat), .ref x)) (kk : Y g b nL Z pc' lv (.ref x :: st) n M kc ks) : Y g b nL Z pc lv st n M kc ks := by
  subst hn
  exact fun H locs cells slots ls hH hS hc hs hl => lv_aload_n hC.1 hC.2.1 hd rfl (lv_at hl p hp) (kk H locs cells slots ls hH hS hc hs hl)
theorem y_astore_n {f : Fin 4} {i x : Nat} {lv' : List (Nat × Value)} (hC : Cok g b ow cc nL dep ret) (hd : decode cc pc = .ok (.astore_n f, 1)) (hn : pc + 1 = pc') (hi : (f : Nat) = i) (hi2 : i < nL) (hlv : lv.filter (fun q => !(q.1 == i) && !(q.1 + 1 == i && q.2.category == 2)) = lv') (kk : Y g b nL Z pc' ((i, .ref x) :: lv') st n M kc ks) : Y g b nL Z pc lv (.ref x :: st) n M kc ks := by
  subst hn
  exact fun H locs cells slots ls hH hS hc hs hl => lv_astore_n (lv' := (i, .ref x) :: lv') hC.1 hC.2.1 hd hi hl hi2 (congrArg _ hlv) (fun ls' hl' => kk H locs cells slots ls' hH hS hc hs hl')
theorem y_iconst {c : Int} (hC : Cok g b ow cc nL dep ret) (hd : decode cc pc = .ok (.iconst c, 1)) (hn : pc + 1 = pc') (kk : Y g b nL Z pc' lv (iV c :: st) n M kc ks) : Y g b nL Z pc lv st n M kc ks := by
  subst hn
  exact fun H locs cells slots ls hH hS hc hs hl => lv_iconst hC.1 hC.2.1 hd rfl (kk H locs cells slots ls hH hS hc hs hl)
theorem y_bipush {c : Int} (hC : Cok g b ow cc nL dep ret) (hd : decode cc pc = .ok (.bipush c, 2)) (hn : pc + 2 = pc') (hv : (Int8.ofInt c).toInt32 = Int32.ofInt c) (kk : Y g b nL Z pc' lv (iV c :: st) n M kc ks) : Y g b nL Z pc lv st n M kc ks := by
  subst hn
  exact fun H locs cells slots ls hH hS hc hs hl => lv_bipush hC.1 hC.2.1 hd hv (kk H locs cells slots ls hH hS hc hs hl)
theorem y_sipush {c : Int} (hC : Cok g b ow cc nL dep ret) (hd : decode cc pc = .ok (.sipush c, 3)) (hn : pc + 3 = pc') (hv : (Int16.ofInt c).toInt32 = Int32.ofInt c) (kk : Y g b nL Z pc' lv (iV c :: st) n M kc ks) : Y g b nL Z pc lv st n M kc ks := by
  subst hn
  exact fun H locs cells slots ls hH hS hc hs hl => lv_sipush hC.1 hC.2.1 hd hv (kk H locs cells slots ls hH hS hc hs hl)
theorem y_ldc {idx : Nat} {x : Int} (hC : Cok g b ow cc nL dep ret) (hd : decode cc pc = .ok (.ldc idx, 2)) (hn : pc + 2 = pc') (hw : Cond.constant ow idx (Int32.ofInt x) ∈ gtb) (kk : Y g b nL Z pc' lv (iV x :: st) n M kc ks) : Y g b nL Z pc lv st n M kc ks := by
  subst hn
  exact fun H locs cells slots ls hH hS hc hs hl => lv_ldc hC.1 hC.2.1 hC.2.2.2.1 (hC.2.2.2.2.1 _ hw) hd (kk H locs cells slots ls hH hS hc hs hl)
theorem y_dup {v : Value} (hC : Cok g b ow cc nL dep ret) (hd : decode cc pc = .ok (.dup, 1)) (hn : pc + 1 = pc') (hv : v.category = 1) (kk : Y g b nL Z pc' lv (v :: v :: st) n M kc ks) : Y g b nL Z pc lv (v :: st) n M kc ks := by
  subst hn
  exact fun H locs cells slots ls hH hS hc hs hl => lv_dup hC.1 hC.2.1 hd hv (kk H locs cells slots ls hH hS hc hs hl)
theorem y_objInit {a idx : Nat} (hC : Cok g b ow cc nL dep ret) (hd : decode cc pc = .ok (.invokespecial idx, 3)) (hn : pc + 3 = pc') (hw : Cond.methodLink ow idx Lib.objectInit ∈ gtb ∧ Cond.instanceMethod Lib.objectInit ∈ gtb ∧ Cond.code Lib.objectInit ⟨#[0xb1]⟩ 1 none ∈ gtb) (hdep : 1 ≤ dep) (hrest : (st.map fun v => v.category).sum ≤ 8) (kk : Y g b nL Z pc' lv st n M kc ks) : Y g b nL Z pc lv (.ref a :: st) n M kc ks := by
  subst hn
  intro H locs cells slots ls hH hS hc hs hl
  have k := kk H locs cells slots ls hH hS hc hs hl
  obtain ⟨hx, hb, hml, hown, hts, -, hK, hfr, hlo, -⟩ := hC
  refine W.objInit hx hb hown (hts _ hw.1) (hts _ hw.2.1) (hts _ hw.2.2) rfl (by rw [hml]; exact hl.1) rfl hd (Nat.le_trans hdep hfr) ?_ k
  have h1 : (F0 g.2.2.2.2.2.1 pc ls (.ref a :: st)).monitorRoom = 0 := rfl
  rw [h1]
  show _ ≤ (gR g).locals
  omega
theorem y_getR {k m j idx t : Nat} (hC : Cok g b ow cc nL dep ret) (hd : decode cc pc = .ok (.getfield idx, 3)) (hn : pc + 3 = pc') (hf : FLk ow idx m j) (hk : kndA k = m + 4) (hkn : k < n) (hv : fvN b m j (M k j) = .ref (b.1 + t)) (kk : Y g b nL Z pc' lv (.ref (b.1 + t) :: st) n M kc ks) : Y g b nL Z pc lv (.ref (b.1 + k) :: st) n M kc ks := by
  subst hn
  intro H locs cells slots ls hH hS hc hs hl
  have kx := kk H locs cells slots ls hH hS hc hs hl
  obtain ⟨C, T, N, ty, ⟨c1, c2, c3, c4, c5⟩, hj, hlk⟩ := hf
  obtain ⟨hx, hb, -, hown, hts, -, hK, -⟩ := hC
  refine va_get (D := b.2.1) (ci := m) (v := .ref (b.1 + t)) hx hb hts c2 hown hK.1 hH.2 k (by rw [wsN_get b _ hkn, celN_obj hk]) c1 j hj (hts _ hlk) (fun _ h => h) ?_ hd kx
  rw [rmap_get (by rw [c5]; exact hj), hv]
theorem WN_set {p : Program} {l : Launch} {e : Env} {R : Room} {s : State} {mt : MethodId} {args : Array Value} {below : List Frame} {meth : Method} {c : Code} {M' : Mm} {k : Nat} {H H1 : Heap} {locs : List Loc} {cells slots : Nat} {jf : JFrame} {x : va_E} (hk : k < n) (ho : ∀ k', k' ≠ k → celN b M' k' = celN b M k') (hsz : H.size = b.1 + n) (hz : H.size = s.heap.size + cells) (he : celN b M' k = x) (hP : va_P b.2.1 vwCl ((wsN b n M).set k (b.1 + k, x)) H1)
    (kk : HcN b n M' H1 → H1.size = s.heap.size + cells → W p l e R s mt args below meth c H1 locs cells slots Z jf) : W p l e R s mt args below meth c H1 locs cells slots Z jf := by
  subst he
  rw [wsN_set b hk ho] at hP
  intro T hT X0
  have h1 := HcN_low (by omega) hP
  have h2 := X0.heapSize
  rw [hT] at h2
  have h3 : H1.size = s.heap.size + cells := by omega
  exact kk ⟨by omega, hP⟩ h3 T hT X0
theorem celN_put {k m j : Nat} {v : Int} {w : Value} (hk : kndA k = m + 4) (hj : j < nfl m) (hw : fvN b m j v = w) : celN b (upd2 M k j v) k = .inr (m, ((List.range (nfl m)).map (fun i => fvN b m i (M k i))).set j w) := by
  rw [celN_obj hk, ← hw]
  have e := rmap_set (N := nfl m) (j := j) (f := fun i => fvN b m i (M k i)) (f' := fun i => fvN b m i (upd2 M k j v k i)) hj (fun i hi => by
    show fvN b m i (upd2 M k j v k i) = fvN b m i (M k i)
    rw [u2_row]; unfold upr; rw [if_neg hi])
  rw [u2_same] at e
  rw [← e]
theorem y_putF {k m j idx : Nat} {v : Int} {w : Value} {t : FieldType} (hC : Cok g b ow cc nL dep ret) (hin : (gT g).name = "<init>") (hd : decode cc pc = .ok (.putfield idx, 3)) (hn : pc + 3 = pc') (hf : FQk ow idx m j t) (hk : kndA k = m + 4) (hkn : k < n) (hw : fvN b m j v = w) (hnr : narrow t w = w) (hft : fits t w = true) (kk : Y g b nL Z pc' lv st n (upd2 M k j v) kc ks) : Y g b nL Z pc lv (w :: .ref (b.1 + k) :: st) n M kc ks := by
  subst hn
  intro H locs cells slots ls hH hS hc hs hl
  obtain ⟨C, T, N, ty, ⟨c1, c2, c3, c4, c5⟩, hj, hlk, ht, hfin, hdc⟩ := hf
  obtain ⟨hx, hb, -, hown, hts, -, hK, -⟩ := hC
  refine va_putF (D := b.2.1) (ci := m) (ty := t) hx hb hts c2 ty c3 c4 hown hK.1 hH.2 (wsN_D b _ _) hS k (by rw [wsN_get b _ hkn, celN_obj hk]) c1 j hj (hts _ hlk) (fun _ h => h) hfin hin hdc (by rw [c3 j hj, ht]) hnr hft (by rw [List.length_map, List.length_range, c5]; exact hj) hd (fun H1 locs1 hP1 _ hS1 => ?_)
  exact WN_set hkn (fun k' hk' => celN_ne (u2_ne _ _ _ hk')) hH.1 hc.1 (celN_put hk (by rw [c5]; exact hj) hw) hP1 (fun hH1 hz1 => kk H1 locs1 cells slots ls hH1 hS1 ⟨hz1, hc.2⟩ hs hl)
theorem y_put {k m j idx : Nat} {v : Int} {w : Value} {t : FieldType} (hC : Cok g b ow cc nL dep ret) (hd : decode cc pc = .ok (.putfield idx, 3)) (hn : pc + 3 = pc') (hf : FPk ow idx m j t) (hk : kndA k = m + 4) (hkn : k < n) (hw : fvN b m j v = w) (hnr : narrow t w = w) (hft : fits t w = true) (kk : Y g b nL Z pc' lv st n (upd2 M k j v) kc ks) : Y g b nL Z pc lv (w :: .ref (b.1 + k) :: st) n M kc ks := by
  subst hn
  intro H locs cells slots ls hH hS hc hs hl
  obtain ⟨C, T, N, ty, ⟨c1, c2, c3, c4, c5⟩, hj, hlk, ht, hfin⟩ := hf
  obtain ⟨hx, hb, -, hown, hts, -, hK, -⟩ := hC
  refine va_put (D := b.2.1) (ci := m) (ty := t) hx hb hts c2 ty c3 c4 hown hK.1 hH.2 (wsN_D b _ _) hS k (by rw [wsN_get b _ hkn, celN_obj hk]) c1 j hj (hts _ hlk) (fun _ h => h) hfin (by rw [c3 j hj, ht]) hnr hft (by rw [List.length_map, List.length_range, c5]; exact hj) hd (fun H1 locs1 hP1 _ hS1 => ?_)
  exact WN_set hkn (fun k' hk' => celN_ne (u2_ne _ _ _ hk')) hH.1 hc.1 (celN_put hk (by rw [c5]; exact hj) hw) hP1 (fun hH1 hz1 => kk H1 locs1 cells slots ls hH1 hS1 ⟨hz1, hc.2⟩ hs hl)
theorem y_push {p : Program} {l : Launch} {e : Env} {R : Room} {s : State} {mt : MethodId} {args : Array Value} {below : List Frame} {meth : Method} {c : Code} {r : Nat → Int} {H H1 : Heap} (hH : HcN b n M H) (hz : H1.size = H.size + 1) (ho : ∀ q, q < H.size → H1[q]? = H[q]?) (hnew : va_at b.2.1 vwCl (b.1 + n, celN b (rowW M n r) n) H1) : HcN b (n + 1) (rowW M n r) H1 := by
  refine ⟨by rw [hz, hH.1]; omega, ?_⟩
  rw [wsN_push]
  refine va_P.app (hH.2.kept (fun k' z hz => ho _ ((hH.2 k' z hz).lt))) (fun k' z hz => ?_)
  have hz1 : k' < 1 := (List.getElem?_eq_some_iff.mp hz).1
  rw [show k' = 0 by omega] at hz
  cases hz
  exact hnew
theorem y_new {m idx N : Nat} {C : String} {T : u_T} {ty : Nat → FieldType} (hC : Cok g b ow cc nL dep ret) (hd : decode cc pc = .ok (.new idx, 3)) (hn : pc + 3 = pc') (hcl : Cls m C T N ty) (hk : kndA n = m + 4) (hw : Cond.classLink ow idx C ∈ gtb ∧ Cond.instantiable C N ∈ gtb ∧ Cond.initialized C ∈ gtb) (hdf : ∀ j, j < N → defaultValue (ty j) = fvN b m j (dflO m j)) (kk : Y g b nL Z pc' lv (.ref (b.1 + n) :: st) (n + 1) (rowW M n (dflO m)) kc ks) : Y g b nL Z pc lv st n M (kc + 1) (ks + N) := by
  subst hn
  intro H locs cells slots ls hH hS hc hs hl
  obtain ⟨c1, c2, c3, c4, c5⟩ := hcl
  obtain ⟨hx, hb, -, hown, hts, -, hK, -⟩ := hC
  have hKn := hK.1.1 m _ c1
  refine W.newcK hx hb hown (hts _ hw.1) (hts _ hw.2.1) (hts _ hw.2.2) rfl hd (by show cells + 1 ≤ (gR g).cells; have := hc.2; omega) (by show slots + N ≤ (gR g).slots; omega) hKn.2.1 rfl fun H1 kC hkC e1 z1 o1 => ?_
  have e0 : rowW M n (dflO m) n = dflO m := by unfold rowW; rw [if_pos rfl]
  have hnew : va_at b.2.1 vwCl (b.1 + n, celN b (rowW M n (dflO m)) n) H1 := by
    rw [celN_obj hk, e0]
    refine ⟨_, c1, ?_⟩
    rw [hH.1] at e1
    refine (u_born ty hts c2 hKn hkC e1 c3).to (fun j hj => ?_)
    show defaultValue (ty j) = vp_V _ j
    rw [hdf j hj]
    unfold vp_V
    rw [List.getD_eq_getElem?_getD, rmap_get (by rw [c5]; exact hj)]
    rfl
  have k2 := kk H1 locs (cells + 1) (slots + N) ls (y_push (p := g.1) (l := g.2.1) (e := g.2.2.1) (R := g.2.2.2.1) (s := gS g) (mt := g.2.2.2.2.2.1) (args := gA g) (below := g.2.2.2.2.2.2.2.1) (meth := gT g) (c := g.2.2.2.2.2.2.2.2.2) hH z1 o1 hnew) ⟨Nat.le_trans hS.1 (by omega), fun a h1 h2 => by rw [o1 a (Nat.lt_of_lt_of_le h1 hS.1)]; exact hS.2.1 a h1 h2, hS.2.2⟩ ⟨by rw [z1, hc.1]; omega, by have := hc.2; omega⟩ (by omega) hl
  rw [hH.1]
  exact k2
theorem y_newa {atype : ArrayType} {L : Nat} {x : Int} (hC : Cok g b ow cc nL dep ret) (hd : decode cc pc = .ok (.newarray atype, 2)) (hn : pc + 2 = pc') (hw : Cond.arrayClass (newarray.typeOf atype) ∈ gtb) (hx : x = (L : Int)) (hL : L ≤ 100000) (hcb : componentBytes (newarray.typeOf atype) ≤ 8) (hnew : ∀ cA : ClassId, (gS g).vm.findClass ("[" ++ (newarray.typeOf atype).toString) = some cA → ∀ H1 : Heap, H1[b.1 + n]? = some (arrV cA L (fun _ => defaultValue (newarray.typeOf atype))) → va_at b.2.1 vwCl (b.1 + n, celN b (rowW M n (fun _ => 0)) n) H1) (kk : Y g b nL Z pc' lv (.ref (b.1 + n) :: st) (n + 1) (rowW M n (fun _ => 0)) kc ks) : Y g b nL Z pc lv (iV x :: st) n M (kc + 1) (ks + L) := by
  subst hn
  subst hx
  intro H locs cells slots ls hH hS hc hs hl
  obtain ⟨hx, hb, -, hown, hts, -, hK, -⟩ := hC
  have hLr : inR (L : Int) := ⟨by omega, by omega⟩
  refine va_newaK (N := L) (h := H.size) hx hb (atype := atype) (hts _ hw) rfl hd rfl ?_ (by rw [clamp hLr]; omega) (Nat.le_trans (Nat.mul_le_mul hL hcb) (by decide)) (by show cells + 1 ≤ (gR g).cells; have := hc.2; omega) (by show slots + L ≤ (gR g).slots; omega) rfl (fun H1 cA a1 a2 a3 a4 a5 => ?_)
  · intro hlt
    rw [o_z, o_lt hLr ⟨by decide, by decide⟩] at hlt
    omega
  · rw [hH.1] at a1
    have k2 := kk H1 locs (cells + 1) (slots + L) ls (y_push (p := g.1) (l := g.2.1) (e := g.2.2.1) (R := g.2.2.2.1) (s := gS g) (mt := g.2.2.2.2.2.1) (args := gA g) (below := g.2.2.2.2.2.2.2.1) (meth := gT g) (c := g.2.2.2.2.2.2.2.2.2) hH a2 a3 (hnew cA a5 H1 a1)) ⟨Nat.le_trans hS.1 (by omega), fun a h1 h2 => by rw [a3 a (Nat.lt_of_lt_of_le h1 hS.1)]; exact hS.2.1 a h1 h2, hS.2.2⟩ ⟨by rw [a2, hc.1]; omega, by have := hc.2; omega⟩ (by omega) hl
    rw [hH.1]
    exact k2
theorem cA_of {k : Nat} {cA c0 : ClassId} {t : FieldType} (hC : Cok g b ow cc nL dep ret) (ht : (tysB b)[k]? = some (c0, t)) (hp : va_RA (gS g) c0 t = ((gS g).vm.findClass ("[" ++ t.toString) = some c0)) (h : (gS g).vm.findClass ("[" ++ t.toString) = some cA) : cA = c0 := by
  have h2 := (hC.2.2.2.2.2.2.1.1.2 k (c0, t) ht).2
  rw [hp] at h2
  rw [h2] at h
  exact (Option.some.inj h).symm
theorem y_newI {L : Nat} {x : Int} (hC : Cok g b ow cc nL dep ret) (hd : decode cc pc = .ok (.newarray .int, 2)) (hn : pc + 2 = pc') (hw : Cond.arrayClass .int ∈ gtb) (hx : x = (L : Int)) (hL : L ≤ 100000) (hk : cknd n = (0, L)) (hn9 : n < 95) (kk : Y g b nL Z pc' lv (.ref (b.1 + n) :: st) (n + 1) (rowW M n (fun _ => 0)) kc ks) : Y g b nL Z pc lv (iV x :: st) n M (kc + 1) (ks + L) := by
  refine y_newa hC hd hn hw hx hL (by decide) (fun cA hcA H1 h1 => ?_) kk
  cases cA_of (k := 0) (t := .int) hC rfl rfl hcA
  have e : kndA n = 0 := by unfold kndA; rw [if_pos hn9, hk]
  unfold celN
  rw [e, hk]
  show H1[b.1 + n]? = some (vp_cell _ _)
  rw [h1, vp_cell_i]
  unfold rowW
  rw [if_pos rfl]
  rfl
theorem y_newB {L : Nat} {x : Int} (hC : Cok g b ow cc nL dep ret) (hd : decode cc pc = .ok (.newarray .byte, 2)) (hn : pc + 2 = pc') (hw : Cond.arrayClass .byte ∈ gtb) (hx : x = (L : Int)) (hL : L ≤ 100000) (hk : cknd n = (1, L)) (hn9 : n < 95) (kk : Y g b nL Z pc' lv (.ref (b.1 + n) :: st) (n + 1) (rowW M n (fun _ => 0)) kc ks) : Y g b nL Z pc lv (iV x :: st) n M (kc + 1) (ks + L) := by
  refine y_newa hC hd hn hw hx hL (by decide) (fun cA hcA H1 h1 => ?_) kk
  cases cA_of (k := 1) (t := .byte) hC rfl rfl hcA
  have e : kndA n = 1 := by unfold kndA; rw [if_pos hn9, hk]
  unfold celN
  rw [e, hk]
  show H1[b.1 + n]? = some (vp_cell _ _)
  rw [h1, vp_cell_i]
  unfold rowW
  rw [if_pos rfl]
  rfl
theorem y_newZ {L : Nat} {x : Int} (hC : Cok g b ow cc nL dep ret) (hd : decode cc pc = .ok (.newarray .boolean, 2)) (hn : pc + 2 = pc') (hw : Cond.arrayClass .boolean ∈ gtb) (hx : x = (L : Int)) (hL : L ≤ 100000) (hk : cknd n = (3, L)) (hn9 : n < 95) (kk : Y g b nL Z pc' lv (.ref (b.1 + n) :: st) (n + 1) (rowW M n (fun _ => 0)) kc ks) : Y g b nL Z pc lv (iV x :: st) n M (kc + 1) (ks + L) := by
  refine y_newa hC hd hn hw hx hL (by decide) (fun cA hcA H1 h1 => ?_) kk
  cases cA_of (k := 3) (t := .boolean) hC rfl rfl hcA
  have e : kndA n = 3 := by unfold kndA; rw [if_pos hn9, hk]
  unfold celN
  rw [e, hk]
  show H1[b.1 + n]? = some (vp_cell _ _)
  rw [h1, vp_cell_i]
  unfold rowW
  rw [if_pos rfl]
  rfl
theorem y_newL {L : Nat} {x : Int} (hC : Cok g b ow cc nL dep ret) (hd : decode cc pc = .ok (.newarray .long, 2)) (hn : pc + 2 = pc') (hw : Cond.arrayClass .long ∈ gtb) (hx : x = (L : Int)) (hL : L ≤ 100000) (hk : cknd n = (2, L)) (hn9 : n < 95) (kk : Y g b nL Z pc' lv (.ref (b.1 + n) :: st) (n + 1) (rowW M n (fun _ => 0)) kc ks) : Y g b nL Z pc lv (iV x :: st) n M (kc + 1) (ks + L) := by
  refine y_newa hC hd hn hw hx hL (by decide) (fun cA hcA H1 h1 => ?_) kk
  cases cA_of (k := 2) (t := .long) hC rfl rfl hcA
  have e : kndA n = 2 := by unfold kndA; rw [if_pos hn9, hk]
  unfold celN
  rw [e, hk]
  show H1[b.1 + n]? = some (vp_cell _ _)
  rw [h1, vp_cell_l]
  unfold rowW
  rw [if_pos rfl]
  rfl
theorem WdN_blind (av : List Value) : FrameBlind (va_Pc av (WdN b n M)) := by
  intro a U g mk h
  obtain ⟨h1, h2, h3⟩ := h
  exact ⟨h1, h2, h3.mv (U := U.calling g mk a) (nst_same rfl) (vk_R.same rfl) (Vm.Alike.refl U.vm) (Nat.le_refl _) (fun _ _ _ => rfl)⟩
theorem y_init {y : MethodName} {cc' : ByteArray} {nL' dep' mc ms idx k n' : Nat} {M' : Mm} {As rest st0 : List Value} {na : Nat} (hC : Cok g b ow cc nL dep ret) (hd : decode cc pc = .ok (.invokespecial idx, 3)) (hn : pc + 3 = pc')
    (hM : CnI y cc' nL' dep' mc ms b n M (.ref (b.1 + k) :: As) n' M') (hL : (MLk ow idx y cc' nL' none na ∨ NLk ow idx y cc' nL' none na) ∧ y.name = "<init>" ∧ Cond.instanceMethod y ∈ gtb) (hAn : As.length = na) (hst : st0 = As.reverse ++ .ref (b.1 + k) :: rest) (hrest : (rest.map fun v => v.category).sum ≤ 8)
    (hdep : dep' + 1 ≤ dep) (hnl : nL' ≤ 41) (kk : Y g b nL Z pc' lv rest n' M' kc ks) : Y g b nL Z pc lv st0 n M (kc + mc) (ks + ms) := by
  subst hn
  intro H locs cells slots ls hH hS hc hs hl
  obtain ⟨hx, hb, hml, hown, hts, hlk, hK, hfr, hlo, hret⟩ := hC
  obtain ⟨hL, hin1, hin2⟩ := hL
  have hpre : PreS (gS g) H (va_Pc (.ref (b.1 + k) :: As) (WdN b n M)) (.ref (b.1 + k) :: As) := ⟨WdN_blind _, fun U hU hW => ⟨rfl, by rw [hU]; exact hH, hK.warm hW (by rw [hU]; exact hS.1) (fun a h1 h2 => by rw [hU]; exact hS.2.1 a h1 h2)⟩⟩
  have hR1 : (rmM dep' mc ms).frames + 1 ≤ (gR g).frames := Nat.le_trans hdep hfr
  have hR2 : 8 + (nL' + 11) + (rmM dep' mc ms).locals ≤ (gR g).locals := by show 8 + (nL' + 11) + 60 * dep' ≤ (gR g).locals; omega
  have hrun : va_Run g.1 g.2.1 g.2.2.1 g.2.2.2.1 g.2.2.2.2.1 g.2.2.2.2.2.1 g.2.2.2.2.2.2.1 g.2.2.2.2.2.2.2.1 g.2.2.2.2.2.2.2.2.1 g.2.2.2.2.2.2.2.2.2 H locs cells slots mc ms (F0 g.2.2.2.2.2.1 pc ls st0) rest (QcN b n' M' mc (Value.ref (b.1 + k) :: As).toArray) (fun a => b.1 ≤ a) := by
    rcases hL with ⟨l1, l2, l3, l4, l5⟩ | ⟨l1, l2, l3, l4, l5⟩
    · exact va_runI (Ts := gtb) ⟨hx, hb, hml, hown, hts⟩ (hM g.2.1) ⟨callB_of na hts (gtb_in l3) rfl rfl rfl (hts _ l2) (hts _ l1) ⟨l4.1, l4.2, l5⟩ ⟨hR1, hR2⟩, hin1, hts _ hin2⟩ hpre rfl hAn hl.1 hst (lv_room hrest) hd ⟨by show cells + mc ≤ (gR g).cells; have := hc.2; omega, by show slots + ms ≤ (gR g).slots; omega⟩
    · exact va_runIN (Ts := gtb) ⟨hx, hb, hml, hown, hts⟩ (hM g.2.1) ⟨va_cnB na hts (gtb_in l3) rfl rfl rfl (hK.2.2.2.2.1 _ l1) (hts _ l2) ⟨l4.1, l4.2, l5⟩ ⟨hR1, hR2⟩, hin1, hts _ hin2⟩ hpre rfl hAn hl.1 hst (lv_room hrest) hd ⟨by show cells + mc ≤ (gR g).cells; have := hc.2; omega, by show slots + ms ≤ (gR g).slots; omega⟩
  intro T hT X0
  obtain ⟨v, st₀, t, T', L, h0, X', hL, e1, e2, ⟨⟨⟨hv, hWd⟩, hgr⟩, hz, hkp⟩, stp⟩ := hrun T hT X0
  cases hv
  rw [h0] at hz hkp hgr
  obtain ⟨t2, a1, b1⟩ := kk T'.heap (locs ++ L) (cells + mc) (slots + ms) ls (by rw [e1]; exact hWd.1)
    ⟨Nat.le_trans hS.1 (by rw [e1]; exact hz), fun q h1 h2 => by rw [e1, hkp q (Nat.lt_of_lt_of_le h1 hS.1) h2]; exact hS.2.1 q h1 h2, fun q hq => by
      rcases List.mem_append.mp hq with h | h
      · exact hS.2.2 q h
      · exact hL q h⟩ ⟨by rw [e1, hgr, hc.1]; omega, by have := hc.2; omega⟩ (by omega) hl T' rfl X'
  exact ⟨t2, stp t2 a1, b1⟩
theorem y_return (hC : Cok g b ow cc nL dep none) (hd : decode cc pc = .ok (.return_, 1)) : Y g b nL (ZN g b n M) pc lv [] n M 0 ks := by
  intro H locs cells slots ls hH hS hc hs hl
  have hgr : H.size = (gS g).heap.size + (gR g).cells := by have := hc.1; have := hc.2; omega
  refine W.widen (k := (gR g).cells) (n := (gR g).slots) (by have := hc.2; omega) (by omega) ?_
  exact W.vret hC.1 hC.2.1 hC.2.2.2.2.2.2.2.2.2 (fun t ht hW => ⟨⟨⟨rfl, by rw [ht]; exact hH, hC.2.2.2.2.2.2.1.warm hW (by rw [ht]; exact hS.1) (fun a h1 h2 => by rw [ht]; exact hS.2.1 a h1 h2)⟩, by rw [ht]; exact hgr⟩, hS.F ht⟩) hS.2.2 hd hC.2.2.2.2.2.1
theorem CnI_of {y : MethodName} {av : List Value} {n' : Nat} {M' : Mm} (hy : plainName y.cls = true) (hname : y.name = "<init>") (hfit : (lg_sl av).length ≤ nL)
    (h : ∀ g : Gx, Cok g b y.cls cc nL dep none → (gT g).name = "<init>" → Y g b nL (ZN g b n' M') 0 (lv_args 0 av) [] n M kc ks) : CnI y cc nL dep kc ks b n M av n' M' := by
  intro l
  refine Met.ofW (cc := cc) (maxL := nL) (ret := none) hy rfl ?_
  intro p e s mm args below meth c s₁ B hml hv
  obtain ⟨rfl, hH, hK⟩ := hv
  have hts := atoms_spec (ws := .code y cc nL none :: gtb) B.pre
  have hl := lv_entry av (n := nL) hfit
  rw [lg_entry_eq]
  exact h (p, l, e, rmM dep kc ks, s, mm, av.toArray, below, meth, c) ⟨B.exec, B.bytes, hml, findClass_of_methodNamed B.named, fun w hw => hts w (List.mem_cons_of_mem _ hw), B.notSynchronized, hK, Nat.le_refl _, Nat.le_refl _, B.returns⟩ (((name_of_methodNamed B.named B.method).1).trans hname) s.heap [] 0 0 _ hH va_S.rf ⟨by show s.heap.size = s.heap.size + 0; omega, by show 0 + kc = kc; omega⟩ (by show 0 + ks ≤ ks; omega) hl
end YR

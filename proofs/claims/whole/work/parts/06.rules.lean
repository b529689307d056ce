/-! a row an instruction, over X -/
section XR
variable {g : Gx} {b : Bs} {q : Sd} {nL dep : Nat} {Z : State → Prop} {ow : String} {cc : ByteArray} {ret : Option FieldType} {pc n : Nat} {lv : List (Nat × Value)} {st : List Value} {m : Mm} {kc ks : Nat} {Q : Int → Mm → Prop}
theorem x_sub (is : List Nat) {lv' : List (Nat × Value)} (h : is.filterMap (fun i => lv[i]?) = lv') (kk : X g b q nL Z pc lv' st m kc ks) : X g b q nL Z pc lv st m kc ks :=
  fun H locs cells slots ls hH hS hc hs hl => kk H locs cells slots ls hH hS hc hs (lv_sub hl is h)
theorem x_goto {tgt : Nat} {off : Int} (hC : Cok g b ow cc nL dep ret) (hd : decode cc pc = .ok (.goto off, 3)) (ht : (pc : Int) + off = (tgt : Int)) (kk : X g b q nL Z tgt lv st m kc ks) : X g b q nL Z pc lv st m kc ks :=
  fun H locs cells slots ls hH hS hc hs hl => lv_goto hC.1 hC.2.1 hd ht (kk H locs cells slots ls hH hS hc hs hl)
theorem x_iload_n {f : Fin 4} {x : Int} (hC : Cok g b ow cc nL dep ret) (hd : decode cc pc = .ok (.iload_n f, 1)) (hn : pc + 1 = n) (p : Nat) (hp : lv[p]? = some ((f : Nat), iV x)) (kk : X g b q nL Z n lv (iV x :: st) m kc ks) : X g b q nL Z pc lv (st) m kc ks := by
  subst hn
  intro H locs cells slots ls hH hS hc hs hl
  have k := kk H locs cells slots ls hH hS hc hs hl
  exact lv_iload_n hC.1 hC.2.1 hd rfl (lv_at hl p hp) k
theorem x_iload {i : Nat} {x : Int} (hC : Cok g b ow cc nL dep ret) (hd : decode cc pc = .ok (.iload i, 2)) (hn : pc + 2 = n) (p : Nat) (hp : lv[p]? = some (i, iV x)) (kk : X g b q nL Z n lv (iV x :: st) m kc ks) : X g b q nL Z pc lv (st) m kc ks := by
  subst hn
  intro H locs cells slots ls hH hS hc hs hl
  have k := kk H locs cells slots ls hH hS hc hs hl
  exact lv_iload hC.1 hC.2.1 hd (lv_at hl p hp) k
theorem x_lload_n {f : Fin 4} {x : Int} (hC : Cok g b ow cc nL dep ret) (hd : decode cc pc = .ok (.lload_n f, 1)) (hn : pc + 1 = n) (p : Nat) (hp : lv[p]? = some ((f : Nat), lV x)) (kk : X g b q nL Z n lv (lV x :: st) m kc ks) : X g b q nL Z pc lv (st) m kc ks := by
  subst hn
  intro H locs cells slots ls hH hS hc hs hl
  have k := kk H locs cells slots ls hH hS hc hs hl
  exact lv_lload_n hC.1 hC.2.1 hd rfl (lv_at hl p hp) k
theorem x_lload {i : Nat} {x : Int} (hC : Cok g b ow cc nL dep ret) (hd : decode cc pc = .ok (.lload i, 2)) (hn : pc + 2 = n) (p : Nat) (hp : lv[p]? = some (i, lV x)) (kk : X g b q nL Z n lv (lV x :: st) m kc ks) : X g b q nL Z pc lv (st) m kc ks := by
  subst hn
  intro H locs cells slots ls hH hS hc hs hl
  have k := kk H locs cells slots ls hH hS hc hs hl
  exact lv_lload hC.1 hC.2.1 hd (lv_at hl p hp) k
theorem x_aload_n {f : Fin 4} {x : Nat} (hC : Cok g b ow cc nL dep ret) (hd : decode cc pc = .ok (.aload_n f, 1)) (hn : pc + 1 = n) (p : Nat) (hp : lv[p]? = some ((f : Nat), .ref x)) (kk : X g b q nL Z n lv (.ref x :: st) m kc ks) : X g b q nL Z pc lv (st) m kc ks := by
  subst hn
  intro H locs cells slots ls hH hS hc hs hl
  have k := kk H locs cells slots ls hH hS hc hs hl
  exact lv_aload_n hC.1 hC.2.1 hd rfl (lv_at hl p hp) k
theorem x_aload {i : Nat} {x : Nat} (hC : Cok g b ow cc nL dep ret) (hd : decode cc pc = .ok (.aload i, 2)) (hn : pc + 2 = n) (p : Nat) (hp : lv[p]? = some (i, .ref x)) (kk : X g b q nL Z n lv (.ref x :: st) m kc ks) : X g b q nL Z pc lv (st) m kc ks := by
  subst hn
  intro H locs cells slots ls hH hS hc hs hl
  have k := kk H locs cells slots ls hH hS hc hs hl
  exact lv_aload hC.1 hC.2.1 hd (lv_at hl p hp) k
theorem x_istore_n {f : Fin 4} {i : Nat} {v : Int} {K : Int → Rs} {lv' : List (Nat × Value)} (hC : Cok g b ow cc nL dep ret) (hd : decode cc pc = .ok (.istore_n f, 1)) (hn : pc + 1 = n) (hi : (f : Nat) = i) (hi2 : i < nL) (hlv : lv.filter (fun q => !(q.1 == i) && !(q.1 + 1 == i && q.2.category == 2)) = lv') (hv : inR v) (hF : okR (nmv v K) Q) (kk : ∀ x, inR x → okR (K x) Q → X g b q nL Z n ((i, iV x) :: lv') st m kc ks) : X g b q nL Z pc lv (iV v :: st) m kc ks := by
  subst hn
  intro H locs cells slots ls hH hS hc hs hl
  exact lv_istore_n (lv' := (i, iV v) :: lv') hC.1 hC.2.1 hd hi hl hi2 (congrArg _ hlv) (fun ls' hl' => kk v hv hF H locs cells slots ls' hH hS hc hs hl')
theorem x_istore {i : Nat} {v : Int} {K : Int → Rs} {lv' : List (Nat × Value)} (hC : Cok g b ow cc nL dep ret) (hd : decode cc pc = .ok (.istore i, 2)) (hn : pc + 2 = n) (hi2 : i < nL) (hlv : lv.filter (fun q => !(q.1 == i) && !(q.1 + 1 == i && q.2.category == 2)) = lv') (hv : inR v) (hF : okR (nmv v K) Q) (kk : ∀ x, inR x → okR (K x) Q → X g b q nL Z n ((i, iV x) :: lv') st m kc ks) : X g b q nL Z pc lv (iV v :: st) m kc ks := by
  subst hn
  intro H locs cells slots ls hH hS hc hs hl
  exact lv_istore (lv' := (i, iV v) :: lv') hC.1 hC.2.1 hd hl hi2 (congrArg _ hlv) (fun ls' hl' => kk v hv hF H locs cells slots ls' hH hS hc hs hl')
theorem x_lstore_n {f : Fin 4} {i : Nat} {v : Int} {K : Int → Rs} {lv' : List (Nat × Value)} (hC : Cok g b ow cc nL dep ret) (hd : decode cc pc = .ok (.lstore_n f, 1)) (hn : pc + 1 = n) (hi : (f : Nat) = i) (hi2 : i + 1 < nL) (hlv : lv.filter (fun q => !(q.1 == i) && (!(q.1 == i + 1) && !(q.1 + 1 == i && q.2.category == 2))) = lv') (hv : inL v) (hF : okR (nmv v K) Q) (kk : ∀ x, inL x → okR (K x) Q → X g b q nL Z n ((i, lV x) :: lv') st m kc ks) : X g b q nL Z pc lv (lV v :: st) m kc ks := by
  subst hn
  intro H locs cells slots ls hH hS hc hs hl
  exact lv_lstore_n (lv' := (i, lV v) :: lv') hC.1 hC.2.1 hd hi hl hi2 (congrArg _ hlv) (fun ls' hl' => kk v hv hF H locs cells slots ls' hH hS hc hs hl')
theorem x_lstore {i : Nat} {v : Int} {K : Int → Rs} {lv' : List (Nat × Value)} (hC : Cok g b ow cc nL dep ret) (hd : decode cc pc = .ok (.lstore i, 2)) (hn : pc + 2 = n) (hi2 : i + 1 < nL) (hlv : lv.filter (fun q => !(q.1 == i) && (!(q.1 == i + 1) && !(q.1 + 1 == i && q.2.category == 2))) = lv') (hv : inL v) (hF : okR (nmv v K) Q) (kk : ∀ x, inL x → okR (K x) Q → X g b q nL Z n ((i, lV x) :: lv') st m kc ks) : X g b q nL Z pc lv (lV v :: st) m kc ks := by
  subst hn
  intro H locs cells slots ls hH hS hc hs hl
  exact lv_lstore (lv' := (i, lV v) :: lv') hC.1 hC.2.1 hd hl hi2 (congrArg _ hlv) (fun ls' hl' => kk v hv hF H locs cells slots ls' hH hS hc hs hl')
theorem x_astore_n {f : Fin 4} {i x : Nat} {lv' : List (Nat × Value)} (hC : Cok g b ow cc nL dep ret) (hd : decode cc pc = .ok (.astore_n f, 1)) (hn : pc + 1 = n) (hi : (f : Nat) = i) (hi2 : i < nL) (hlv : lv.filter (fun q => !(q.1 == i) && !(q.1 + 1 == i && q.2.category == 2)) = lv') (kk : X g b q nL Z n ((i, .ref x) :: lv') st m kc ks) : X g b q nL Z pc lv (.ref x :: st) m kc ks := by
  subst hn
  intro H locs cells slots ls hH hS hc hs hl
  exact lv_astore_n (lv' := (i, .ref x) :: lv') hC.1 hC.2.1 hd hi hl hi2 (congrArg _ hlv) (fun ls' hl' => kk H locs cells slots ls' hH hS hc hs hl')
theorem x_astore {i x : Nat} {lv' : List (Nat × Value)} (hC : Cok g b ow cc nL dep ret) (hd : decode cc pc = .ok (.astore i, 2)) (hn : pc + 2 = n) (hi2 : i < nL) (hlv : lv.filter (fun q => !(q.1 == i) && !(q.1 + 1 == i && q.2.category == 2)) = lv') (kk : X g b q nL Z n ((i, .ref x) :: lv') st m kc ks) : X g b q nL Z pc lv (.ref x :: st) m kc ks := by
  subst hn
  intro H locs cells slots ls hH hS hc hs hl
  exact lv_astore (lv' := (i, .ref x) :: lv') hC.1 hC.2.1 hd hl hi2 (congrArg _ hlv) (fun ls' hl' => kk H locs cells slots ls' hH hS hc hs hl')
theorem x_iinc {i p : Nat} {c x : Int} {K : Int → Rs} {lv' : List (Nat × Value)} (hC : Cok g b ow cc nL dep ret) (hd : decode cc pc = .ok (.iinc i c, 3)) (hn : pc + 3 = n) (hp : lv[p]? = some (i, iV x)) (hi2 : i < nL) (hlv : lv.filter (fun q => !(q.1 == i) && !(q.1 + 1 == i && q.2.category == 2)) = lv') (hF : okR (nmv (wr (x + c)) K) Q) (kk : ∀ x, inR x → okR (K x) Q → X g b q nL Z n ((i, iV x) :: lv') st m kc ks) : X g b q nL Z pc lv st m kc ks := by
  subst hn
  intro H locs cells slots ls hH hS hc hs hl
  refine lv_iinc (v := Int32.ofInt (wr (x + c))) (k := p) (lv' := (i, iV (wr (x + c))) :: lv') hC.1 hC.2.1 hd hl hp (by rw [of_wr, Int32.ofInt_add]) hi2 (congrArg _ hlv) (fun ls' hl' => kk _ (rg_wr _) hF H locs cells slots ls' hH hS hc hs hl')
theorem x_iconst {c : Int} (hC : Cok g b ow cc nL dep ret) (hd : decode cc pc = .ok (.iconst c, 1)) (hn : pc + 1 = n) (kk : X g b q nL Z n lv (iV c :: st) m kc ks) : X g b q nL Z pc lv (st) m kc ks := by
  subst hn
  intro H locs cells slots ls hH hS hc hs hl
  have k := kk H locs cells slots ls hH hS hc hs hl
  exact lv_iconst hC.1 hC.2.1 hd rfl k
theorem x_bipush {c : Int} (hC : Cok g b ow cc nL dep ret) (hd : decode cc pc = .ok (.bipush c, 2)) (hn : pc + 2 = n) (hv : (Int8.ofInt c).toInt32 = Int32.ofInt c) (kk : X g b q nL Z n lv (iV c :: st) m kc ks) : X g b q nL Z pc lv (st) m kc ks := by
  subst hn
  intro H locs cells slots ls hH hS hc hs hl
  have k := kk H locs cells slots ls hH hS hc hs hl
  exact lv_bipush hC.1 hC.2.1 hd hv k
theorem x_sipush {c : Int} (hC : Cok g b ow cc nL dep ret) (hd : decode cc pc = .ok (.sipush c, 3)) (hn : pc + 3 = n) (hv : (Int16.ofInt c).toInt32 = Int32.ofInt c) (kk : X g b q nL Z n lv (iV c :: st) m kc ks) : X g b q nL Z pc lv (st) m kc ks := by
  subst hn
  intro H locs cells slots ls hH hS hc hs hl
  have k := kk H locs cells slots ls hH hS hc hs hl
  exact lv_sipush hC.1 hC.2.1 hd hv k
theorem x_lconst {c : Fin 2} {x : Int} (hC : Cok g b ow cc nL dep ret) (hd : decode cc pc = .ok (.lconst c, 1)) (hn : pc + 1 = n) (hv : Int64.ofNat (c : Nat) = Int64.ofInt x) (kk : X g b q nL Z n lv (lV x :: st) m kc ks) : X g b q nL Z pc lv (st) m kc ks := by
  subst hn
  intro H locs cells slots ls hH hS hc hs hl
  have k := kk H locs cells slots ls hH hS hc hs hl
  exact lv_lconst hC.1 hC.2.1 hd hv k
theorem x_ldc {idx : Nat} {x : Int} (hC : Cok g b ow cc nL dep ret) (hd : decode cc pc = .ok (.ldc idx, 2)) (hn : pc + 2 = n) (hw : Cond.constant ow idx (Int32.ofInt x) ∈ gtb) (kk : X g b q nL Z n lv (iV x :: st) m kc ks) : X g b q nL Z pc lv (st) m kc ks := by
  subst hn
  intro H locs cells slots ls hH hS hc hs hl
  have k := kk H locs cells slots ls hH hS hc hs hl
  exact lv_ldc hC.1 hC.2.1 hC.2.2.2.1 (hC.2.2.2.2.1 _ hw) hd k
theorem x_ldc_w {idx : Nat} {x : Int} (hC : Cok g b ow cc nL dep ret) (hd : decode cc pc = .ok (.ldc_w idx, 3)) (hn : pc + 3 = n) (hw : Cond.constant ow idx (Int32.ofInt x) ∈ gtb) (kk : X g b q nL Z n lv (iV x :: st) m kc ks) : X g b q nL Z pc lv (st) m kc ks := by
  subst hn
  intro H locs cells slots ls hH hS hc hs hl
  have k := kk H locs cells slots ls hH hS hc hs hl
  exact lv_ldcw hC.1 hC.2.1 hC.2.2.2.1 (hC.2.2.2.2.1 _ hw) hd k
theorem x_ldc2 {idx : Nat} {x : Int} (hC : Cok g b ow cc nL dep ret) (hd : decode cc pc = .ok (.ldc2_w idx, 3)) (hn : pc + 3 = n) (hw : Cond.constantLong ow idx (Int64.ofInt x) ∈ gtb) (kk : X g b q nL Z n lv (lV x :: st) m kc ks) : X g b q nL Z pc lv (st) m kc ks := by
  subst hn
  intro H locs cells slots ls hH hS hc hs hl
  have k := kk H locs cells slots ls hH hS hc hs hl
  exact lv_ldc2 hC.1 hC.2.1 hC.2.2.2.1 (hC.2.2.2.2.1 _ hw) hd k
theorem x_dup {v : Value} (hC : Cok g b ow cc nL dep ret) (hd : decode cc pc = .ok (.dup, 1)) (hn : pc + 1 = n) (hv : v.category = 1) (kk : X g b q nL Z n lv (v :: v :: st) m kc ks) : X g b q nL Z pc lv (v :: st) m kc ks := by
  subst hn
  intro H locs cells slots ls hH hS hc hs hl
  have k := kk H locs cells slots ls hH hS hc hs hl
  exact lv_dup hC.1 hC.2.1 hd hv k
theorem x_pop {v : Value} (hC : Cok g b ow cc nL dep ret) (hd : decode cc pc = .ok (.pop, 1)) (hn : pc + 1 = n) (hv : v.category = 1) (kk : X g b q nL Z n lv (st) m kc ks) : X g b q nL Z pc lv (v :: st) m kc ks := by
  subst hn
  intro H locs cells slots ls hH hS hc hs hl
  have k := kk H locs cells slots ls hH hS hc hs hl
  exact lv_pop hC.1 hC.2.1 hd hv k
theorem x_dup2 {v w : Value} (hC : Cok g b ow cc nL dep ret) (hd : decode cc pc = .ok (.dup2, 1)) (hn : pc + 1 = n) (hv : v.category = 1) (hw : w.category = 1) (kk : X g b q nL Z n lv (v :: w :: v :: w :: st) m kc ks) : X g b q nL Z pc lv (v :: w :: st) m kc ks := by
  subst hn
  intro H locs cells slots ls hH hS hc hs hl
  have k := kk H locs cells slots ls hH hS hc hs hl
  exact lv_dup2_11 hC.1 hC.2.1 hd hv hw k
theorem x_iadd {x y : Int} (hC : Cok g b ow cc nL dep ret) (hd : decode cc pc = .ok (.iadd, 1)) (hn : pc + 1 = n) (kk : X g b q nL Z n lv (iV (wr (x + y)) :: st) m kc ks) : X g b q nL Z pc lv (iV y :: iV x :: st) m kc ks := by
  subst hn
  intro H locs cells slots ls hH hS hc hs hl
  have k := kk H locs cells slots ls hH hS hc hs hl
  unfold iV at k ⊢
  rw [← o_add] at k
  exact lv_iadd hC.1 hC.2.1 hd k
theorem x_isub {x y : Int} (hC : Cok g b ow cc nL dep ret) (hd : decode cc pc = .ok (.isub, 1)) (hn : pc + 1 = n) (kk : X g b q nL Z n lv (iV (wr (x - y)) :: st) m kc ks) : X g b q nL Z pc lv (iV y :: iV x :: st) m kc ks := by
  subst hn
  intro H locs cells slots ls hH hS hc hs hl
  have k := kk H locs cells slots ls hH hS hc hs hl
  unfold iV at k ⊢
  rw [← o_sub] at k
  exact lv_isub hC.1 hC.2.1 hd k
theorem x_imul {x y : Int} (hC : Cok g b ow cc nL dep ret) (hd : decode cc pc = .ok (.imul, 1)) (hn : pc + 1 = n) (kk : X g b q nL Z n lv (iV (wr (x * y)) :: st) m kc ks) : X g b q nL Z pc lv (iV y :: iV x :: st) m kc ks := by
  subst hn
  intro H locs cells slots ls hH hS hc hs hl
  have k := kk H locs cells slots ls hH hS hc hs hl
  unfold iV at k ⊢
  rw [← o_mul] at k
  exact lv_imul hC.1 hC.2.1 hd k
theorem x_ineg {x : Int} (hC : Cok g b ow cc nL dep ret) (hd : decode cc pc = .ok (.ineg, 1)) (hn : pc + 1 = n) (kk : X g b q nL Z n lv (iV (wr (-x)) :: st) m kc ks) : X g b q nL Z pc lv (iV x :: st) m kc ks := by
  subst hn
  intro H locs cells slots ls hH hS hc hs hl
  have k := kk H locs cells slots ls hH hS hc hs hl
  unfold iV at k ⊢
  rw [← o_neg] at k
  exact lv_ineg hC.1 hC.2.1 hd k
theorem x_iand {x y : Int} (hC : Cok g b ow cc nL dep ret) (hd : decode cc pc = .ok (.iand, 1)) (hn : pc + 1 = n) (kk : X g b q nL Z n lv (iV (iand x y) :: st) m kc ks) : X g b q nL Z pc lv (iV y :: iV x :: st) m kc ks := by
  subst hn
  intro H locs cells slots ls hH hS hc hs hl
  have k := kk H locs cells slots ls hH hS hc hs hl
  unfold iV iand at k
  unfold iV
  rw [of_tI] at k
  exact lv_iand hC.1 hC.2.1 hd k
theorem x_ior {x y : Int} (hC : Cok g b ow cc nL dep ret) (hd : decode cc pc = .ok (.ior, 1)) (hn : pc + 1 = n) (kk : X g b q nL Z n lv (iV (ior x y) :: st) m kc ks) : X g b q nL Z pc lv (iV y :: iV x :: st) m kc ks := by
  subst hn
  intro H locs cells slots ls hH hS hc hs hl
  have k := kk H locs cells slots ls hH hS hc hs hl
  unfold iV ior at k
  unfold iV
  rw [of_tI] at k
  exact lv_ior hC.1 hC.2.1 hd k
theorem x_ixor {x y : Int} (hC : Cok g b ow cc nL dep ret) (hd : decode cc pc = .ok (.ixor, 1)) (hn : pc + 1 = n) (kk : X g b q nL Z n lv (iV (ixor x y) :: st) m kc ks) : X g b q nL Z pc lv (iV y :: iV x :: st) m kc ks := by
  subst hn
  intro H locs cells slots ls hH hS hc hs hl
  have k := kk H locs cells slots ls hH hS hc hs hl
  unfold iV ixor at k
  unfold iV
  rw [of_tI] at k
  exact lv_ixor hC.1 hC.2.1 hd k
theorem x_ishl {x y : Int} (hC : Cok g b ow cc nL dep ret) (hd : decode cc pc = .ok (.ishl, 1)) (hn : pc + 1 = n) (kk : X g b q nL Z n lv (iV (ishl x y) :: st) m kc ks) : X g b q nL Z pc lv (iV y :: iV x :: st) m kc ks := by
  subst hn
  intro H locs cells slots ls hH hS hc hs hl
  have k := kk H locs cells slots ls hH hS hc hs hl
  unfold iV ishl at k
  unfold iV
  rw [of_tI] at k
  exact lv_ishl hC.1 hC.2.1 hd k
theorem x_ishr {x y : Int} (hC : Cok g b ow cc nL dep ret) (hd : decode cc pc = .ok (.ishr, 1)) (hn : pc + 1 = n) (kk : X g b q nL Z n lv (iV (ishr x y) :: st) m kc ks) : X g b q nL Z pc lv (iV y :: iV x :: st) m kc ks := by
  subst hn
  intro H locs cells slots ls hH hS hc hs hl
  have k := kk H locs cells slots ls hH hS hc hs hl
  unfold iV ishr at k
  unfold iV
  rw [of_tI] at k
  exact lv_ishr hC.1 hC.2.1 hd k
theorem x_iushr {x y : Int} (hC : Cok g b ow cc nL dep ret) (hd : decode cc pc = .ok (.iushr, 1)) (hn : pc + 1 = n) (kk : X g b q nL Z n lv (iV (iushr x y) :: st) m kc ks) : X g b q nL Z pc lv (iV y :: iV x :: st) m kc ks := by
  subst hn
  intro H locs cells slots ls hH hS hc hs hl
  have k := kk H locs cells slots ls hH hS hc hs hl
  unfold iV iushr at k
  unfold iV
  exact lv_iushr hC.1 hC.2.1 hd (of_tI _).symm k
theorem x_i2b {x : Int} (hC : Cok g b ow cc nL dep ret) (hd : decode cc pc = .ok (.i2b, 1)) (hn : pc + 1 = n) (kk : X g b q nL Z n lv (iV (i2b x) :: st) m kc ks) : X g b q nL Z pc lv (iV x :: st) m kc ks := by
  subst hn
  intro H locs cells slots ls hH hS hc hs hl
  have k := kk H locs cells slots ls hH hS hc hs hl
  unfold iV i2b at k
  unfold iV
  exact lv_i2b hC.1 hC.2.1 hd (of_tI _).symm k
theorem x_i2c {x : Int} (hC : Cok g b ow cc nL dep ret) (hd : decode cc pc = .ok (.i2c, 1)) (hn : pc + 1 = n) (kk : X g b q nL Z n lv (iV (i2c x) :: st) m kc ks) : X g b q nL Z pc lv (iV x :: st) m kc ks := by
  subst hn
  intro H locs cells slots ls hH hS hc hs hl
  have k := kk H locs cells slots ls hH hS hc hs hl
  unfold iV i2c at k
  unfold iV
  exact lv_i2c hC.1 hC.2.1 hd (of_tI _).symm k
theorem x_i2l {x : Int} (hC : Cok g b ow cc nL dep ret) (hd : decode cc pc = .ok (.i2l, 1)) (hn : pc + 1 = n) (hx : inR x) (kk : X g b q nL Z n lv (lV x :: st) m kc ks) : X g b q nL Z pc lv (iV x :: st) m kc ks := by
  subst hn
  intro H locs cells slots ls hH hS hc hs hl
  have k := kk H locs cells slots ls hH hS hc hs hl
  exact lv_i2l hC.1 hC.2.1 hd (o_i2l hx) k
theorem x_ladd {x y : Int} (hC : Cok g b ow cc nL dep ret) (hd : decode cc pc = .ok (.ladd, 1)) (hn : pc + 1 = n) (kk : X g b q nL Z n lv (lV (wl (x + y)) :: st) m kc ks) : X g b q nL Z pc lv (lV y :: lV x :: st) m kc ks := by
  subst hn
  intro H locs cells slots ls hH hS hc hs hl
  have k := kk H locs cells slots ls hH hS hc hs hl
  unfold lV at k ⊢
  rw [← o_addL] at k
  exact lv_ladd hC.1 hC.2.1 hd k
theorem x_lmul {x y : Int} (hC : Cok g b ow cc nL dep ret) (hd : decode cc pc = .ok (.lmul, 1)) (hn : pc + 1 = n) (kk : X g b q nL Z n lv (lV (wl (x * y)) :: st) m kc ks) : X g b q nL Z pc lv (lV y :: lV x :: st) m kc ks := by
  subst hn
  intro H locs cells slots ls hH hS hc hs hl
  have k := kk H locs cells slots ls hH hS hc hs hl
  unfold lV at k ⊢
  rw [← o_mulL] at k
  exact lv_lmul hC.1 hC.2.1 hd k
theorem x_lor {x y : Int} (hC : Cok g b ow cc nL dep ret) (hd : decode cc pc = .ok (.lor, 1)) (hn : pc + 1 = n) (kk : X g b q nL Z n lv (lV (lor x y) :: st) m kc ks) : X g b q nL Z pc lv (lV y :: lV x :: st) m kc ks := by
  subst hn
  intro H locs cells slots ls hH hS hc hs hl
  have k := kk H locs cells slots ls hH hS hc hs hl
  unfold lV lor at k
  unfold lV
  rw [of_tL] at k
  exact lv_lor hC.1 hC.2.1 hd k
theorem x_lshl {x y : Int} (hC : Cok g b ow cc nL dep ret) (hd : decode cc pc = .ok (.lshl, 1)) (hn : pc + 1 = n) (kk : X g b q nL Z n lv (lV (lshl x y) :: st) m kc ks) : X g b q nL Z pc lv (iV y :: lV x :: st) m kc ks := by
  subst hn
  intro H locs cells slots ls hH hS hc hs hl
  have k := kk H locs cells slots ls hH hS hc hs hl
  unfold lV lshl at k
  unfold lV
  exact lv_lshl hC.1 hC.2.1 hd (of_tL _).symm k
theorem x_lcmp {x y : Int} (hC : Cok g b ow cc nL dep ret) (hd : decode cc pc = .ok (.lcmp, 1)) (hn : pc + 1 = n) (hx : inL x) (hy : inL y) (kk : X g b q nL Z n lv (iV (lcmp x y) :: st) m kc ks) : X g b q nL Z pc lv (lV y :: lV x :: st) m kc ks := by
  subst hn
  intro H locs cells slots ls hH hS hc hs hl
  have k := kk H locs cells slots ls hH hS hc hs hl
  unfold iV at k
  unfold lV
  rw [← c_lcmp hx hy] at k
  exact W.lcmp hC.1 hC.2.1 hd k
theorem x_idiv {x y : Int} {K : Rs} (hC : Cok g b ow cc nL dep ret) (hd : decode cc pc = .ok (.idiv, 1)) (hn : pc + 1 = n) (hx : inR x) (hy : inR y) (hF : okR (dvn y K) Q) (kk : ¬ y = 0 → okR K Q → X g b q nL Z n lv (iV (wr (x.tdiv y)) :: st) m kc ks) : X g b q nL Z pc lv (iV y :: iV x :: st) m kc ks := by
  subst hn
  intro H locs cells slots ls hH hS hc hs hl
  have h0 := okR_ite hF
  by_cases hz : y = 0
  · exact absurd (h0.1 hz) (fun z => z)
  have k := kk hz (h0.2 hz) H locs cells slots ls hH hS hc hs hl
  unfold iV at k ⊢
  rw [← o_div hx hy] at k
  exact lv_idiv hC.1 hC.2.1 hd (o_ne0 hy hz) k
theorem x_irem {x y : Int} {K : Rs} (hC : Cok g b ow cc nL dep ret) (hd : decode cc pc = .ok (.irem, 1)) (hn : pc + 1 = n) (hx : inR x) (hy : inR y) (hF : okR (dvn y K) Q) (kk : ¬ y = 0 → okR K Q → X g b q nL Z n lv (iV (wr (x.tmod y)) :: st) m kc ks) : X g b q nL Z pc lv (iV y :: iV x :: st) m kc ks := by
  subst hn
  intro H locs cells slots ls hH hS hc hs hl
  have h0 := okR_ite hF
  by_cases hz : y = 0
  · exact absurd (h0.1 hz) (fun z => z)
  have k := kk hz (h0.2 hz) H locs cells slots ls hH hS hc hs hl
  unfold iV at k ⊢
  rw [← o_rem hx hy] at k
  exact lv_irem hC.1 hC.2.1 hd (o_ne0 hy hz) k
theorem x_if_eq {x : Int} {off : Int} {tgt : Nat} {A B : Rs} (hC : Cok g b ow cc nL dep ret) (hd : decode cc pc = .ok (.ifCond .eq off, 3)) (hn : pc + 3 = n) (ht : (pc : Int) + off = (tgt : Int)) (hx : inR x) (hF : okR (if x = 0 then A else B) Q) (kt : x = 0 → okR A Q → X g b q nL Z tgt lv st m kc ks) (kf : ¬ (x = 0) → okR B Q → X g b q nL Z n lv st m kc ks) : X g b q nL Z pc lv (iV x :: st) m kc ks := by
  subst hn
  intro H locs cells slots ls hH hS hc hs hl
  have h0 := okR_ite hF
  have e := (o_eq hx (show inR 0 from ⟨by decide, by decide⟩))
  exact lv_if_eq hC.1 hC.2.1 hd ht (fun z => kt (e.mp z) (h0.1 (e.mp z)) H locs cells slots ls hH hS hc hs hl) (fun z => kf (fun w => z (e.mpr w)) (h0.2 (fun w => z (e.mpr w))) H locs cells slots ls hH hS hc hs hl)
theorem x_icmp_eq {x y : Int} {off : Int} {tgt : Nat} {A B : Rs} (hC : Cok g b ow cc nL dep ret) (hd : decode cc pc = .ok (.if_icmp .eq off, 3)) (hn : pc + 3 = n) (ht : (pc : Int) + off = (tgt : Int)) (hx : inR x) (hy : inR y) (hF : okR (if x = y then A else B) Q) (kt : x = y → okR A Q → X g b q nL Z tgt lv st m kc ks) (kf : ¬ (x = y) → okR B Q → X g b q nL Z n lv st m kc ks) : X g b q nL Z pc lv (iV y :: iV x :: st) m kc ks := by
  subst hn
  intro H locs cells slots ls hH hS hc hs hl
  have h0 := okR_ite hF
  have e := (o_eq hx hy)
  exact lv_icmp_eq hC.1 hC.2.1 hd ht (fun z => kt (e.mp z) (h0.1 (e.mp z)) H locs cells slots ls hH hS hc hs hl) (fun z => kf (fun w => z (e.mpr w)) (h0.2 (fun w => z (e.mpr w))) H locs cells slots ls hH hS hc hs hl)
theorem x_if_ne {x : Int} {off : Int} {tgt : Nat} {A B : Rs} (hC : Cok g b ow cc nL dep ret) (hd : decode cc pc = .ok (.ifCond .ne off, 3)) (hn : pc + 3 = n) (ht : (pc : Int) + off = (tgt : Int)) (hx : inR x) (hF : okR (if ¬ x = 0 then A else B) Q) (kt : ¬ x = 0 → okR A Q → X g b q nL Z tgt lv st m kc ks) (kf : ¬ (¬ x = 0) → okR B Q → X g b q nL Z n lv st m kc ks) : X g b q nL Z pc lv (iV x :: st) m kc ks := by
  subst hn
  intro H locs cells slots ls hH hS hc hs hl
  have h0 := okR_ite hF
  have e := (not_congr (o_eq hx (show inR 0 from ⟨by decide, by decide⟩)))
  have e0 := (o_eq hx (show inR 0 from ⟨by decide, by decide⟩))
  exact lv_if_ne hC.1 hC.2.1 hd ht (fun z => kt (e.mp z) (h0.1 (e.mp z)) H locs cells slots ls hH hS hc hs hl) (fun z => kf (fun w => w (e0.mp z)) (h0.2 (fun w => w (e0.mp z))) H locs cells slots ls hH hS hc hs hl)
theorem x_icmp_ne {x y : Int} {off : Int} {tgt : Nat} {A B : Rs} (hC : Cok g b ow cc nL dep ret) (hd : decode cc pc = .ok (.if_icmp .ne off, 3)) (hn : pc + 3 = n) (ht : (pc : Int) + off = (tgt : Int)) (hx : inR x) (hy : inR y) (hF : okR (if ¬ x = y then A else B) Q) (kt : ¬ x = y → okR A Q → X g b q nL Z tgt lv st m kc ks) (kf : ¬ (¬ x = y) → okR B Q → X g b q nL Z n lv st m kc ks) : X g b q nL Z pc lv (iV y :: iV x :: st) m kc ks := by
  subst hn
  intro H locs cells slots ls hH hS hc hs hl
  have h0 := okR_ite hF
  have e := (not_congr (o_eq hx hy))
  have e0 := (o_eq hx hy)
  exact lv_icmp_ne hC.1 hC.2.1 hd ht (fun z => kt (e.mp z) (h0.1 (e.mp z)) H locs cells slots ls hH hS hc hs hl) (fun z => kf (fun w => w (e0.mp z)) (h0.2 (fun w => w (e0.mp z))) H locs cells slots ls hH hS hc hs hl)
theorem x_if_lt {x : Int} {off : Int} {tgt : Nat} {A B : Rs} (hC : Cok g b ow cc nL dep ret) (hd : decode cc pc = .ok (.ifCond .lt off, 3)) (hn : pc + 3 = n) (ht : (pc : Int) + off = (tgt : Int)) (hx : inR x) (hF : okR (if x < 0 then A else B) Q) (kt : x < 0 → okR A Q → X g b q nL Z tgt lv st m kc ks) (kf : ¬ (x < 0) → okR B Q → X g b q nL Z n lv st m kc ks) : X g b q nL Z pc lv (iV x :: st) m kc ks := by
  subst hn
  intro H locs cells slots ls hH hS hc hs hl
  have h0 := okR_ite hF
  have e := (o_lt hx (show inR 0 from ⟨by decide, by decide⟩))
  exact lv_if_lt hC.1 hC.2.1 hd ht (fun z => kt (e.mp z) (h0.1 (e.mp z)) H locs cells slots ls hH hS hc hs hl) (fun z => kf (fun w => z (e.mpr w)) (h0.2 (fun w => z (e.mpr w))) H locs cells slots ls hH hS hc hs hl)
theorem x_icmp_lt {x y : Int} {off : Int} {tgt : Nat} {A B : Rs} (hC : Cok g b ow cc nL dep ret) (hd : decode cc pc = .ok (.if_icmp .lt off, 3)) (hn : pc + 3 = n) (ht : (pc : Int) + off = (tgt : Int)) (hx : inR x) (hy : inR y) (hF : okR (if x < y then A else B) Q) (kt : x < y → okR A Q → X g b q nL Z tgt lv st m kc ks) (kf : ¬ (x < y) → okR B Q → X g b q nL Z n lv st m kc ks) : X g b q nL Z pc lv (iV y :: iV x :: st) m kc ks := by
  subst hn
  intro H locs cells slots ls hH hS hc hs hl
  have h0 := okR_ite hF
  have e := (o_lt hx hy)
  exact lv_icmp_lt hC.1 hC.2.1 hd ht (fun z => kt (e.mp z) (h0.1 (e.mp z)) H locs cells slots ls hH hS hc hs hl) (fun z => kf (fun w => z (e.mpr w)) (h0.2 (fun w => z (e.mpr w))) H locs cells slots ls hH hS hc hs hl)
theorem x_if_ge {x : Int} {off : Int} {tgt : Nat} {A B : Rs} (hC : Cok g b ow cc nL dep ret) (hd : decode cc pc = .ok (.ifCond .ge off, 3)) (hn : pc + 3 = n) (ht : (pc : Int) + off = (tgt : Int)) (hx : inR x) (hF : okR (if 0 ≤ x then A else B) Q) (kt : 0 ≤ x → okR A Q → X g b q nL Z tgt lv st m kc ks) (kf : ¬ (0 ≤ x) → okR B Q → X g b q nL Z n lv st m kc ks) : X g b q nL Z pc lv (iV x :: st) m kc ks := by
  subst hn
  intro H locs cells slots ls hH hS hc hs hl
  have h0 := okR_ite hF
  have e := (o_le (show inR 0 from ⟨by decide, by decide⟩) hx)
  exact lv_if_ge hC.1 hC.2.1 hd ht (fun z => kt (e.mp z) (h0.1 (e.mp z)) H locs cells slots ls hH hS hc hs hl) (fun z => kf (fun w => z (e.mpr w)) (h0.2 (fun w => z (e.mpr w))) H locs cells slots ls hH hS hc hs hl)
theorem x_icmp_ge {x y : Int} {off : Int} {tgt : Nat} {A B : Rs} (hC : Cok g b ow cc nL dep ret) (hd : decode cc pc = .ok (.if_icmp .ge off, 3)) (hn : pc + 3 = n) (ht : (pc : Int) + off = (tgt : Int)) (hx : inR x) (hy : inR y) (hF : okR (if y ≤ x then A else B) Q) (kt : y ≤ x → okR A Q → X g b q nL Z tgt lv st m kc ks) (kf : ¬ (y ≤ x) → okR B Q → X g b q nL Z n lv st m kc ks) : X g b q nL Z pc lv (iV y :: iV x :: st) m kc ks := by
  subst hn
  intro H locs cells slots ls hH hS hc hs hl
  have h0 := okR_ite hF
  have e := (o_le hy hx)
  exact lv_icmp_ge hC.1 hC.2.1 hd ht (fun z => kt (e.mp z) (h0.1 (e.mp z)) H locs cells slots ls hH hS hc hs hl) (fun z => kf (fun w => z (e.mpr w)) (h0.2 (fun w => z (e.mpr w))) H locs cells slots ls hH hS hc hs hl)
theorem x_if_gt {x : Int} {off : Int} {tgt : Nat} {A B : Rs} (hC : Cok g b ow cc nL dep ret) (hd : decode cc pc = .ok (.ifCond .gt off, 3)) (hn : pc + 3 = n) (ht : (pc : Int) + off = (tgt : Int)) (hx : inR x) (hF : okR (if 0 < x then A else B) Q) (kt : 0 < x → okR A Q → X g b q nL Z tgt lv st m kc ks) (kf : ¬ (0 < x) → okR B Q → X g b q nL Z n lv st m kc ks) : X g b q nL Z pc lv (iV x :: st) m kc ks := by
  subst hn
  intro H locs cells slots ls hH hS hc hs hl
  have h0 := okR_ite hF
  have e := (o_lt (show inR 0 from ⟨by decide, by decide⟩) hx)
  exact lv_if_gt hC.1 hC.2.1 hd ht (fun z => kt (e.mp z) (h0.1 (e.mp z)) H locs cells slots ls hH hS hc hs hl) (fun z => kf (fun w => z (e.mpr w)) (h0.2 (fun w => z (e.mpr w))) H locs cells slots ls hH hS hc hs hl)
theorem x_icmp_gt {x y : Int} {off : Int} {tgt : Nat} {A B : Rs} (hC : Cok g b ow cc nL dep ret) (hd : decode cc pc = .ok (.if_icmp .gt off, 3)) (hn : pc + 3 = n) (ht : (pc : Int) + off = (tgt : Int)) (hx : inR x) (hy : inR y) (hF : okR (if y < x then A else B) Q) (kt : y < x → okR A Q → X g b q nL Z tgt lv st m kc ks) (kf : ¬ (y < x) → okR B Q → X g b q nL Z n lv st m kc ks) : X g b q nL Z pc lv (iV y :: iV x :: st) m kc ks := by
  subst hn
  intro H locs cells slots ls hH hS hc hs hl
  have h0 := okR_ite hF
  have e := (o_lt hy hx)
  exact lv_icmp_gt hC.1 hC.2.1 hd ht (fun z => kt (e.mp z) (h0.1 (e.mp z)) H locs cells slots ls hH hS hc hs hl) (fun z => kf (fun w => z (e.mpr w)) (h0.2 (fun w => z (e.mpr w))) H locs cells slots ls hH hS hc hs hl)
theorem x_if_le {x : Int} {off : Int} {tgt : Nat} {A B : Rs} (hC : Cok g b ow cc nL dep ret) (hd : decode cc pc = .ok (.ifCond .le off, 3)) (hn : pc + 3 = n) (ht : (pc : Int) + off = (tgt : Int)) (hx : inR x) (hF : okR (if x ≤ 0 then A else B) Q) (kt : x ≤ 0 → okR A Q → X g b q nL Z tgt lv st m kc ks) (kf : ¬ (x ≤ 0) → okR B Q → X g b q nL Z n lv st m kc ks) : X g b q nL Z pc lv (iV x :: st) m kc ks := by
  subst hn
  intro H locs cells slots ls hH hS hc hs hl
  have h0 := okR_ite hF
  have e := (o_le hx (show inR 0 from ⟨by decide, by decide⟩))
  exact lv_if_le hC.1 hC.2.1 hd ht (fun z => kt (e.mp z) (h0.1 (e.mp z)) H locs cells slots ls hH hS hc hs hl) (fun z => kf (fun w => z (e.mpr w)) (h0.2 (fun w => z (e.mpr w))) H locs cells slots ls hH hS hc hs hl)
theorem x_icmp_le {x y : Int} {off : Int} {tgt : Nat} {A B : Rs} (hC : Cok g b ow cc nL dep ret) (hd : decode cc pc = .ok (.if_icmp .le off, 3)) (hn : pc + 3 = n) (ht : (pc : Int) + off = (tgt : Int)) (hx : inR x) (hy : inR y) (hF : okR (if x ≤ y then A else B) Q) (kt : x ≤ y → okR A Q → X g b q nL Z tgt lv st m kc ks) (kf : ¬ (x ≤ y) → okR B Q → X g b q nL Z n lv st m kc ks) : X g b q nL Z pc lv (iV y :: iV x :: st) m kc ks := by
  subst hn
  intro H locs cells slots ls hH hS hc hs hl
  have h0 := okR_ite hF
  have e := (o_le hx hy)
  exact lv_icmp_le hC.1 hC.2.1 hd ht (fun z => kt (e.mp z) (h0.1 (e.mp z)) H locs cells slots ls hH hS hc hs hl) (fun z => kf (fun w => z (e.mpr w)) (h0.2 (fun w => z (e.mpr w))) H locs cells slots ls hH hS hc hs hl)
end XR

/-! THE CLAIM OUT OF ONE WALK OF THE LAW'S BODY. Your part is whole_start (and what it stands on); all else here is the same for every law, but numbers. -/
def R_law : String := "OneWordLaw"
def lw_P (b : Addr) (xs : List Int32) (args : Array Value) (s : State) : Prop := args = #[.ref b] ∧ s.IntsAt b xs ∧ xs.length ≤ 3072 ∧ (Jvm.Cond.and given_1 narrow_1).before args s = true
def lw_Q (_ : Array Value) (s : State) (o : Outcome) (t : State) : Prop := o = .returned (some (.int 1)) ∧ Framed s o t [] 600000 7302250
def lw_Z (below : List Frame) (a : Array Value) (s : State) : State → Prop := fun t => ∃ o, t.status = .running ∧ Ended t below o ∧ lw_Q a s o t
/-- the law's own end, with 1 on the stack, nothing written that was there before, its room as the claim has it -/
theorem lw_ret {p : Program} {l : Launch} {e : Env} {s : State} {m : MethodId} {below : List Frame} {meth : Method} {c : Code} {b : Nat} (hx : p.tables.exec = Jvm.exec) (hb : c.code = code) (hr : meth.sig.returnType = ret) (hlocks : meth.locks = false) {pc : Nat} {H : Heap} {ls : Array Slot} (hdg : decode code pc = .ok (.ireturn, 1)) : W p l e room_1 s m #[Value.ref b] below meth c H [] 600000 7302250 (lw_Z below #[Value.ref b] s) (F0 m pc ls [.int 1]) := by
  intro T hT X
  obtain ⟨fs, hret, hrun, hended, hW, hframe⟩ := X.leave (v := some (.int 1)) (hlocks := hlocks) (fun h => by rw [hr] at h; cases h)
  have hmeth' : T.vm.method? m = some meth := X.method'
  refine ⟨T.setFrames fs, ?_, .returned (some (.int 1)), hrun, hended, rfl, ⟨_, rfl⟩, hW, hframe⟩
  jvm_step X.here [X.here.top, hx, hb, hdg, hmeth', hr, ret, narrow_b1]
  (try refine ⟨rfl, ?_⟩); (try refine ⟨rfl, ?_⟩)
  first | (intro acts; rw [hret _ acts rfl rfl rfl]) | rw [hret _ _ rfl rfl rfl]
  exact Steps.refl _
/-- what holds at the law's entry: the machine, the code, the tables' words (any of lw_tbl by 'hts w (by decide +kernel)'), the script of L ints xs at the cell b, what the Statement gives of the start (any of its parts by flat_of_before) -/
def lw_At (p : Program) (s : State) (m : MethodId) (meth : Method) (c : Code) (b L : Nat) (xs : Nat → Int32) : Prop :=
  p.tables.exec = Jvm.exec ∧ c.code = code ∧ meth.sig.returnType = ret ∧ c.maxLocals = 4 ∧ s.vm.findClass R_law = some m.cls ∧ (∀ w ∈ lw_tbl, w.before #[Value.ref b] s = true) ∧ va_X b L xs s s.heap ∧ b < s.heap.size ∧ meth.locks = false ∧ (Jvm.Cond.and given_1 narrow_1).before #[Value.ref b] s = true
/-! the law's own rows -/
theorem okT {c : Prop} [Decidable c] (m : Mm) (x : Int) : okR (if c then some (x, m) else some (x, m)) (fun _ _ => True) := by split <;> trivial
theorem fm_swap (ma mb : Mm) : fm (true, mb) ma = fm (false, ma) mb := by
  funext k
  unfold fm
  cases h : own2 k <;> simp
section XL
variable {g : Gx} {b : Bs} {q : Sd} {nL dep : Nat} {Z : State → Prop} {ow : String} {cc : ByteArray} {ret : Option FieldType} {pc n : Nat} {lv : List (Nat × Value)} {st : List Value} {m : Mm} {kc ks : Nat}
theorem x_swap {ma mb : Mm} {s1 s2 : Bool} (kk : X g b (s2, ma) nL Z pc lv st mb kc ks) (h : fm (s1, mb) ma = fm (s2, ma) mb := by first | exact fm_swap _ _ | exact (fm_swap _ _).symm) : X g b (s1, mb) nL Z pc lv st ma kc ks := by
  intro H locs cells slots ls hH hS hc hs hl
  rw [h] at hH
  exact kk H locs cells slots ls hH hS hc hs hl
theorem x_scr {scr L : Nat} {xs : Nat → Int32} {i : Int} (hC : Cok g b ow cc nL dep ret) (hd : decode cc pc = .ok (.iaload, 1)) (hn : pc + 1 = n) (hX : va_X scr L xs (gS g) (gS g).heap) (hsc : scr < b.1 ∧ b.1 = (gS g).heap.size) (hi : inR i) (hin : 0 ≤ i ∧ i < (L : Int)) (kk : X g b q nL Z n lv (iV (xs i.toNat).toInt :: st) m kc ks) : X g b q nL Z pc lv (iV i :: .ref scr :: st) m kc ks := by
  subst hn
  intro H locs cells slots ls hH hS hc hs hl
  have k := kk H locs cells slots ls hH hS hc hs hl
  obtain ⟨hx, hb, -, hown, hts, -, hK, -⟩ := hC
  refine va_sld (i := Int32.ofInt i) hx hb hX (by omega) (by omega) hS (vin hi hin) hd ?_
  rw [clamp hi]
  unfold iV at k
  rw [of_tI] at k
  exact k
theorem x_scrlen {scr L : Nat} {xs : Nat → Int32} (hC : Cok g b ow cc nL dep ret) (hd : decode cc pc = .ok (.arraylength, 1)) (hn : pc + 1 = n) (hX : va_X scr L xs (gS g) (gS g).heap) (hsc : scr < b.1 ∧ b.1 = (gS g).heap.size) (kk : X g b q nL Z n lv (iV (L : Int) :: st) m kc ks) : X g b q nL Z pc lv (.ref scr :: st) m kc ks := by
  subst hn
  intro H locs cells slots ls hH hS hc hs hl
  have k := kk H locs cells slots ls hH hS hc hs hl
  obtain ⟨hx, hb, -, hown, hts, -, hK, -⟩ := hC
  refine va_slen hx hb hX (by omega) (by omega) hS hd ?_
  unfold iV at k
  rw [Int32.ofInt_eq_ofNat] at k
  exact k
theorem l_eq {r : Int} {off : Int} {tgt : Nat} (hC : Cok g b ow cc nL dep ret) (hd : decode cc pc = .ok (.if_icmp .eq off, 3)) (ht : (pc : Int) + off = (tgt : Int)) (kk : X g b q nL Z tgt lv st m kc ks) : X g b q nL Z pc lv (iV r :: iV r :: st) m kc ks :=
  fun H locs cells slots ls hH hS hc hs hl => lv_icmp_eq hC.1 hC.2.1 hd ht (fun _ => kk H locs cells slots ls hH hS hc hs hl) (fun z => absurd rfl z)
theorem l_leq {r : Int} {off : Int} {tgt pc2 : Nat} (hC : Cok g b ow cc nL dep ret) (hd : decode cc pc = .ok (.lcmp, 1)) (hd2 : decode cc pc2 = .ok (.ifCond .eq off, 3)) (hp : pc + 1 = pc2) (ht : (pc2 : Int) + off = (tgt : Int)) (hr : inL r) (kk : X g b q nL Z tgt lv st m kc ks) : X g b q nL Z pc lv (lV r :: lV r :: st) m kc ks := by
  refine x_lcmp hC hd hp hr hr ?_
  have e : lcmp r r = 0 := by unfold lcmp; rw [if_neg (by omega), if_pos rfl]
  rw [e]
  exact fun H locs cells slots ls hH hS hc hs hl => lv_if_eq hC.1 hC.2.1 hd2 ht (fun _ => kk H locs cells slots ls hH hS hc hs hl) (fun z => absurd rfl z)
end XL
theorem x_lawret {p : Program} {l : Launch} {e : Env} {s : State} {mi : MethodId} {below : List Frame} {meth : Method} {c : Code} {b : Bs} {q : Sd} {scr pc : Nat} {lv : List (Nat × Value)} {m : Mm} {kc ks : Nat} (hC : Cok (p, l, e, room_1, s, mi, #[Value.ref scr], below, meth, c) b RL cL_law 4 1400 (some .boolean)) (hsc : scr < b.1 ∧ b.1 = s.heap.size) (hd : decode cL_law pc = .ok (.ireturn, 1)) : X (p, l, e, room_1, s, mi, #[Value.ref scr], below, meth, c) b q 4 (lw_Z below #[Value.ref scr] s) pc lv [iV 1] m kc ks := by
  intro H locs cells slots ls hH hS hc hs hl
  refine va_forget (fun q hq => ?_) ?_
  · have h1 := hS.2.2 q hq
    show s.heap.size ≤ q.base
    rw [← hsc.2]
    exact h1
  · refine W.widen (k := 600000) (n := 7302250) ?_ ?_ ?_
    · have h1 := hc.2
      have h2 : (gR (p, l, e, room_1, s, mi, #[Value.ref scr], below, meth, c)).cells = 600000 := rfl
      omega
    · have h2 : (gR (p, l, e, room_1, s, mi, #[Value.ref scr], below, meth, c)).slots = 7302250 := rfl
      omega
    · exact lw_ret hC.1 hC.2.1 hC.2.2.2.2.2.2.2.2.2 hC.2.2.2.2.2.1 hd

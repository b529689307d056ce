/-! the words that calls carry on, the world, the judgement X -/
def gtb : List Cond := lw_tbl.filter goodWord
theorem mt {w : Cond} (i : Nat) (h : tables_1[i]? = some w) : w ∈ lw_tbl := List.mem_append_right _ (List.mem_of_getElem? h)
theorem msl {w : Cond} (i : Nat) (h : (k2_sels lw_privs)[i]? = some w) : w ∈ lw_tbl := List.mem_append_left _ (List.mem_of_getElem? h)
theorem mg {w : Cond} (h : w ∈ lw_tbl) (hg : goodWord w = true) : w ∈ gtb := List.mem_filter.mpr ⟨h, hg⟩
theorem gtb_tbl {w : Cond} (h : w ∈ gtb) : w ∈ lw_tbl := (List.mem_filter.mp h).1
theorem gtb_in {w : Cond} (h : w ∈ gtb) : GoodIn gtb (w :: gtb) := by
  have key : ∀ v ∈ gtb, v ∈ gtb ∧ ((v.onTables && v.keeps) = true ∨ ∃ ty, v = .arrayClass ty) := fun v hv => ⟨hv, good_of_word (List.mem_filter.mp hv).2⟩
  intro v hv
  rcases List.mem_cons.mp hv with rfl | hv
  · exact key _ h
  · exact key _ hv
theorem uw_g {ws : List Cond} (h : ∀ w ∈ ws, w ∈ lw_tbl) (hg : ws.all goodWord = true) : ∀ w ∈ ws, w ∈ gtb := fun w hw => mg (h w hw) (List.all_eq_true.mp hg w hw)
abbrev Gx : Type := Program × Launch × Env × Room × State × MethodId × Array Value × List Frame × Method × Code
/-- base address, the classes' numbers, int[] byte[] long[] boolean[], ONE_BY, the constant text, its bytes -/
abbrev Bs : Type := Nat × va_G × ClassId × ClassId × ClassId × ClassId × Nat × Nat × Nat
def bO (b : Bs) : Nat := b.2.2.2.2.2.2.1
def bT (b : Bs) : Nat := b.2.2.2.2.2.2.2.1
def bU (b : Bs) : Nat := b.2.2.2.2.2.2.2.2
def tysB (b : Bs) : List (ClassId × FieldType) := [(b.2.2.1, .int), (b.2.2.2.1, .byte), (b.2.2.2.2.1, .long), (b.2.2.2.2.2.1, .boolean)]
def fvl (b : Bs) (k n j : Nat) (x : Int) : Value := match fty n j with
  | 0 => iV x
  | 1 => .ref (b.1 + ftg k j)
  | _ => .ref (b.1 + x.toNat)
def cntD (m : Mm) : Nat := 95 + (m 0 100).toNat
def lenA (m : Mm) (k : Nat) : Nat := if k < 95 then (cknd k).2 else (m 0 (200 + k)).toNat
def kndA (k : Nat) : Nat := if k < 95 then (cknd k).1 else 0
def celF (b : Bs) (m : Mm) (k : Nat) : va_E := match kndA k with
  | 0 => .inl (b.2.2.1, lenA m k, .inl (fun j => Int32.ofInt (m k j)))
  | 1 => .inl (b.2.2.2.1, lenA m k, .inl (fun j => Int32.ofInt (m k j)))
  | 2 => .inl (b.2.2.2.2.1, lenA m k, .inr (.inl (fun j => Int64.ofInt (m k j))))
  | 3 => .inl (b.2.2.2.2.2.1, lenA m k, .inl (fun j => Int32.ofInt (m k j)))
  | n + 4 => .inr (n, (List.range (nfl n)).map (fun j => fvl b k n j (m k j)))
def wsF (b : Bs) (m : Mm) : va_W := (List.range (cntD m)).map (fun k => (b.1 + k, celF b m k))
def Hc (b : Bs) (m : Mm) (H : Heap) : Prop := H.size = b.1 + cntD m ∧ va_P b.2.1 vwCl (wsF b m) H
theorem wsF_get (b : Bs) (m : Mm) {k : Nat} (h : k < cntD m) : (wsF b m)[k]? = some (b.1 + k, celF b m k) := by
  unfold wsF
  rw [List.getElem?_map, List.getElem?_range h]
  rfl
theorem wsF_len (b : Bs) (m : Mm) : (wsF b m).length = cntD m := by unfold wsF; rw [List.length_map, List.length_range]
theorem wsF_D (b : Bs) (m : Mm) : va_D (fun q => b.1 ≤ q) (wsF b m) := by
  refine ⟨fun i j p q hi hj h => ?_, fun k q hk => ?_⟩
  · have h1 : i < cntD m := by have := (List.getElem?_eq_some_iff.mp hi).1; rwa [wsF_len] at this
    have h2 : j < cntD m := by have := (List.getElem?_eq_some_iff.mp hj).1; rwa [wsF_len] at this
    rw [wsF_get b m h1] at hi
    rw [wsF_get b m h2] at hj
    cases hi; cases hj
    simp only at h
    omega
  · have h1 : k < cntD m := by have := (List.getElem?_eq_some_iff.mp hk).1; rwa [wsF_len] at this
    rw [wsF_get b m h1] at hk
    cases hk
    exact Nat.le_add_right _ _
theorem wsF_set (b : Bs) {m m' : Mm} {k : Nat} (h : k < cntD m) (hc : cntD m' = cntD m) (ho : ∀ k', k' ≠ k → celF b m' k' = celF b m k') : (wsF b m).set k (b.1 + k, celF b m' k) = wsF b m' := by
  apply List.ext_getElem?
  intro i
  by_cases hi : i < cntD m
  · rw [wsF_get b m' (by rw [hc]; exact hi)]
    by_cases e : i = k
    · subst e
      rw [List.getElem?_set_self (by rw [wsF_len]; exact h)]
    · rw [List.getElem?_set_ne (fun z => e z.symm), wsF_get b m hi, ho i e]
  · rw [List.getElem?_eq_none (by rw [List.length_set, wsF_len]; omega), List.getElem?_eq_none (by rw [wsF_len, hc]; omega)]
theorem u2_same (m : Mm) (c i : Nat) (v : Int) : upd2 m c i v c i = v := by unfold upd2 upr; rw [if_pos rfl, if_pos rfl]
theorem u2_row (m : Mm) (c i : Nat) (v : Int) : upd2 m c i v c = upr (m c) i v := by unfold upd2; rw [if_pos rfl]
theorem u2_ne (m : Mm) {c k : Nat} (i : Nat) (v : Int) (h : k ≠ c) : upd2 m c i v k = m k := by unfold upd2; rw [if_neg h]
theorem cntD_u2 {m : Mm} {c i : Nat} {v : Int} (h : c ≠ 0) : cntD (upd2 m c i v) = cntD m := by unfold cntD; rw [u2_ne _ _ _ (fun z => h z.symm)]
theorem lenA_u2 {m : Mm} {c i : Nat} {v : Int} (h : c ≠ 0) (k : Nat) : lenA (upd2 m c i v) k = lenA m k := by unfold lenA; rw [u2_ne _ _ _ (fun z => h z.symm)]
theorem celF_ne {b : Bs} {m : Mm} {c i : Nat} {v : Int} (h : c ≠ 0) (k : Nat) (hk : k ≠ c) : celF b (upd2 m c i v) k = celF b m k := by
  unfold celF; rw [lenA_u2 h, u2_ne _ _ _ hk]
/-- two sides: true the class's cells, false the reference's; q.2 the other side's memory -/
abbrev Sd : Type := Bool × Mm
def own2 (k : Nat) : Bool := !(decide (54 ≤ k) && decide (k < 95))
def fm (q : Sd) (m : Mm) : Mm := fun k => if own2 k = q.1 then m k else q.2 k
theorem fm_at {q : Sd} {m : Mm} {k : Nat} (h : own2 k = q.1) : fm q m k = m k := by unfold fm; rw [if_pos h]
theorem fm_u2 {q : Sd} {m : Mm} {k : Nat} (h : own2 k = q.1) (i : Nat) (v : Int) : fm q (upd2 m k i v) = upd2 (fm q m) k i v := by
  funext c
  by_cases hc : c = k
  · subst hc
    rw [fm_at h, u2_row, u2_row, fm_at h]
  · rw [u2_ne _ _ _ hc]
    unfold fm
    rw [u2_ne _ _ _ hc]
def lngk (k : Nat) : Bool := kndA k == 2
def rgk (k : Nat) (x : Int) : Prop := if lngk k = true then inL x else if kndA k = 3 then (x = 0 ∨ x = 1) else inR x
def Rg (m : Mm) : Prop := ∀ k j, rgk k (m k j)
theorem Rg.z {m : Mm} (h : Rg m) (k j : Nat) (hk : kndA k = 3) : m k j = 0 ∨ m k j = 1 := by
  have h1 := h k j
  unfold rgk lngk at h1
  rw [hk] at h1
  exact h1
theorem Rg.i {m : Mm} (h : Rg m) (k j : Nat) (hk : lngk k = false) : inR (m k j) := by
  by_cases hz : kndA k = 3
  · exact rg_01 (h.z k j hz)
  · have h1 := h k j
    unfold rgk at h1
    rwa [hk, if_neg (by decide), if_neg hz] at h1
theorem Rg.l {m : Mm} (h : Rg m) (k j : Nat) (hk : lngk k = true) : inL (m k j) := by
  have h1 := h k j
  unfold rgk at h1
  rwa [hk, if_pos rfl] at h1
theorem Rg.u {m : Mm} (h : Rg m) {k : Nat} (i : Nat) {v : Int} (hv : rgk k v) : Rg (upd2 m k i v) := by
  intro c j
  by_cases hc : c = k
  · subst hc
    rw [u2_row]
    unfold upr
    by_cases e : j = i
    · rw [if_pos e]; exact hv
    · rw [if_neg e]; exact h c j
  · rw [u2_ne _ _ _ hc]; exact h c j
theorem rgk_i {k : Nat} {v : Int} (hk : lngk k = false) (hz : ¬ kndA k = 3) (h : inR v) : rgk k v := by unfold rgk; rw [hk, if_neg (by decide), if_neg hz]; exact h
theorem rgk_z {k : Nat} {v : Int} (hk : kndA k = 3) (h : v = 0 ∨ v = 1) : rgk k v := by unfold rgk lngk; rw [hk]; exact h
theorem rgk_l {k : Nat} {v : Int} (hk : lngk k = true) (h : inL v) : rgk k v := by unfold rgk; rw [hk, if_pos rfl]; exact h
/-- ONE_BY -/
def oneF (j : Nat) : Int := match j with
  | 0 => 1
  | 1 => 5
  | 2 => 25
  | 3 => 125
  | _ => 625
/-- links between nest mates -/
def nst : List Cond := [.methodLinkNest RX11 9 yX4_init "OneWord", .methodLinkNest RX11 18 yX10_init "OneWord", .methodLinkNest RX11 25 yX9_init "OneWord", .methodLinkNest RX7 20 yX0_init "OneWord", .methodLinkNest RX4 56 yX11_within "OneWord", .methodLinkNest RX5 66 yX11_within "OneWord", .methodLinkNest RX8 21 yX11_within "OneWord"]
theorem nst_warm {s U : State} (hW : s.WarmedH U.vm) : ∀ w ∈ nst, va_Nw w s → va_Nw w U := by
  intro w hw h
  simp only [nst, List.mem_cons, List.not_mem_nil, or_false] at hw
  rcases hw with rfl | rfl | rfl | rfl | rfl | rfl | rfl <;> exact va_Nw.warmM hW h
theorem nst_same {s U : State} (hv : s.vm = U.vm) : ∀ w ∈ nst, va_Nw w s → va_Nw w U := by
  intro w hw h
  simp only [nst, List.mem_cons, List.not_mem_nil, or_false] at hw
  rcases hw with rfl | rfl | rfl | rfl | rfl | rfl | rfl <;> exact va_Nw.same rfl hv h
/-- the constant text's bytes -/
def txF (j : Nat) : Int := match j with
  | 0 => 103
  | 1 => 119
  | 2 => 108
  | 3 => 112
  | 4 => 115
  | 5 => 100
  | 6 => 101
  | 7 => 107
  | 8 => 97
  | _ => 102
abbrev txB : List (List Int32) := [[103, 119, 108, 112, 115, 100, 101, 107, 97, 102]]
/-- what the tables and the cells below the base say, at a state -/
def Kx (b : Bs) (U : State) : Prop := va_K b.2.1 vwCl (tysB b) U ∧ b.1 ≤ U.heap.size ∧ va_Z "OneWord$Crowd" "ONE_BY" "[I" (.ref (bO b)) (fun q => b.1 ≤ q) U U.heap ∧ va_T .int (bO b) 5 (fun j => iV (oneF j)) (fun q => b.1 ≤ q) U U.heap ∧ (∀ w ∈ nst, va_Nw w U) ∧ vk_S 1 [10] txB (fun _ => bT b) (fun _ => bU b) (fun q => b.1 ≤ q) U U.heap ∧ vk_R "OneWord$Grammar" 116 "gwlpsdekaf" (bT b) U ∧ va_Z "java/lang/String" "COMPACT_STRINGS" "Z" (.int 1) (fun q => b.1 ≤ q) U U.heap
theorem Kx.mv {b : Bs} {s U : State} (h : Kx b s) (hN : ∀ w ∈ nst, va_Nw w s → va_Nw w U) (hR : vk_R "OneWord$Grammar" 116 "gwlpsdekaf" (bT b) s → vk_R "OneWord$Grammar" 116 "gwlpsdekaf" (bT b) U) (hvm : s.vm.Alike U.vm) (hz : s.heap.size ≤ U.heap.size) (hq : ∀ q, q < s.heap.size → ¬ b.1 ≤ q → U.heap[q]? = s.heap[q]?) : Kx b U := by
  obtain ⟨h1, h2, h3, h5, h6, h7, h8, h9⟩ := h
  exact ⟨h1.moved hvm, Nat.le_trans h2 hz, (h3.moved hvm).kept hq, (h5.moved hvm).kept hq, fun w hw => hN w hw (h6 w hw), (h7.moved hvm).kept hq, hR h8, (h9.moved hvm).kept hq⟩
theorem Kx.warm {b : Bs} {s U : State} (h : Kx b s) (hW : s.WarmedH U.vm) (hz : s.heap.size ≤ U.heap.size) (hq : ∀ q, q < s.heap.size → ¬ b.1 ≤ q → U.heap[q]? = s.heap[q]?) : Kx b U := h.mv (nst_warm hW) (vk_R.warm hW) hW.alike hz hq
/-- a world at a state: the cells, the tables, the ranges -/
def Wd (b : Bs) (q : Sd) (m : Mm) (U : State) : Prop := Hc b (fm q m) U.heap ∧ Kx b U ∧ Rg m
def gP (g : Gx) : Program := g.1
def gR (g : Gx) : Room := g.2.2.2.1
def gS (g : Gx) : State := g.2.2.2.2.1
def gA (g : Gx) : Array Value := g.2.2.2.2.2.2.1
def gT (g : Gx) : Method := g.2.2.2.2.2.2.2.2.1
def gW (g : Gx) (H : Heap) (locs : List Loc) (cells slots : Nat) (Q : State → Prop) (pc : Nat) (ls : Array Slot) (st : List Value) : Prop :=
  W g.1 g.2.1 g.2.2.1 g.2.2.2.1 g.2.2.2.2.1 g.2.2.2.2.2.1 g.2.2.2.2.2.2.1 g.2.2.2.2.2.2.2.1 g.2.2.2.2.2.2.2.2.1 g.2.2.2.2.2.2.2.2.2 H locs cells slots Q (F0 g.2.2.2.2.2.1 pc ls st)
/-- what is known of a method that runs -/
def Cok (g : Gx) (b : Bs) (ow : String) (cc : ByteArray) (nL dep : Nat) (ret : Option FieldType) : Prop :=
  g.1.tables.exec = Jvm.exec ∧ g.2.2.2.2.2.2.2.2.2.code = cc ∧ g.2.2.2.2.2.2.2.2.2.maxLocals = nL ∧ (gS g).vm.findClass ow = some g.2.2.2.2.2.1.cls ∧ (∀ w ∈ gtb, w.before (gA g) (gS g) = true) ∧ (gT g).locks = false ∧ Kx b (gS g) ∧ dep ≤ (gR g).frames ∧ 60 * dep ≤ (gR g).locals ∧ (gT g).sig.returnType = ret
/-- from here on, at pc, with these locals, this stack and this memory, and room for kc more cells of ks slots, the machine comes to Z -/
def X (g : Gx) (b : Bs) (q : Sd) (nL : Nat) (Z : State → Prop) (pc : Nat) (lv : List (Nat × Value)) (st : List Value) (m : Mm) (kc ks : Nat) : Prop :=
  ∀ (H : Heap) (locs : List Loc) (cells slots : Nat) (ls : Array Slot), Hc b (fm q m) H → va_S (fun a => b.1 ≤ a) (gS g).heap H locs → (H.size = (gS g).heap.size + cells ∧ cells + kc = (gR g).cells) → slots + ks ≤ (gR g).slots → lv_has ls nL lv → gW g H locs cells slots Z pc ls st
def rtV (rt : Nat) (r : Int) : Option Value := match rt with
  | 0 => none
  | 1 => some (iV r)
  | 2 => some (lV r)
  | _ => some (iV r)
def rtO (rt : Nat) (r : Int) : Prop := match rt with
  | 0 => r = 0
  | 1 => inR r
  | 2 => inL r
  | _ => r = 0 ∨ r = 1
/-- a method's end -/
def QcM (b : Bs) (q : Sd) (rt kc : Nat) (Q : Int → Mm → Prop) : Array Value → State → Outcome → State → Prop := fun _ s o t =>
  ((∃ r m', Q r m' ∧ rtO rt r ∧ o = .returned (rtV rt r) ∧ Wd b q m' t) ∧ t.heap.size = s.heap.size + kc) ∧ va_F (fun a => b.1 ≤ a) s t
def ZM (g : Gx) (b : Bs) (q : Sd) (rt : Nat) (Q : Int → Mm → Prop) : State → Prop := MQ g.2.2.2.2.2.2.2.1 (QcM b q rt (gR g).cells Q) (gA g) (gS g) (gR g).cells (gR g).slots (fun a => b.1 ≤ a)
def PcM (b : Bs) (q : Sd) (m : Mm) (av : List Value) : Array Value → State → Prop := va_Pc av (Wd b q m)
def rmM (dep kc ks : Nat) : Room := { frames := dep, cells := kc, slots := ks, locals := 60 * dep }
/-- a method's contract: y with these arguments at memory m does what o says -/
def Cn (y : MethodName) (cc : ByteArray) (nL : Nat) (ret : Option FieldType) (dep kc ks rt : Nat) (b : Bs) (q : Sd) (m : Mm) (av : List Value) (o : Rs) : Prop :=
  ∀ l : Launch, Met l y (.code y cc nL ret :: gtb) (rmM dep kc ks) (PcM b q m av) (QcM b q rt kc (fun r m' => o = some (r, m'))) kc ks (fun a => b.1 ≤ a)

/-! a new row of ints -/
def nwM (m : Mm) (x : Int) : Mm := fun k => if k = cntD m then (fun _ => 0) else if k = 0 then upr (upr (m 0) 100 (m 0 100 + 1)) (200 + cntD m) x else m k
def nwa (kc ks : Nat) (m : Mm) (x : Int) (K : Mm → Rs) : Rs := if kc = 1 ∧ ks = x.toNat ∧ 0 ≤ x ∧ x ≤ 100000 ∧ 0 ≤ m 0 100 ∧ m 0 100 < 100000 then K (nwM m x) else none
theorem nwM_cnt {m : Mm} {x : Int} (h : 0 ≤ m 0 100) : cntD (nwM m x) = cntD m + 1 := by
  have h1 : cntD m ≠ 0 := by unfold cntD; omega
  have e : nwM m x 0 100 = m 0 100 + 1 := by
    unfold nwM
    rw [if_neg (fun z => h1 z.symm), if_pos rfl]
    unfold upr
    rw [if_neg (by unfold cntD; omega), if_pos rfl]
  show 95 + (nwM m x 0 100).toNat = 95 + (m 0 100).toNat + 1
  rw [e]; omega
theorem nwM_old {m : Mm} {x : Int} (b : Bs) {k : Nat} (hk : k < cntD m) : celF b (nwM m x) k = celF b m k := by
  have h1 : cntD m ≠ 0 := by unfold cntD; omega
  have el : lenA (nwM m x) k = lenA m k := by
    unfold lenA
    by_cases h9 : k < 95
    · rw [if_pos h9, if_pos h9]
    · rw [if_neg h9, if_neg h9]
      congr 1
      unfold nwM
      rw [if_neg (fun z => h1 z.symm), if_pos rfl]
      unfold upr
      rw [if_neg (by omega), if_neg (by omega)]
  have er : kndA k ≤ 3 ∨ k ≠ 0 ∨ k = 0 := by omega
  by_cases h0 : k = 0
  · subst h0
    have : kndA 0 = 10 + 4 := rfl
    rw [cel_obj this, cel_obj this]
    refine congrArg (fun z => Sum.inr (10, z)) ?_
    apply List.map_congr_left
    intro j hj
    have hj' := List.mem_range.mp hj
    have : ∀ j, j < nfl 10 → fty 10 j = 1 := by decide
    unfold fvl
    rw [this j hj']
    rfl
  · have e : nwM m x k = m k := by unfold nwM; rw [if_neg (by omega), if_neg h0]
    unfold celF
    rw [el, e]
theorem nwM_new {m : Mm} {x : Int} (b : Bs) : celF b (nwM m x) (cntD m) = .inl (b.2.2.1, x.toNat, .inl (fun _ => 0)) := by
  have h1 : cntD m ≠ 0 := by unfold cntD; omega
  have h9 : ¬ cntD m < 95 := by unfold cntD; omega
  have ek : kndA (cntD m) = 0 := by unfold kndA; rw [if_neg h9]
  have el : lenA (nwM m x) (cntD m) = x.toNat := by
    unfold lenA
    rw [if_neg h9]
    congr 1
    unfold nwM
    rw [if_neg (fun z => h1 z.symm), if_pos rfl]
    unfold upr
    rw [if_pos rfl]
  have er : nwM m x (cntD m) = fun _ => 0 := by unfold nwM; rw [if_pos rfl]
  rw [cel_i ek, el, er]
  rfl
theorem nwM_ws {m : Mm} {x : Int} (b : Bs) (h : 0 ≤ m 0 100) : wsF b (nwM m x) = wsF b m ++ [(b.1 + cntD m, .inl (b.2.2.1, x.toNat, .inl (fun _ => 0)))] := by
  unfold wsF
  rw [nwM_cnt h, List.range_succ, List.map_append]
  congr 1
  · apply List.map_congr_left
    intro k hk
    rw [nwM_old b (List.mem_range.mp hk)]
  · simp only [List.map_cons, List.map_nil, nwM_new]
theorem nwM_fm {o m : Mm} {x : Int} : fm (true, o) (nwM m x) = nwM (fm (true, o) m) x := by
  have e0 : fm (true, o) m 0 = m 0 := fm_at rfl
  have ec : cntD (fm (true, o) m) = cntD m := by unfold cntD; rw [e0]
  have hc : own2 (cntD m) = true := by
    have : ¬ cntD m < 95 := by unfold cntD; omega
    unfold own2; simp [this]
  funext k
  by_cases h1 : k = cntD m
  · subst h1
    rw [fm_at hc]
    unfold nwM
    rw [if_pos rfl, ec, if_pos rfl]
  · by_cases h2 : k = 0
    · subst h2
      rw [fm_at rfl]
      unfold nwM
      rw [if_neg h1, if_pos rfl, ec, if_neg h1, if_pos rfl, e0]
    · have e1 : ∀ z : Mm, cntD z = cntD m → nwM z x k = z k := fun z hz => by unfold nwM; rw [hz, if_neg h1, if_neg h2]
      rw [e1 _ ec]
      unfold fm
      rw [e1 m rfl]
theorem nwM_Rg {m : Mm} {x : Int} (hm : Rg m) (hx : inR x) (h0 : m 0 100 < 100000) (h1 : 0 ≤ m 0 100) : Rg (nwM m x) := by
  intro k j
  unfold nwM
  by_cases e1 : k = cntD m
  · rw [if_pos e1]
    have h9 : ¬ k < 95 := by rw [e1]; unfold cntD; omega
    have ek : kndA k = 0 := by unfold kndA; rw [if_neg h9]
    exact rgk_i (by unfold lngk; rw [ek]; rfl) (by rw [ek]; decide) ⟨by decide, by decide⟩
  · rw [if_neg e1]
    by_cases e2 : k = 0
    · rw [if_pos e2]
      subst e2
      refine rgk_i rfl (by decide) ?_
      have := hm.i 0 j rfl
      unfold upr
      split
      · exact hx
      · split
        · unfold inR; omega
        · exact this
    · rw [if_neg e2]; exact hm k j
section XN
variable {g : Gx} {b : Bs} {o : Mm} {nL dep : Nat} {Z : State → Prop} {ow : String} {cc : ByteArray} {ret : Option FieldType} {pc n : Nat} {lv : List (Nat × Value)} {st : List Value} {m : Mm} {kc ks : Nat} {Q : Int → Mm → Prop}
theorem x_newI {x : Int} {K : Mm → Rs} (hC : Cok g b ow cc nL dep ret) (hd : decode cc pc = .ok (.newarray .int, 2)) (hn : pc + 2 = n) (hw : Cond.arrayClass .int ∈ gtb) (hm : Rg m) (hx : inR x) (hF : okR (nwa kc ks m x K) Q) (kk : ∀ m', Rg m' → inR ((cntD m : Nat) : Int) → okR (K m') Q → X g b (true, o) nL Z n lv (.ref (b.1 + cntD m) :: st) m' 0 0) : X g b (true, o) nL Z pc lv (iV x :: st) m kc ks := by
  subst hn
  intro H locs cells slots ls hH hS hc hs hl
  have h0 := okR_ite hF
  by_cases hb0 : kc = 1 ∧ ks = x.toNat ∧ 0 ≤ x ∧ x ≤ 100000 ∧ 0 ≤ m 0 100 ∧ m 0 100 < 100000
  · have hFk := h0.1 hb0
    obtain ⟨rfl, rfl, hx0, hx1, hc0, hc1⟩ := hb0
    have kx := kk (nwM m x) (nwM_Rg hm hx hc1 hc0) (by unfold inR cntD; omega) hFk
    obtain ⟨hx', hb, -, hown, hts, -, hK, -⟩ := hC
    have e0 : fm (true, o) m 0 = m 0 := fm_at rfl
    have ec : cntD (fm (true, o) m) = cntD m := by unfold cntD; rw [e0]
    refine va_newaK (N := x.toNat) (h := H.size) hx' hb (atype := .int) (hts _ hw) rfl hd rfl ?_ (clamp hx) (by show x.toNat * 4 ≤ _; omega) (by show cells + 1 ≤ (gR g).cells; have := hc.2; omega) (by show slots + x.toNat ≤ (gR g).slots; omega) rfl (fun H1 cA a1 a2 a3 a4 a5 => ?_)
    · intro hlt
      rw [o_z, o_lt hx ⟨by decide, by decide⟩] at hlt
      omega
    · have hcA : cA = b.2.2.1 := by
        have h2 := (hK.1.2 0 (b.2.2.1, .int) rfl).2
        have h3 : (gS g).vm.findClass ("[" ++ FieldType.int.toString) = some b.2.2.1 := h2
        have h4 : (gS g).vm.findClass ("[" ++ FieldType.int.toString) = some cA := a5
        rw [h3] at h4
        exact (Option.some.inj h4).symm
      subst hcA
      have hHsz : H.size = b.1 + cntD m := by rw [hH.1, ec]
      have kx2 := kx H1 locs (cells + 1) (slots + x.toNat) ls ?_ ⟨Nat.le_trans hS.1 (by omega), fun a h1 h2 => by rw [a3 a (Nat.lt_of_lt_of_le h1 hS.1)]; exact hS.2.1 a h1 h2, hS.2.2⟩ ⟨by rw [a2, hc.1]; omega, by have := hc.2; omega⟩ (by omega) hl
      · rw [hHsz]
        exact kx2
      · rw [nwM_fm]
        refine ⟨by rw [a2, nwM_cnt (by rw [e0]; exact hc0), ec, hHsz]; omega, ?_⟩
        rw [nwM_ws b (by rw [e0]; exact hc0), ec]
        refine va_P.app (hH.2.kept (fun k' z hz => a3 _ ((hH.2 k' z hz).lt))) (fun k' z hz => ?_)
        have hz1 : k' < 1 := (List.getElem?_eq_some_iff.mp hz).1
        rw [show k' = 0 by omega] at hz
        cases hz
        show H1[b.1 + cntD m]? = some (vp_cell _ _)
        rw [← hHsz, a1]
        rfl
  · exact absurd (h0.2 hb0) (fun z => z)
end XN

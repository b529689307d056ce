/-! the reference finds who speaks -/
def sWh (k i : Nat) : Bool := k == 87 || k == 88 || k == 89 || (k == 54 && i == 63)
def RF (b : Mm) (G : Tg) (M : Nat) (c : Nat → Int) (Ln : Nat → Nat) (D : Nat → Int) : Prop := RC b G M c Ln D ∧ SoA b (syB G c Ln D) Ln M
theorem sWh_So {b b' : Mm} (h : Fr sWh b b') : Fr sSo b b' := h.mono fun k i e => by
  unfold sSo at e
  unfold sWh
  simp only [Bool.or_eq_false_iff] at e ⊢
  exact ⟨⟨⟨e.1.1.1.2, e.1.1.2⟩, e.1.2⟩, e.2⟩
theorem RF.fr {b b' : Mm} {G : Tg} {M : Nat} {c : Nat → Int} {Ln : Nat → Nat} {D : Nat → Int} (h : RF b G M c Ln D) (f : Fr sWh b b') : RF b' G M c Ln D := by
  refine ⟨h.1.fr (sWh_So f), fun st l p h1 h2 h3 h4 => ?_⟩
  rw [f.row 86 (fun _ => rfl)]
  exact h.2 st l p h1 h2 h3 h4
theorem rsm_le {Ln : Nat → Nat} {st : Nat} : ∀ k v, (∀ u, v ≤ u → u < v + k → Ln u ≤ 4) → rsm Ln st k v ≤ 4 * k := by
  intro k
  induction k with
  | zero => intro v _; exact Nat.le_refl _
  | succ k ih2 =>
    intro v hu
    have h1 := ih2 (v + 1) (fun u g1 g2 => hu u (by omega) (by omega))
    have h2 := hu v (Nat.le_refl _) (by omega)
    unfold rsm
    omega
theorem rsm16 {sy : Syf} {M : Nat} {Ln : Nat → Nat} (hy : SyL sy M Ln) (st : Nat) : rsm Ln st M 0 ≤ 16 := by
  have h1 := hy.1.1
  have := rsm_le (Ln := Ln) (st := st) M 0 (fun u _ hu => hy.1.2 u (by omega))
  omega
theorem Vc_in {sy : Syf} {M : Nat} {Ln : Nat → Nat} (hy : SyL sy M Ln) (st w g : Nat) : Vc sy M Ln st w g = 1000000000 ∨ (0 ≤ Vc sy M Ln st w g ∧ Vc sy M Ln st w g ≤ 320) := by
  have h1 := rsm16 hy (st + fiv w)
  rcases Vm_in sy M (rsm Ln (st + fiv w) M 0) (st + fiv w) w g with z | z
  · exact Or.inl z
  · right
    unfold Vc
    omega
theorem tfc {b : Mm} {G : Tg} {M : Nat} {c : Nat → Int} {Ln : Nat → Nat} {D : Nat → Int} (h : RF b G M c Ln D) {st l p w g : Nat} (hst : isSt Ln M st) (hl : l < M ∨ (l = 4 ∧ st = 0)) (hp : 1 ≤ p ∧ p < 22) (hw : w < M) (hg : 1 ≤ g ∧ g < 22) (hs : syB G c Ln D st l p w g = true) : ∃ N1 N2 : Nat, F_X12_soonPlace (wr ((st : Int) + (fiv w : Int))) (w : Int) (g : Int) b = some ((N1 : Int), b) ∧ N1 < 68750 ∧ b 86 N1 = Vc (syB G c Ln D) M Ln st w g ∧ F_X12_soonPlace (st : Int) (l : Int) (p : Int) b = some ((N2 : Int), b) ∧ N2 < 68750 ∧ b 86 N2 = VV (syB G c Ln D) M Ln st l p := by
  have hM := h.1.1.2.1
  have hy := h.1.sy
  have hst6 := hst.1
  obtain ⟨a1, a2⟩ := isSt_add hM hy.1.2 hst hw (hy.2 _ _ _ _ _ hw hs)
  obtain ⟨s1, s2⟩ := soonPlace_s (st := st + fiv w) (l := w) (p := g) a1.1 (by omega) (by omega) b
  obtain ⟨r1, r2⟩ := soonPlace_s (st := st) (l := l) (p := p) hst.1 (by omega) (by omega) b
  have hfp := fiv_pos w
  have a16 := a1.1
  refine ⟨_, _, ?_, s2, ?_, r1, r2, h.2 st l p hst hl hp.1 hp.2⟩
  · rw [wr_s (by omega), show (st : Int) + (fiv w : Int) = ((st + fiv w : Nat) : Int) by omega]
    exact s1
  · have := h.2 (st + fiv w) w g a1 (Or.inl hw) hg.1 hg.2
    rw [VV_eq hy a1 (by omega)] at this
    exact this
def sGb (i k j : Nat) : Bool := k == 89 && (decide (22 * i + 22 ≤ j) && decide (j < 22 * i + 44))
theorem sGb_Wh {i : Nat} {b b' : Mm} (h : Fr (sGb i) b b') : Fr sWh b b' := h.mono fun k j e => by
  cases hk : sGb i k j with
  | false => rfl
  | true =>
    unfold sGb at hk
    rw [Bool.and_eq_true] at hk
    unfold sWh at e
    rw [hk.1] at e
    rw [Bool.or_true, Bool.true_or] at e
    exact (nomatch e)
theorem gb62 {K6 : Int → Int → Int → Int → Int → Int → Mm → Rs} {K46 : Int → Int → Int → Int → Int → Int → Int → Mm → Rs} {b : Mm} {G : Tg} {M : Nat} {c : Nat → Int} {Ln : Nat → Nat} {D : Nat → Int} (h : RF b G M c Ln D) {st l p w g i : Nat} {kp any : Bool} (hi : i ≤ 15) (h63 : b 54 63 = (i : Int)) (hst : isSt Ln M st) (hl : l < M ∨ (l = 4 ∧ st = 0)) (hp : 1 ≤ p ∧ p < 22) (hw : w < M) (hg : 1 ≤ g ∧ g < 22) : J_X12_goesBy_62 K6 K46 (st : Int) (l : Int) (w : Int) (b01 kp) (b01 any) (p : Int) (g : Int) b = if tT (syB G c Ln D) M Ln st l p w g = true then J_X12_goesBy_159 K6 K46 (st : Int) (l : Int) (w : Int) (b01 kp) (b01 true) (p : Int) (g : Int) (if kp = true then upd2 b 89 (22 * i + 22 + g) 1 else b) else J_X12_goesBy_159 K6 K46 (st : Int) (l : Int) (w : Int) (b01 kp) (b01 any) (p : Int) (g : Int) b := by
  have hM := h.1.1.2.1
  have hsy := says_s hst.1 h.1.1 h.1.2.1 h.1.2.2.1 (⟨hw, hg, by omega, hp⟩ : okM M w g l p)
  rw [h.1.2.2.2] at hsy
  unfold J_X12_goesBy_62
  rw [hsy, cll_s]
  cases hs : syB G c Ln D st l p w g with
  | false =>
    rw [show b01 false = 0 from rfl, if_neg (by decide), if_neg (fun z => by rw [(tT_iff.mp z).1] at hs; exact (nomatch hs))]
  | true =>
    obtain ⟨N1, N2, n1, n2, n3, n4, n5, n6⟩ := tfc h hst hl hp hw hg hs
    rw [show b01 true = 1 from rfl, if_pos (by decide), fives_s (by omega), cll_s, n1, cll_s, ald_s (by omega), nmv_s, Int.toNat_natCast, n3]
    have hV := Vc_in h.1.sy st w g
    by_cases hc : (1000000000 : Int) ≤ Vc (syB G c Ln D) M Ln st w g
    · rw [if_pos hc, if_neg (fun z => by have := (tT_iff.mp z).2.1; omega)]
    · rw [if_neg hc, costOf_s, cll_s, n4, cll_s, ald_s (by omega), Int.toNat_natCast, n6]
      have hcost : 0 ≤ (if g = 21 then (0 : Int) else (g : Int)) ∧ (if g = 21 then (0 : Int) else (g : Int)) ≤ 22 := by split <;> omega
      rw [wr_s (by omega)]
      by_cases he : (if g = 21 then (0 : Int) else (g : Int)) + Vc (syB G c Ln D) M Ln st w g = VV (syB G c Ln D) M Ln st l p
      · rw [if_pos he, if_pos (tT_iff.mpr ⟨hs, by omega, he⟩), nmv_s]
        cases kp with
        | false => rw [show b01 false = 0 from rfl, if_pos rfl, if_neg (by decide)]
        | true =>
          rw [show b01 true = 1 from rfl, if_neg (by decide), h63, if_pos rfl, wr_s (x := 22 * (i : Int)) (by omega), wr_s (x := 22 * (i : Int) + 22) (by omega), wr_s (by omega), ast_s (by omega), show (22 * (i : Int) + 22 + (g : Int)).toNat = 22 * i + 22 + g by omega]
      · rw [if_neg he, if_neg (fun z => he (tT_iff.mp z).2.2)]
def MgR (b : Mm) (i : Nat) (R : Nat → Bool) : Prop := ∀ g, g < 22 → b 89 (22 * i + g) = b01 (R g)
theorem gb46 {K6 : Int → Int → Int → Int → Int → Int → Mm → Rs} {G : Tg} {M : Nat} {c : Nat → Int} {Ln : Nat → Nat} {D : Nat → Int} {st l p w i : Nat} {kp : Bool} (hi : i ≤ 15) (hst : isSt Ln M st) (hl : l < M ∨ (l = 4 ∧ st = 0)) (hp : 1 ≤ p ∧ p < 22) (hw : w < M) : ∀ (k g : Nat) (any : Bool) (b : Mm) (R : Nat → Bool) (f : Nat), g + k = gHi st → 1 ≤ g → RF b G M c Ln D → b 54 63 = (i : Int) → MgR b (i + 1) R → k < f → ∃ b', L_X12_goesBy_46 K6 f (st : Int) (l : Int) (w : Int) (b01 kp) (b01 any) (p : Int) (g : Int) b = J_X12_goesBy_165 K6 (st : Int) (l : Int) (w : Int) (b01 kp) (b01 (any || exB (tT (syB G c Ln D) M Ln st l p w) k g)) (p : Int) b' ∧ Fr (sGb i) b b' ∧ MgR b' (i + 1) (fun g' => R g' || (kp && (decide (g ≤ g' ∧ g' < g + k) && tT (syB G c Ln D) M Ln st l p w g'))) := by
  have hh : gHi st ≤ 22 := by unfold gHi; split <;> decide
  intro k
  induction k with
  | zero =>
    intro g any b R f hg h1 hR h63 hm hf
    obtain ⟨f', rfl⟩ : ∃ f', f = f' + 1 := ⟨f - 1, by omega⟩
    refine ⟨b, ?_, Fr.refl _ _, fun g' hg' => ?_⟩
    · show LB_X12_goesBy_46 K6 (L_X12_goesBy_46 K6 f') _ _ _ _ _ _ _ _ = _
      unfold LB_X12_goesBy_46
      unfold exB
      rw [Bool.or_false]
      by_cases h0 : st = 0
      · have : gHi st = 22 := by unfold gHi; rw [if_pos h0]
        rw [if_neg (by omega), if_pos (by omega)]
      · have : gHi st = 21 := by unfold gHi; rw [if_neg h0]
        rw [if_pos (by omega), if_pos (by omega)]
    · dsimp only
      rw [decide_eq_false (by omega), Bool.false_and, Bool.and_false, Bool.or_false]
      exact hm g' hg'
  | succ k ih =>
    intro g any b R f hg h1 hR h63 hm hf
    obtain ⟨f', rfl⟩ : ∃ f', f = f' + 1 := ⟨f - 1, by omega⟩
    have hun : L_X12_goesBy_46 K6 (f' + 1) (st : Int) (l : Int) (w : Int) (b01 kp) (b01 any) (p : Int) (g : Int) b = J_X12_goesBy_62 K6 (L_X12_goesBy_46 K6 f') (st : Int) (l : Int) (w : Int) (b01 kp) (b01 any) (p : Int) (g : Int) b := by
      show LB_X12_goesBy_46 K6 (L_X12_goesBy_46 K6 f') _ _ _ _ _ _ _ _ = _
      unfold LB_X12_goesBy_46
      by_cases h0 : st = 0
      · have : gHi st = 22 := by unfold gHi; rw [if_pos h0]
        rw [if_neg (by omega), if_neg (by omega)]
      · have : gHi st = 21 := by unfold gHi; rw [if_neg h0]
        rw [if_pos (by omega), if_neg (by omega)]
    rw [hun, gb62 hR hi h63 hst hl hp hw ⟨h1, by omega⟩]
    cases ht : tT (syB G c Ln D) M Ln st l p w g with
    | false =>
      rw [if_neg (by decide)]
      unfold J_X12_goesBy_159
      rw [nmv_s, wr_s (by omega)]
      obtain ⟨b', e1, e2, e3⟩ := ih (g + 1) any b R f' (by omega) (by omega) hR h63 hm (by omega)
      refine ⟨b', ?_, e2, fun g' hg' => ?_⟩
      · unfold exB
        rw [ht, Bool.false_or]
        exact e1
      · rw [e3 g' hg']
        dsimp only
        by_cases e : g' = g
        · subst e
          simp only [ht, Bool.and_false]
        · rw [show decide (g + 1 ≤ g' ∧ g' < g + 1 + k) = decide (g ≤ g' ∧ g' < g + (k + 1)) from decide_eq_decide.mpr ⟨fun z => by omega, fun z => by omega⟩]
    | true =>
      rw [if_pos rfl]
      unfold J_X12_goesBy_159
      rw [nmv_s, wr_s (by omega)]
      cases kp with
      | false =>
        rw [if_neg (by decide)]
        obtain ⟨b', e1, e2, e3⟩ := ih (g + 1) true b R f' (by omega) (by omega) hR h63 hm (by omega)
        refine ⟨b', ?_, e2, fun g' hg' => ?_⟩
        · unfold exB
          rw [ht, Bool.true_or, Bool.or_true]
          rw [Bool.true_or] at e1
          exact e1
        · exact e3 g' hg'
      | true =>
        rw [if_pos rfl]
        have hf0 : Fr (sGb i) b (upd2 b 89 (22 * i + 22 + g) 1) := (Fr.refl _ _).upd 1 (by
          unfold sGb
          rw [decide_eq_true (by omega), decide_eq_true (by omega)]
          rfl)
        obtain ⟨b', e1, e2, e3⟩ := ih (g + 1) true (upd2 b 89 (22 * i + 22 + g) 1) (fun g' => R g' || decide (g' = g)) f' (by omega) (by omega) (hR.fr (sGb_Wh hf0)) (by rw [u2r (by decide)]; exact h63) (by
          intro g' hg'
          dsimp only
          by_cases e : g' = g
          · subst e
            rw [show 22 * (i + 1) + g' = 22 * i + 22 + g' by omega, u2s, decide_eq_true rfl, Bool.or_true]
            rfl
          · rw [u2n (by omega), decide_eq_false e, Bool.or_false]
            exact hm g' hg') (by omega)
        refine ⟨b', ?_, hf0.trans e2, fun g' hg' => ?_⟩
        · unfold exB
          rw [ht, Bool.true_or, Bool.or_true]
          rw [Bool.true_or] at e1
          exact e1
        · rw [e3 g' hg']
          dsimp only
          by_cases e : g' = g
          · subst e
            rw [ht, decide_eq_true rfl, decide_eq_true (by omega : g' ≤ g' ∧ g' < g' + (k + 1)), Bool.or_true, Bool.true_or, Bool.true_and, Bool.true_and, Bool.or_true]
          · rw [decide_eq_false e, Bool.or_false, show decide (g + 1 ≤ g' ∧ g' < g + 1 + k) = decide (g ≤ g' ∧ g' < g + (k + 1)) from decide_eq_decide.mpr ⟨fun z => by omega, fun z => by omega⟩]
theorem gLH (st : Nat) : gLo st + (gHi st - gLo st) = gHi st ∧ 1 ≤ gLo st ∧ gHi st ≤ 22 ∧ gLo st < gHi st := by
  unfold gLo gHi
  by_cases h : st = 0
  · rw [if_pos h, if_pos h]; decide
  · rw [if_neg h, if_neg h]; decide
theorem gb6 {G : Tg} {M : Nat} {c : Nat → Int} {Ln : Nat → Nat} {D : Nat → Int} {st l w i : Nat} {kp : Bool} {A : Nat → Bool} (hi : i ≤ 15) (hst : isSt Ln M st) (hl : l < M ∨ (l = 4 ∧ st = 0)) (hw : w < M) : ∀ (k p : Nat) (any : Bool) (b : Mm) (R : Nat → Bool) (f : Nat), p + k = 22 → 1 ≤ p → RF b G M c Ln D → b 54 63 = (i : Int) → MgR b i A → MgR b (i + 1) R → k < f → ∃ b', L_X12_goesBy_6 f (st : Int) (l : Int) (w : Int) (b01 kp) (b01 any) (p : Int) b = some (b01 (any || exB (fun p => A p && exB (tT (syB G c Ln D) M Ln st l p w) (gHi st - gLo st) (gLo st)) k p), b') ∧ Fr (sGb i) b b' ∧ MgR b' (i + 1) (fun g => R g || (kp && (decide (gLo st ≤ g ∧ g < gHi st) && exB (fun p => A p && tT (syB G c Ln D) M Ln st l p w g) k p))) := by
  obtain ⟨q1, q2, q3, q4⟩ := gLH st
  intro k
  induction k with
  | zero =>
    intro p any b R f hp h1 hR h63 hA hm hf
    obtain ⟨f', rfl⟩ : ∃ f', f = f' + 1 := ⟨f - 1, by omega⟩
    refine ⟨b, ?_, Fr.refl _ _, fun g' hg' => ?_⟩
    · show LB_X12_goesBy_6 (L_X12_goesBy_6 f') _ _ _ _ _ _ _ = _
      unfold LB_X12_goesBy_6
      unfold exB
      rw [if_pos (by omega), Bool.or_false]
    · show _ = b01 (R g' || (kp && (decide (gLo st ≤ g' ∧ g' < gHi st) && false)))
      rw [Bool.and_false, Bool.and_false, Bool.or_false]
      exact hm g' hg'
  | succ k ih =>
    intro p any b R f hp h1 hR h63 hA hm hf
    obtain ⟨f', rfl⟩ : ∃ f', f = f' + 1 := ⟨f - 1, by omega⟩
    have hun : L_X12_goesBy_6 (f' + 1) (st : Int) (l : Int) (w : Int) (b01 kp) (b01 any) (p : Int) b = if A p = true then L_X12_goesBy_46 (L_X12_goesBy_6 f') 100000 (st : Int) (l : Int) (w : Int) (b01 kp) (b01 any) (p : Int) ((gLo st : Nat) : Int) b else J_X12_goesBy_165 (L_X12_goesBy_6 f') (st : Int) (l : Int) (w : Int) (b01 kp) (b01 any) (p : Int) b := by
      show LB_X12_goesBy_6 (L_X12_goesBy_6 f') _ _ _ _ _ _ _ = _
      unfold LB_X12_goesBy_6
      rw [if_neg (by omega), h63, wr_s (x := 22 * (i : Int)) (by omega), wr_s (by omega), ald_s (by omega), show (22 * (i : Int) + (p : Int)).toNat = 22 * i + p by omega, hA p (by omega)]
      cases hAp : A p with
      | false => rw [show b01 false = 0 from rfl, if_neg (by decide), if_neg (by decide)]
      | true =>
        rw [show b01 true = 1 from rfl, if_pos (by decide), if_pos rfl]
        unfold gLo
        by_cases h0 : st = 0
        · rw [if_neg (by omega), if_pos h0, nmv_s]
          rfl
        · rw [if_pos (by omega), if_neg h0, nmv_s]
          rfl
    rw [hun]
    cases hAp : A p with
    | false =>
      rw [if_neg (by decide)]
      unfold J_X12_goesBy_165
      rw [nmv_s, wr_s (by omega)]
      obtain ⟨b', e1, e2, e3⟩ := ih (p + 1) any b R f' (by omega) (by omega) hR h63 hA hm (by omega)
      refine ⟨b', ?_, e2, fun g' hg' => ?_⟩
      · rw [show exB (fun p => A p && exB (tT (syB G c Ln D) M Ln st l p w) (gHi st - gLo st) (gLo st)) (k + 1) p = ((A p && exB (tT (syB G c Ln D) M Ln st l p w) (gHi st - gLo st) (gLo st)) || exB (fun p => A p && exB (tT (syB G c Ln D) M Ln st l p w) (gHi st - gLo st) (gLo st)) k (p + 1)) from rfl, hAp, Bool.false_and, Bool.false_or]
        exact e1
      · rw [e3 g' hg']
        dsimp only
        rw [show exB (fun p => A p && tT (syB G c Ln D) M Ln st l p w g') (k + 1) p = ((A p && tT (syB G c Ln D) M Ln st l p w g') || exB (fun p => A p && tT (syB G c Ln D) M Ln st l p w g') k (p + 1)) from rfl, hAp, Bool.false_and, Bool.false_or]
    | true =>
      rw [if_pos rfl]
      obtain ⟨b1, d1, d2, d3⟩ := gb46 (K6 := L_X12_goesBy_6 f') (kp := kp) (p := p) hi hst hl ⟨h1, by omega⟩ hw (gHi st - gLo st) (gLo st) any b R 100000 q1 q2 hR h63 hm (by omega)
      rw [d1]
      unfold J_X12_goesBy_165
      rw [nmv_s, wr_s (by omega)]
      obtain ⟨b', e1, e2, e3⟩ := ih (p + 1) (any || exB (tT (syB G c Ln D) M Ln st l p w) (gHi st - gLo st) (gLo st)) b1 _ f' (by omega) (by omega) (hR.fr (sGb_Wh d2)) (by rw [d2 54 63 rfl]; exact h63) (fun g hg => by
        rw [d2 89 _ (by unfold sGb; rw [decide_eq_false (by omega), Bool.false_and]; rfl)]
        exact hA g hg) d3 (by omega)
      refine ⟨b', ?_, d2.trans e2, fun g' hg' => ?_⟩
      · rw [show exB (fun p => A p && exB (tT (syB G c Ln D) M Ln st l p w) (gHi st - gLo st) (gLo st)) (k + 1) p = ((A p && exB (tT (syB G c Ln D) M Ln st l p w) (gHi st - gLo st) (gLo st)) || exB (fun p => A p && exB (tT (syB G c Ln D) M Ln st l p w) (gHi st - gLo st) (gLo st)) k (p + 1)) from rfl, hAp, Bool.true_and, ← Bool.or_assoc]
        exact e1
      · rw [e3 g' hg']
        dsimp only
        rw [show exB (fun p => A p && tT (syB G c Ln D) M Ln st l p w g') (k + 1) p = ((A p && tT (syB G c Ln D) M Ln st l p w g') || exB (fun p => A p && tT (syB G c Ln D) M Ln st l p w g') k (p + 1)) from rfl, hAp, Bool.true_and, q1]
        cases R g' <;> cases kp <;> cases decide (gLo st ≤ g' ∧ g' < gHi st) <;> rfl
theorem gos_e {sy : Syf} {M : Nat} {Ln : Nat → Nat} {A : Nat → Bool} {st l w : Nat} : exB (fun p => A p && exB (tT sy M Ln st l p w) (gHi st - gLo st) (gLo st)) 21 1 = gos sy M Ln A st l w := by
  obtain ⟨q1, q2, q3, q4⟩ := gLH st
  rw [Bool.eq_iff_iff, gos_iff, exB_iff]
  constructor
  · rintro ⟨p, h1, h2, h3⟩
    rw [Bool.and_eq_true, exB_iff] at h3
    obtain ⟨h3, g, h4, h5, h6⟩ := h3
    exact ⟨g, nx_iff.mpr ⟨⟨h4, by omega⟩, p, h1, h2, h3, h6⟩⟩
  · rintro ⟨g, h⟩
    obtain ⟨r, p, h1, h2, h3, h4⟩ := nx_iff.mp h
    refine ⟨p, h1, h2, ?_⟩
    rw [Bool.and_eq_true, exB_iff]
    exact ⟨h3, g, r.1, by omega, h4⟩
theorem goesBy_s {G : Tg} {M : Nat} {c : Nat → Int} {Ln : Nat → Nat} {D : Nat → Int} {st l w i : Nat} {kp : Bool} {A : Nat → Bool} {b : Mm} (hi : i ≤ 15) (hst : isSt Ln M st) (hl : l < M ∨ (l = 4 ∧ st = 0)) (hw : w < M) (hR : RF b G M c Ln D) (h63 : b 54 63 = (i : Int)) (hA : MgR b i A) (hm : MgR b (i + 1) (fun _ => false)) : ∃ b', F_X12_goesBy (st : Int) (l : Int) (w : Int) (b01 kp) b = some (b01 (gos (syB G c Ln D) M Ln A st l w), b') ∧ Fr (sGb i) b b' ∧ MgR b' (i + 1) (fun g => kp && nx (syB G c Ln D) M Ln A st l w g) := by
  obtain ⟨b', e1, e2, e3⟩ := gb6 (kp := kp) hi hst hl hw 21 1 false b (fun _ => false) 100000 rfl (by decide) hR h63 hA hm (by decide)
  refine ⟨b', ?_, e2, fun g hg => ?_⟩
  · unfold F_X12_goesBy
    rw [nmv_s, nmv_s]
    rw [Bool.false_or, gos_e] at e1
    exact e1
  · rw [e3 g hg]
    dsimp only
    rw [Bool.false_or]
    rfl
/-- who has been found up to i -/
def WhI (b : Mm) (G : Tg) (M : Nat) (c : Nat → Int) (Ln : Nat → Nat) (D : Nat → Int) (i : Nat) : Prop := RF b G M c Ln D ∧ b 54 63 = (i : Int) ∧ (∀ j, j < i → b 87 j = (wqN (syB G c Ln D) M Ln j : Int)) ∧ (∀ j, j ≤ i → MgR b j (Rq (syB G c Ln D) M Ln j).2.2) ∧ ∀ j, i < j → j ≤ 16 → MgR b j (fun _ => false)
theorem WhI.fr {b b' : Mm} {G : Tg} {M : Nat} {c : Nat → Int} {Ln : Nat → Nat} {D : Nat → Int} {i : Nat} (h : WhI b G M c Ln D i) (f : Fr (sGb i) b b') (h0 : MgR b' (i + 1) (fun _ => false)) : WhI b' G M c Ln D i := by
  obtain ⟨h1, h2, h3, h4, h5⟩ := h
  refine ⟨h1.fr (sGb_Wh f), (f 54 63 rfl).trans h2, fun j hj => ?_, fun j hj g hg => ?_, fun j g1 g2 => ?_⟩
  · rw [f 87 j rfl]; exact h3 j hj
  · rw [f 89 _ (by unfold sGb; rw [decide_eq_false (by omega), Bool.false_and]; rfl)]
    exact h4 j hj g hg
  · by_cases e : j = i + 1
    · subst e; exact h0
    · intro g hg
      rw [f 89 _ (by unfold sGb; rw [decide_eq_false (by omega : ¬ 22 * j + g < 22 * i + 44), Bool.and_false]; rfl)]
      exact h5 j g1 g2 g hg
theorem fw49 {K : Int → Int → Mm → Rs} {G : Tg} {M : Nat} {c : Nat → Int} {Ln : Nat → Nat} {D : Nat → Int} {i : Nat} (hV : VV (syB G c Ln D) M Ln 0 4 21 < 1000000000) (hi : i < rsm Ln 0 M 0) : ∀ (k w : Nat) (b : Mm) (f : Nat), w + k = wqN (syB G c Ln D) M Ln i → WhI b G M c Ln D i → k < f → ∃ b', L_X12_findsWho_49 K f ((Rq (syB G c Ln D) M Ln i).1 : Int) ((Rq (syB G c Ln D) M Ln i).2.1 : Int) (w : Int) b = K ((Rq (syB G c Ln D) M Ln (i + 1)).1 : Int) ((Rq (syB G c Ln D) M Ln (i + 1)).2.1 : Int) b' ∧ Fr sWh b b' ∧ WhI b' G M c Ln D (i + 1) := by
  intro k
  induction k with
  | zero =>
    intro w b f hk h hf
    obtain ⟨f', rfl⟩ : ∃ f', f = f' + 1 := ⟨f - 1, by omega⟩
    obtain ⟨hR, h63, h87, hA, h0⟩ := h
    have hy := hR.1.sy
    obtain ⟨⟨r1, r2, r3, _, _⟩, hn⟩ := Rq_i hy hV i (by omega)
    obtain ⟨w1, w2, w3⟩ := hn hi
    have hl : (Rq (syB G c Ln D) M Ln i).2.1 < M ∨ ((Rq (syB G c Ln D) M Ln i).2.1 = 4 ∧ (Rq (syB G c Ln D) M Ln i).1 = 0) := by
      rcases r3 with z | z
      · exact Or.inr ⟨z.2.1, z.2.2⟩
      · exact Or.inl z.2.1
    have h16 := rsm16 hy 0
    have hM := hR.1.1.2.1
    have hwe : w = wqN (syB G c Ln D) M Ln i := by omega
    subst hwe
    obtain ⟨b1, d1, d2, d3⟩ := goesBy_s (kp := false) (by omega) r1 hl w1 hR h63 (hA i (Nat.le_refl _)) (h0 (i + 1) (by omega) (by omega))
    have hW1 : WhI b1 G M c Ln D i := WhI.fr ⟨hR, h63, h87, hA, h0⟩ d2 (fun g hg => by rw [d3 g hg]; rfl)
    obtain ⟨hR1, h631, h871, hA1, h01⟩ := hW1
    obtain ⟨b2, e1, e2, e3⟩ := goesBy_s (kp := true) (by omega) r1 hl w1 hR1 h631 (hA1 i (Nat.le_refl _)) (h01 (i + 1) (by omega) (by omega))
    have h632 : b2 54 63 = (i : Int) := (e2 54 63 rfl).trans h631
    have hfa : Fr sWh b (upd2 (upd2 b2 87 i (wqN (syB G c Ln D) M Ln i : Int)) 54 63 ((i : Int) + 1)) := (((sGb_Wh d2).trans (sGb_Wh e2)).upd _ rfl).upd _ rfl
    refine ⟨upd2 (upd2 b2 87 i (wqN (syB G c Ln D) M Ln i : Int)) 54 63 ((i : Int) + 1), ?_, hfa, hR.fr hfa, ?_, fun j hj => ?_, fun j hj g hg => ?_, fun j g1 g2 g hg => ?_⟩
    · show LB_X12_findsWho_49 K (L_X12_findsWho_49 K f') _ _ _ _ = _
      unfold LB_X12_findsWho_49
      have hst := (Rq_i hy hV (i + 1) (by omega)).1.1.1
      rw [Rq_st] at hst
      rw [show (0 : Int) = b01 false from rfl, d1, cll_s, w2, if_pos (by decide), show (1 : Int) = b01 true from rfl, e1, cll_s, nmv_s, ast_s (by omega), h632, stf_s, u2r (by decide), h632, fives_s (by omega), cll_s, nmv_s, nmv_s, Rq_st, Rq_l, wr_s (x := ((Rq (syB G c Ln D) M Ln i).1 : Int) + (fiv (wqN (syB G c Ln D) M Ln i) : Int)) (by omega), show (b01 true) = 1 from rfl, wr_s (x := (i : Int) + 1) (by omega), Int.toNat_natCast]
      rfl
    · rw [u2s]; rfl
    · rw [u2r (by decide)]
      by_cases e : j = i
      · subst e; rw [u2s]
      · rw [u2n e, e2 87 j rfl]; exact h871 j (by omega)
    · rw [u2r (by decide), u2r (by decide)]
      by_cases e : j = i + 1
      · subst e
        rw [e3 g hg]
        dsimp only
        rw [Bool.true_and, Rq_A]
      · rw [e2 89 _ (by unfold sGb; rw [decide_eq_false (by omega), Bool.false_and]; rfl)]
        exact hA1 j (by omega) g hg
    · rw [u2r (by decide), u2r (by decide), e2 89 _ (by unfold sGb; rw [decide_eq_false (by omega : ¬ 22 * j + g < 22 * i + 44), Bool.and_false]; rfl)]
      exact h01 j (by omega) g2 g hg
  | succ k ih =>
    intro w b f hk h hf
    obtain ⟨f', rfl⟩ : ∃ f', f = f' + 1 := ⟨f - 1, by omega⟩
    have h' := h
    obtain ⟨hR, h63, h87, hA, h0⟩ := h
    have hy := hR.1.sy
    obtain ⟨⟨r1, r2, r3, _, _⟩, hn⟩ := Rq_i hy hV i (by omega)
    obtain ⟨w1, w2, w3⟩ := hn hi
    have hl : (Rq (syB G c Ln D) M Ln i).2.1 < M ∨ ((Rq (syB G c Ln D) M Ln i).2.1 = 4 ∧ (Rq (syB G c Ln D) M Ln i).1 = 0) := by
      rcases r3 with z | z
      · exact Or.inr ⟨z.2.1, z.2.2⟩
      · exact Or.inl z.2.1
    have h16 := rsm16 hy 0
    have hM := hR.1.1.2.1
    obtain ⟨b1, d1, d2, d3⟩ := goesBy_s (w := w) (kp := false) (by omega) r1 hl (by omega) hR h63 (hA i (Nat.le_refl _)) (h0 (i + 1) (by omega) (by omega))
    have hW1 : WhI b1 G M c Ln D i := h'.fr d2 (fun g hg => by rw [d3 g hg]; rfl)
    obtain ⟨b', e1, e2, e3⟩ := ih (w + 1) b1 f' (by omega) hW1 (by omega)
    refine ⟨b', ?_, (sGb_Wh d2).trans e2, e3⟩
    show LB_X12_findsWho_49 K (L_X12_findsWho_49 K f') _ _ _ _ = _
    unfold LB_X12_findsWho_49
    rw [w3 w (by omega)] at d1
    rw [show (0 : Int) = b01 false from rfl, d1, cll_s, if_neg (by decide), nmv_s, wr_s (by omega), ← e1]
    rfl
theorem fw39 {G : Tg} {M : Nat} {c : Nat → Int} {Ln : Nat → Nat} {D : Nat → Int} (hV : VV (syB G c Ln D) M Ln 0 4 21 < 1000000000) : ∀ (k i : Nat) (b : Mm) (f : Nat), i + k = rsm Ln 0 M 0 → WhI b G M c Ln D i → k < f → ∃ b', L_X12_findsWho_39 f ((Rq (syB G c Ln D) M Ln i).1 : Int) ((Rq (syB G c Ln D) M Ln i).2.1 : Int) b = some (0, b') ∧ Fr sWh b b' ∧ WhI b' G M c Ln D (rsm Ln 0 M 0) := by
  intro k
  induction k with
  | zero =>
    intro i b f hi h hf
    obtain ⟨f', rfl⟩ : ∃ f', f = f' + 1 := ⟨f - 1, by omega⟩
    have hy := h.1.1.sy
    obtain ⟨⟨r1, r2, _, _, _⟩, _⟩ := Rq_i hy hV i (by omega)
    have e : i = rsm Ln 0 M 0 := by omega
    refine ⟨b, ?_, Fr.refl _ _, e ▸ h⟩
    show LB_X12_findsWho_39 (L_X12_findsWho_39 f') _ _ _ = _
    unfold LB_X12_findsWho_39
    rw [isDone_s r1.1 h.1.1.1 h.1.1.2.1, cll_s, (rsm_d hy r1).mpr (by omega), if_pos (by decide)]
  | succ k ih =>
    intro i b f hi h hf
    obtain ⟨f', rfl⟩ : ∃ f', f = f' + 1 := ⟨f - 1, by omega⟩
    have hy := h.1.1.sy
    obtain ⟨⟨r1, r2, _, _, _⟩, hn⟩ := Rq_i hy hV i (by omega)
    have hw4 := (hn (by omega)).1
    have hM := h.1.1.1.2.1
    obtain ⟨b1, d1, d2, d3⟩ := fw49 (K := L_X12_findsWho_39 f') hV (by omega : i < rsm Ln 0 M 0) (wqN (syB G c Ln D) M Ln i) 0 b 100000 (by omega) h (by omega)
    obtain ⟨b', e1, e2, e3⟩ := ih (i + 1) b1 f' (by omega) d3 (by omega)
    refine ⟨b', ?_, d2.trans e2, e3⟩
    have hd : dnB Ln (Rq (syB G c Ln D) M Ln i).1 M 0 = false := by
      cases hd : dnB Ln (Rq (syB G c Ln D) M Ln i).1 M 0 with
      | false => rfl
      | true => rw [rsm_d hy r1] at hd; omega
    show LB_X12_findsWho_39 (L_X12_findsWho_39 f') _ _ _ = _
    unfold LB_X12_findsWho_39
    rw [isDone_s r1.1 h.1.1.1 h.1.1.2.1, cll_s, hd, if_neg (by decide), nmv_s, ← e1]
    exact d1
theorem fw2 {G : Tg} {M : Nat} {c : Nat → Int} {Ln : Nat → Nat} {D : Nat → Int} : ∀ (k i : Nat) (b : Mm) (f : Nat), i + k = 374 → RF b G M c Ln D → (∀ j, j < i → b 89 j = 0) → k < f → ∃ b', L_X12_findsWho_2 f (i : Int) b = L_X12_findsWho_39 100000 0 4 b' ∧ Fr sWh b b' ∧ WhI b' G M c Ln D 0 := by
  intro k
  induction k with
  | zero =>
    intro i b f hi hR h0 hf
    obtain ⟨f', rfl⟩ : ∃ f', f = f' + 1 := ⟨f - 1, by omega⟩
    have hfa : Fr sWh b (upd2 (upd2 b 89 21 1) 54 63 0) := ((Fr.refl _ _).upd _ rfl).upd _ rfl
    refine ⟨upd2 (upd2 b 89 21 1) 54 63 0, ?_, hfa, hR.fr hfa, ?_, fun j hj => by omega, fun j hj g hg => ?_, fun j g1 g2 g hg => ?_⟩
    · show LB_X12_findsWho_2 (L_X12_findsWho_2 f') _ _ = _
      unfold LB_X12_findsWho_2
      rw [if_pos (by omega), ast_s (by decide), nmv_s, nmv_s, stf_s]
      rfl
    · rw [u2s]; rfl
    · have e : j = 0 := by omega
      subst e
      rw [u2r (by decide), Rq_0]
      by_cases e : g = 21
      · subst e; rw [show 22 * 0 + 21 = 21 from rfl, u2s]; rfl
      · rw [u2n (by omega), h0 _ (by omega)]
        show 0 = b01 (g == 21)
        rw [show (g == 21) = false from beq_eq_false_iff_ne.mpr e]
        rfl
    · rw [u2r (by decide), u2n (by omega), h0 _ (by omega)]
      rfl
  | succ k ih =>
    intro i b f hi hR h0 hf
    obtain ⟨f', rfl⟩ : ∃ f', f = f' + 1 := ⟨f - 1, by omega⟩
    have hfa : Fr sWh b (upd2 b 89 i 0) := (Fr.refl _ _).upd _ rfl
    obtain ⟨b', e1, e2, e3⟩ := ih (i + 1) (upd2 b 89 i 0) f' (by omega) (hR.fr hfa) (fun j hj => by
      by_cases e : j = i
      · subst e; rw [u2s]
      · rw [u2n e]; exact h0 j (by omega)) (by omega)
    refine ⟨b', ?_, hfa.trans e2, e3⟩
    show LB_X12_findsWho_2 (L_X12_findsWho_2 f') _ _ = _
    unfold LB_X12_findsWho_2
    rw [if_neg (by omega), ast_s (by omega), nmv_s, wr_s (by omega), Int.toNat_natCast, ← e1]
    rfl
theorem findsWho_s {G : Tg} {M : Nat} {c : Nat → Int} {Ln : Nat → Nat} {D : Nat → Int} {b : Mm} (hV : VV (syB G c Ln D) M Ln 0 4 21 < 1000000000) (hR : RF b G M c Ln D) : ∃ b', F_X12_findsWho b = some (0, b') ∧ Fr sWh b b' ∧ WhI b' G M c Ln D (rsm Ln 0 M 0) := by
  obtain ⟨b1, d1, d2, d3⟩ := fw2 374 0 b 100000 rfl hR (fun j hj => by omega) (by decide)
  have h16 := rsm16 hR.1.sy 0
  obtain ⟨b2, e1, e2, e3⟩ := fw39 hV (rsm Ln 0 M 0) 0 b1 100000 (by omega) d3 (by omega)
  refine ⟨b2, ?_, d2.trans e2, e3⟩
  unfold F_X12_findsWho
  rw [nmv_s, show (0 : Int) = ((0 : Nat) : Int) from rfl, d1]
  exact e1

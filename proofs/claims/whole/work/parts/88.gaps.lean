/-! the reference finds the gaps -/
/-- who has been found is known -/
def WhG (b : Mm) (G : Tg) (M : Nat) (c : Nat → Int) (Ln : Nat → Nat) (D : Nat → Int) : Prop := RF b G M c Ln D ∧ b 54 63 = (rsm Ln 0 M 0 : Int) ∧ ∀ j, j < rsm Ln 0 M 0 → b 87 j = (wqN (syB G c Ln D) M Ln j : Int)
def sGa (k _ : Nat) : Bool := k == 88 || k == 89
theorem sGa_Wh {b b' : Mm} (h : Fr sGa b b') : Fr sWh b b' := h.mono fun k i e => by
  unfold sWh at e
  unfold sGa
  simp only [Bool.or_eq_false_iff] at e ⊢
  exact ⟨e.1.1.2, e.1.2⟩
theorem WhG.fr {b b' : Mm} {G : Tg} {M : Nat} {c : Nat → Int} {Ln : Nat → Nat} {D : Nat → Int} (h : WhG b G M c Ln D) (f : Fr sGa b b') : WhG b' G M c Ln D := by
  refine ⟨h.1.fr (sGa_Wh f), (f 54 63 rfl).trans h.2.1, fun j hj => ?_⟩
  rw [f 87 j rfl]
  exact h.2.2 j hj
theorem stA_l {b : Mm} {G : Tg} {M : Nat} {c : Nat → Int} {Ln : Nat → Nat} {D : Nat → Int} (hV : VV (syB G c Ln D) M Ln 0 4 21 < 1000000000) (h : WhG b G M c Ln D) {n : Nat} (hn : n ≤ rsm Ln 0 M 0) : ∀ (k i f : Nat), i + k = n → k < f → L_X12_stateAfter_4 f (n : Int) ((Rq (syB G c Ln D) M Ln i).1 : Int) (i : Int) b = some (((Rq (syB G c Ln D) M Ln n).1 : Int), b) := by
  have hy := h.1.1.sy
  have h16 := rsm16 hy 0
  have hM := h.1.1.1.2.1
  intro k
  induction k with
  | zero =>
    intro i f hi hf
    obtain ⟨f', rfl⟩ : ∃ f', f = f' + 1 := ⟨f - 1, by omega⟩
    have e : i = n := by omega
    subst e
    show LB_X12_stateAfter_4 (L_X12_stateAfter_4 f') _ _ _ _ = _
    unfold LB_X12_stateAfter_4
    rw [if_pos (Int.le_refl _)]
  | succ k ih =>
    intro i f hi hf
    obtain ⟨f', rfl⟩ : ∃ f', f = f' + 1 := ⟨f - 1, by omega⟩
    have w1 := ((Rq_i hy hV i (by omega)).2 (by omega)).1
    have hst := (Rq_i hy hV (i + 1) (by omega)).1.1.1
    rw [Rq_st] at hst
    show LB_X12_stateAfter_4 (L_X12_stateAfter_4 f') _ _ _ _ = _
    unfold LB_X12_stateAfter_4
    rw [if_neg (by omega), ald_s (by omega), Int.toNat_natCast, h.2.2 i (by omega), fives_s (by omega), cll_s, nmv_s, nmv_s, wr_s (x := ((Rq (syB G c Ln D) M Ln i).1 : Int) + (fiv (wqN (syB G c Ln D) M Ln i) : Int)) (by omega), wr_s (x := (i : Int) + 1) (by omega)]
    have := ih (i + 1) f' (by omega) (by omega)
    rw [Rq_st] at this
    exact this
theorem follows_s {b : Mm} {G : Tg} {M : Nat} {c : Nat → Int} {Ln : Nat → Nat} {D : Nat → Int} (hV : VV (syB G c Ln D) M Ln 0 4 21 < 1000000000) (h : WhG b G M c Ln D) {i p g : Nat} (hi : i < rsm Ln 0 M 0) (hp : 1 ≤ p ∧ p < 22) (hg : 1 ≤ g ∧ g < 22) : F_X12_follows (i : Int) (p : Int) (g : Int) b = some (b01 (tT (syB G c Ln D) M Ln (Rq (syB G c Ln D) M Ln i).1 (Rq (syB G c Ln D) M Ln i).2.1 p (wqN (syB G c Ln D) M Ln i) g), b) := by
  have hy := h.1.1.sy
  have h16 := rsm16 hy 0
  have hM := h.1.1.1.2.1
  obtain ⟨⟨r1, r2, r3, _, _⟩, hn⟩ := Rq_i hy hV i (by omega)
  have hw := (hn hi).1
  have hl : (Rq (syB G c Ln D) M Ln i).2.1 < M ∨ ((Rq (syB G c Ln D) M Ln i).2.1 = 4 ∧ (Rq (syB G c Ln D) M Ln i).1 = 0) := by
    rcases r3 with z | z
    · exact Or.inr ⟨z.2.1, z.2.2⟩
    · exact Or.inl z.2.1
  have hsa : F_X12_stateAfter (i : Int) b = some (((Rq (syB G c Ln D) M Ln i).1 : Int), b) := by
    unfold F_X12_stateAfter
    rw [nmv_s, nmv_s]
    have := stA_l hV h (by omega : i ≤ rsm Ln 0 M 0) i 0 100000 (by omega) (by omega)
    rw [Rq_0] at this
    exact this
  have hj : F_X12_follows (i : Int) (p : Int) (g : Int) b = J_X12_follows_25 (i : Int) (p : Int) (g : Int) ((Rq (syB G c Ln D) M Ln i).1 : Int) ((Rq (syB G c Ln D) M Ln i).2.1 : Int) b := by
    unfold F_X12_follows
    rw [hsa, cll_s, nmv_s]
    by_cases h0 : i = 0
    · subst h0
      rw [if_neg (by decide), nmv_s, Rq_0]
      rfl
    · rw [if_pos (by omega), ald_s (by rw [wr_s (by omega)]; omega), nmv_s, wr_s (by omega), show ((i : Int) - 1).toNat = i - 1 by omega, h.2.2 (i - 1) (by omega), ← Rq_l, show i - 1 + 1 = i by omega]
  rw [hj]
  have hR := h.1
  generalize hst : (Rq (syB G c Ln D) M Ln i).1 = st at *
  generalize hll : (Rq (syB G c Ln D) M Ln i).2.1 = l at *
  generalize hww : wqN (syB G c Ln D) M Ln i = w at *
  have h87 : b 87 i = (w : Int) := by rw [h.2.2 i hi, hww]
  have hsy := says_s (st := st) r1.1 hR.1.1 hR.1.2.1 hR.1.2.2.1 (⟨hw, hg, by omega, hp⟩ : okM M w g l p)
  rw [hR.1.2.2.2] at hsy
  unfold J_X12_follows_25
  rw [ald_s (by omega), Int.toNat_natCast, h87, hsy, cll_s]
  cases hs : syB G c Ln D st l p w g with
  | false =>
    rw [show b01 false = 0 from rfl, if_neg (by decide)]
    cases ht : tT (syB G c Ln D) M Ln st l p w g with
    | false => rfl
    | true => rw [(tT_iff.mp ht).1] at hs; exact (nomatch hs)
  | true =>
    obtain ⟨N1, N2, n1, n2, n3, n4, n5, n6⟩ := tfc hR r1 hl hp hw hg hs
    rw [show b01 true = 1 from rfl, if_pos (by decide), ald_s (by omega), Int.toNat_natCast, h87, fives_s (by omega), cll_s, ald_s (by omega), Int.toNat_natCast, h87, n1, cll_s, ald_s (by omega), nmv_s, Int.toNat_natCast, n3]
    have hVc := Vc_in hy st w g
    by_cases hc : (1000000000 : Int) ≤ Vc (syB G c Ln D) M Ln st w g
    · rw [if_pos hc]
      cases ht : tT (syB G c Ln D) M Ln st l p w g with
      | false => rfl
      | true => have := (tT_iff.mp ht).2.1; omega
    · rw [if_neg hc, costOf_s, cll_s, n4, cll_s, ald_s (by omega), Int.toNat_natCast, n6]
      have hcost : 0 ≤ (if g = 21 then (0 : Int) else (g : Int)) ∧ (if g = 21 then (0 : Int) else (g : Int)) ≤ 22 := by split <;> omega
      rw [wr_s (by omega)]
      by_cases he : (if g = 21 then (0 : Int) else (g : Int)) + Vc (syB G c Ln D) M Ln st w g = VV (syB G c Ln D) M Ln st l p
      · rw [if_neg (fun z => z he), (tT_iff.mpr ⟨hs, by omega, he⟩ : tT (syB G c Ln D) M Ln st l p w g = true)]
        rfl
      · rw [if_pos he]
        cases ht : tT (syB G c Ln D) M Ln st l p w g with
        | false => rfl
        | true => exact absurd (tT_iff.mp ht).2.2 he
/-- one gap's going on -/
def goB (sy : Syf) (M : Nat) (Ln : Nat → Nat) (i p g : Nat) : Bool := Bk sy M Ln (rsm Ln 0 M 0 - (i + 1)) (i + 1) g && tT sy M Ln (Rq sy M Ln i).1 (Rq sy M Ln i).2.1 p (wqN sy M Ln i) g
theorem fg24 {K7 : Int → Mm → Rs} {K13 : Int → Int → Mm → Rs} {b : Mm} {G : Tg} {M : Nat} {c : Nat → Int} {Ln : Nat → Nat} {D : Nat → Int} (hV : VV (syB G c Ln D) M Ln 0 4 21 < 1000000000) (h : WhG b G M c Ln D) {i p : Nat} (hi : i < rsm Ln 0 M 0) (hp : 1 ≤ p ∧ p < 22) (hA : b 89 (22 * i + p) = 1) (hB : MgR b (i + 1) (Bk (syB G c Ln D) M Ln (rsm Ln 0 M 0 - (i + 1)) (i + 1))) : ∀ (k g : Nat) (any : Bool) (f : Nat), g + k = 21 → 1 ≤ g → k < f → L_X12_findsGaps_24 K7 K13 f (i : Int) (p : Int) (b01 any) (g : Int) b = J_X12_findsGaps_90 K7 K13 (i : Int) (p : Int) (b01 (any || exB (goB (syB G c Ln D) M Ln i p) k g)) b := by
  have hy := h.1.1.sy
  have h16 := rsm16 hy 0
  intro k
  induction k with
  | zero =>
    intro g any f hg h1 hf
    obtain ⟨f', rfl⟩ : ∃ f', f = f' + 1 := ⟨f - 1, by omega⟩
    show LB_X12_findsGaps_24 K7 K13 (L_X12_findsGaps_24 K7 K13 f') _ _ _ _ _ = _
    unfold LB_X12_findsGaps_24 exB
    rw [if_pos (by omega), Bool.or_false]
  | succ k ih =>
    intro g any f hg h1 hf
    obtain ⟨f', rfl⟩ : ∃ f', f = f' + 1 := ⟨f - 1, by omega⟩
    have hnx : ∀ v : Bool, v = (any || goB (syB G c Ln D) M Ln i p g) → J_X12_findsGaps_84 K7 K13 (L_X12_findsGaps_24 K7 K13 f') (i : Int) (p : Int) (b01 v) (g : Int) b = J_X12_findsGaps_90 K7 K13 (i : Int) (p : Int) (b01 (any || exB (goB (syB G c Ln D) M Ln i p) (k + 1) g)) b := by
      intro v hv
      unfold J_X12_findsGaps_84
      rw [nmv_s, wr_s (by omega)]
      have := ih (g + 1) v f' (by omega) (by omega) (by omega)
      rw [show exB (goB (syB G c Ln D) M Ln i p) (k + 1) g = (goB (syB G c Ln D) M Ln i p g || exB (goB (syB G c Ln D) M Ln i p) k (g + 1)) from rfl, ← Bool.or_assoc, ← hv]
      exact this
    show LB_X12_findsGaps_24 K7 K13 (L_X12_findsGaps_24 K7 K13 f') _ _ _ _ _ = _
    unfold LB_X12_findsGaps_24
    rw [if_neg (by omega), wr_s (x := 22 * (i : Int)) (by omega), wr_s (x := 22 * (i : Int) + (p : Int)) (by omega), ald_s (by omega), show (22 * (i : Int) + (p : Int)).toNat = 22 * i + p by omega, hA, if_neg (by decide)]
    unfold J_X12_findsGaps_78 J_X12_findsGaps_82
    cases any with
    | true =>
      rw [if_pos (by decide), nmv_s]
      exact hnx true rfl
    | false =>
      have hb := hB g (by omega)
      rw [if_neg (by decide), wr_s (x := 22 * (i : Int) + 22) (by omega), wr_s (x := 22 * (i : Int) + 22 + (g : Int)) (by omega), ald_s (by omega), show (22 * (i : Int) + 22 + (g : Int)).toNat = 22 * (i + 1) + g by omega, hb]
      cases hBk : Bk (syB G c Ln D) M Ln (rsm Ln 0 M 0 - (i + 1)) (i + 1) g with
      | false =>
        rw [show b01 false = 0 from rfl, if_pos rfl, nmv_s]
        exact hnx false (by unfold goB; rw [hBk]; rfl)
      | true =>
        rw [show b01 true = 1 from rfl, if_neg (by decide), follows_s hV h hi hp ⟨h1, by omega⟩, cll_s]
        cases ht : tT (syB G c Ln D) M Ln (Rq (syB G c Ln D) M Ln i).1 (Rq (syB G c Ln D) M Ln i).2.1 p (wqN (syB G c Ln D) M Ln i) g with
        | false =>
          rw [show b01 false = 0 from rfl, if_pos rfl, nmv_s]
          exact hnx false (by unfold goB; rw [ht, Bool.and_false]; rfl)
        | true =>
          rw [show b01 true = 1 from rfl, if_neg (by decide), nmv_s]
          exact hnx true (by unfold goB; rw [ht, hBk]; rfl)
def s89 (i k j : Nat) : Bool := k == 89 && (decide (22 * i ≤ j) && decide (j < 22 * i + 22))
theorem s89_Ga {i : Nat} {b b' : Mm} (h : Fr (s89 i) b b') : Fr sGa b b' := h.mono fun k j e => by
  cases hk : s89 i k j with
  | false => rfl
  | true =>
    unfold s89 at hk
    rw [Bool.and_eq_true] at hk
    unfold sGa at e
    rw [hk.1, Bool.or_true] at e
    exact (nomatch e)
theorem fg13 {K7 : Int → Mm → Rs} {G : Tg} {M : Nat} {c : Nat → Int} {Ln : Nat → Nat} {D : Nat → Int} (hV : VV (syB G c Ln D) M Ln 0 4 21 < 1000000000) {i : Nat} (hi : i < rsm Ln 0 M 0) : ∀ (k p : Nat) (b : Mm) (f : Nat), p + k = 22 → 1 ≤ p → WhG b G M c Ln D → (∀ q, q < 22 → b 89 (22 * i + q) = b01 (if q < p then Bk (syB G c Ln D) M Ln (rsm Ln 0 M 0 - i) i q else (Rq (syB G c Ln D) M Ln i).2.2 q)) → MgR b (i + 1) (Bk (syB G c Ln D) M Ln (rsm Ln 0 M 0 - (i + 1)) (i + 1)) → k < f → ∃ b', L_X12_findsGaps_13 K7 f (i : Int) (p : Int) b = K7 ((i : Int) - 1) b' ∧ Fr (s89 i) b b' ∧ MgR b' i (Bk (syB G c Ln D) M Ln (rsm Ln 0 M 0 - i) i) := by
  intro k
  induction k with
  | zero =>
    intro p b f hp h1 h hA hB hf
    obtain ⟨f', rfl⟩ : ∃ f', f = f' + 1 := ⟨f - 1, by omega⟩
    have h16 := rsm16 h.1.1.sy 0
    refine ⟨b, ?_, Fr.refl _ _, fun q hq => ?_⟩
    · show LB_X12_findsGaps_13 K7 (L_X12_findsGaps_13 K7 f') _ _ _ = _
      unfold LB_X12_findsGaps_13
      rw [if_pos (by omega), nmv_s, wr_s (by omega)]
      rfl
    · rw [hA q hq, if_pos (by omega)]
  | succ k ih =>
    intro p b f hp h1 h hA hB hf
    obtain ⟨f', rfl⟩ : ∃ f', f = f' + 1 := ⟨f - 1, by omega⟩
    have h16 := rsm16 h.1.1.sy 0
    obtain ⟨n, hn⟩ : ∃ n, rsm Ln 0 M 0 - i = n + 1 := ⟨rsm Ln 0 M 0 - i - 1, by omega⟩
    have hn1 : rsm Ln 0 M 0 - (i + 1) = n := by omega
    have hf0 : ∀ v, Fr (s89 i) b (upd2 b 89 (22 * i + p) v) := fun v => (Fr.refl _ _).upd v (by
      unfold s89
      rw [decide_eq_true (by omega), decide_eq_true (by omega)]
      rfl)
    have hnx : ∀ v : Bool, v = Bk (syB G c Ln D) M Ln (rsm Ln 0 M 0 - i) i p → ∃ b', J_X12_findsGaps_90 K7 (L_X12_findsGaps_13 K7 f') (i : Int) (p : Int) (b01 v) b = K7 ((i : Int) - 1) b' ∧ Fr (s89 i) b b' ∧ MgR b' i (Bk (syB G c Ln D) M Ln (rsm Ln 0 M 0 - i) i) := by
      intro v hv
      obtain ⟨b', e1, e2, e3⟩ := ih (p + 1) (upd2 b 89 (22 * i + p) (b01 v)) f' (by omega) (by omega) (h.fr (s89_Ga (hf0 _))) (fun q hq => by
        by_cases e : q = p
        · subst e
          rw [u2s, if_pos (by omega), hv]
        · rw [u2n (by omega), hA q hq]
          by_cases c1 : q < p
          · rw [if_pos c1, if_pos (by omega)]
          · rw [if_neg c1, if_neg (by omega)]) (fun q hq => by
        rw [u2n (by omega)]
        exact hB q hq) (by omega)
      refine ⟨b', ?_, (hf0 _).trans e2, e3⟩
      unfold J_X12_findsGaps_90
      rw [wr_s (x := 22 * (i : Int)) (by omega), wr_s (x := 22 * (i : Int) + (p : Int)) (by omega), ast_s (by omega), nmv_s, wr_s (by omega), show (22 * (i : Int) + (p : Int)).toNat = 22 * i + p by omega]
      exact e1
    have hAp := hA p (by omega)
    rw [if_neg (by omega)] at hAp
    show ∃ b', LB_X12_findsGaps_13 K7 (L_X12_findsGaps_13 K7 f') _ _ _ = _ ∧ _
    unfold LB_X12_findsGaps_13
    rw [if_neg (by omega), nmv_s, nmv_s]
    cases hAA : (Rq (syB G c Ln D) M Ln i).2.2 p with
    | false =>
      rw [hAA] at hAp
      have hstp : L_X12_findsGaps_24 K7 (L_X12_findsGaps_13 K7 f') 100000 (i : Int) (p : Int) 0 1 b = J_X12_findsGaps_90 K7 (L_X12_findsGaps_13 K7 f') (i : Int) (p : Int) 0 b := by
        rw [show (100000 : Nat) = 99999 + 1 from rfl]
        show LB_X12_findsGaps_24 K7 (L_X12_findsGaps_13 K7 f') (L_X12_findsGaps_24 K7 (L_X12_findsGaps_13 K7 f') 99999) _ _ _ _ _ = _
        unfold LB_X12_findsGaps_24
        rw [if_neg (by decide), wr_s (x := 22 * (i : Int)) (by omega), wr_s (x := 22 * (i : Int) + (p : Int)) (by omega), ald_s (by omega), show (22 * (i : Int) + (p : Int)).toNat = 22 * i + p by omega, hAp, show b01 false = 0 from rfl, if_pos rfl]
      rw [hstp]
      refine hnx false ?_
      cases hb : Bk (syB G c Ln D) M Ln (rsm Ln 0 M 0 - i) i p with
      | false => rfl
      | true => rw [Bk_A hb] at hAA; exact hAA.symm
    | true =>
      rw [hAA] at hAp
      have h24 := fg24 (K7 := K7) (K13 := L_X12_findsGaps_13 K7 f') hV h hi ⟨h1, by omega⟩ hAp hB 20 1 false 100000 rfl (by decide) (by decide)
      rw [show (0 : Int) = b01 false from rfl, show (1 : Int) = ((1 : Nat) : Int) from rfl, h24, Bool.false_or]
      refine hnx _ ?_
      rw [hn]
      show _ = ((Rq (syB G c Ln D) M Ln i).2.2 p && exB (fun g => Bk (syB G c Ln D) M Ln n (i + 1) g && tT (syB G c Ln D) M Ln (Rq (syB G c Ln D) M Ln i).1 (Rq (syB G c Ln D) M Ln i).2.1 p (wqN (syB G c Ln D) M Ln i) g) 20 1)
      rw [hAA, Bool.true_and]
      unfold goB
      rw [hn1]
/-- rows above i are thinned out -/
def GaI (b : Mm) (G : Tg) (M : Nat) (c : Nat → Int) (Ln : Nat → Nat) (D : Nat → Int) (i : Nat) : Prop := WhG b G M c Ln D ∧ (∀ j, j ≤ i → MgR b j (Rq (syB G c Ln D) M Ln j).2.2) ∧ ∀ j, i < j → j ≤ rsm Ln 0 M 0 → MgR b j (Bk (syB G c Ln D) M Ln (rsm Ln 0 M 0 - j) j)
theorem fg7 {G : Tg} {M : Nat} {c : Nat → Int} {Ln : Nat → Nat} {D : Nat → Int} (hV : VV (syB G c Ln D) M Ln 0 4 21 < 1000000000) : ∀ (i : Nat) (b : Mm) (f : Nat), i < rsm Ln 0 M 0 → GaI b G M c Ln D i → i < f → ∃ b', L_X12_findsGaps_7 f (i : Int) b = L_X12_findsGaps_119 100000 21 0 b' ∧ Fr sGa b b' ∧ GaI b' G M c Ln D 0 := by
  intro i
  induction i with
  | zero =>
    intro b f hi h hf
    obtain ⟨f', rfl⟩ : ∃ f', f = f' + 1 := ⟨f - 1, by omega⟩
    refine ⟨b, ?_, Fr.refl _ _, h⟩
    show LB_X12_findsGaps_7 (L_X12_findsGaps_7 f') _ _ = _
    unfold LB_X12_findsGaps_7
    rw [if_pos (by decide), nmv_s, nmv_s]
  | succ i ih =>
    intro b f hi h hf
    obtain ⟨f', rfl⟩ : ∃ f', f = f' + 1 := ⟨f - 1, by omega⟩
    have h16 := rsm16 h.1.1.1.sy 0
    obtain ⟨hW, hA, hB⟩ := h
    have hz : Bk (syB G c Ln D) M Ln (rsm Ln 0 M 0 - (i + 1)) (i + 1) 0 = (Rq (syB G c Ln D) M Ln (i + 1)).2.2 0 := by
      have hR0 : (Rq (syB G c Ln D) M Ln (i + 1)).2.2 0 = false := by
        cases hh : (Rq (syB G c Ln D) M Ln (i + 1)).2.2 0 with
        | false => rfl
        | true => have := ((Rq_i hW.1.1.sy hV (i + 1) (by omega)).1.2.2.2.2 0 hh).1; omega
      rw [hR0]
      cases hb : Bk (syB G c Ln D) M Ln (rsm Ln 0 M 0 - (i + 1)) (i + 1) 0 with
      | false => rfl
      | true => rw [Bk_A hb] at hR0; exact hR0
    obtain ⟨b1, d1, d2, d3⟩ := fg13 (K7 := L_X12_findsGaps_7 f') hV (by omega : i + 1 < rsm Ln 0 M 0) 21 1 b 100000 rfl (by decide) hW (fun q hq => by
      rw [hA (i + 1) (Nat.le_refl _) q hq]
      by_cases e : q < 1
      · have e0 : q = 0 := by omega
        subst e0
        rw [if_pos e, hz]
      · rw [if_neg e]) (hB (i + 1 + 1) (by omega) (by omega)) (by decide)
    obtain ⟨b', e1, e2, e3⟩ := ih b1 f' (by omega) ⟨hW.fr (s89_Ga d2), fun j hj q hq => by
        rw [d2 89 _ (by unfold s89; rw [decide_eq_false (by omega), Bool.false_and]; rfl)]
        exact hA j (by omega) q hq, fun j g1 g2 => by
        by_cases e : j = i + 1
        · subst e; exact d3
        · intro q hq
          rw [d2 89 _ (by unfold s89; rw [decide_eq_false (by omega : ¬ 22 * j + q < 22 * (i + 1) + 22), Bool.and_false]; rfl)]
          exact hB j (by omega) g2 q hq⟩ (by omega)
    refine ⟨b', ?_, (s89_Ga d2).trans e2, e3⟩
    show LB_X12_findsGaps_7 (L_X12_findsGaps_7 f') _ _ = _
    unfold LB_X12_findsGaps_7
    rw [if_neg (by omega), nmv_s, ← e1, show (1 : Int) = ((1 : Nat) : Int) from rfl, d1]
    rw [show ((i + 1 : Nat) : Int) - 1 = (i : Int) by omega]
theorem fg138 {K : Int → Int → Mm → Rs} {b : Mm} {G : Tg} {M : Nat} {c : Nat → Int} {Ln : Nat → Nat} {D : Nat → Int} (hV : VV (syB G c Ln D) M Ln 0 4 21 < 1000000000) (h : WhG b G M c Ln D) {i p : Nat} (hi : i < rsm Ln 0 M 0) (hp : 1 ≤ p ∧ p < 22) (hB : MgR b (i + 1) (Bk (syB G c Ln D) M Ln (rsm Ln 0 M 0 - (i + 1)) (i + 1))) {gg : Nat} (hgg : gg < 22) (hg1 : goB (syB G c Ln D) M Ln i p gg = true) : ∀ (k g : Nat) (f : Nat), g + k = gg → 1 ≤ g → (∀ v, g ≤ v → v < gg → goB (syB G c Ln D) M Ln i p v = false) → k < f → L_X12_findsGaps_138 K f (p : Int) (i : Int) (g : Int) b = K (gg : Int) ((i + 1 : Nat) : Int) (upd2 b 88 i (gg : Int)) := by
  have hy := h.1.1.sy
  have h16 := rsm16 hy 0
  intro k
  induction k with
  | zero =>
    intro g f hg h1 hno hf
    obtain ⟨f', rfl⟩ : ∃ f', f = f' + 1 := ⟨f - 1, by omega⟩
    have e : g = gg := by omega
    subst e
    unfold goB at hg1
    rw [Bool.and_eq_true] at hg1
    show LB_X12_findsGaps_138 K (L_X12_findsGaps_138 K f') _ _ _ _ = _
    unfold LB_X12_findsGaps_138
    rw [wr_s (x := 22 * (i : Int)) (by omega), wr_s (x := 22 * (i : Int) + 22) (by omega), wr_s (x := 22 * (i : Int) + 22 + (g : Int)) (by omega), ald_s (by omega), show (22 * (i : Int) + 22 + (g : Int)).toNat = 22 * (i + 1) + g by omega, hB g hgg, hg1.1, if_neg (by decide), follows_s hV h hi hp ⟨h1, hgg⟩, cll_s, hg1.2, if_pos (by decide), ast_s (by omega), nmv_s, nmv_s, wr_s (by omega), Int.toNat_natCast]
    rfl
  | succ k ih =>
    intro g f hg h1 hno hf
    obtain ⟨f', rfl⟩ : ∃ f', f = f' + 1 := ⟨f - 1, by omega⟩
    have hn := hno g (Nat.le_refl _) (by omega)
    have hr : J_X12_findsGaps_165 K (L_X12_findsGaps_138 K f') (p : Int) (i : Int) (g : Int) b = K (gg : Int) ((i + 1 : Nat) : Int) (upd2 b 88 i (gg : Int)) := by
      unfold J_X12_findsGaps_165
      rw [nmv_s, wr_s (by omega)]
      exact ih (g + 1) f' (by omega) (by omega) (fun v g1 g2 => hno v (by omega) g2) (by omega)
    show LB_X12_findsGaps_138 K (L_X12_findsGaps_138 K f') _ _ _ _ = _
    unfold LB_X12_findsGaps_138
    rw [wr_s (x := 22 * (i : Int)) (by omega), wr_s (x := 22 * (i : Int) + 22) (by omega), wr_s (x := 22 * (i : Int) + 22 + (g : Int)) (by omega), ald_s (by omega), show (22 * (i : Int) + 22 + (g : Int)).toNat = 22 * (i + 1) + g by omega, hB g (by omega)]
    cases hb : Bk (syB G c Ln D) M Ln (rsm Ln 0 M 0 - (i + 1)) (i + 1) g with
    | false =>
      rw [show b01 false = 0 from rfl, if_pos rfl]
      exact hr
    | true =>
      unfold goB at hn
      rw [hb, Bool.true_and] at hn
      rw [show b01 true = 1 from rfl, if_neg (by decide), follows_s hV h hi hp ⟨h1, by omega⟩, cll_s, hn, if_neg (by decide)]
      exact hr
theorem fg119 {G : Tg} {M : Nat} {c : Nat → Int} {Ln : Nat → Nat} {D : Nat → Int} (hV : VV (syB G c Ln D) M Ln 0 4 21 < 1000000000) : ∀ (k i : Nat) (b : Mm) (f : Nat), i + k = rsm Ln 0 M 0 → GaI b G M c Ln D 0 → (∀ j, j < i → b 88 j = (gqN (syB G c Ln D) M Ln (rsm Ln 0 M 0) (j + 1) : Int)) → k < f → ∃ b', L_X12_findsGaps_119 f (gqN (syB G c Ln D) M Ln (rsm Ln 0 M 0) i : Int) (i : Int) b = some (0, b') ∧ Fr sGa b b' ∧ ∀ j, j < rsm Ln 0 M 0 → b' 88 j = (gqN (syB G c Ln D) M Ln (rsm Ln 0 M 0) (j + 1) : Int) := by
  intro k
  induction k with
  | zero =>
    intro i b f hi h h88 hf
    obtain ⟨f', rfl⟩ : ∃ f', f = f' + 1 := ⟨f - 1, by omega⟩
    refine ⟨b, ?_, Fr.refl _ _, fun j hj => h88 j (by omega)⟩
    show LB_X12_findsGaps_119 (L_X12_findsGaps_119 f') _ _ _ = _
    unfold LB_X12_findsGaps_119
    rw [if_pos (by rw [h.1.2.1]; omega)]
  | succ k ih =>
    intro i b f hi h h88 hf
    obtain ⟨f', rfl⟩ : ∃ f', f = f' + 1 := ⟨f - 1, by omega⟩
    have hy := h.1.1.1.sy
    have h16 := rsm16 hy 0
    obtain ⟨⟨q1, q2⟩, q3, q4⟩ := gqN_i hy hV i (by omega)
    have hB := h.2.2 (i + 1) (by omega) (by omega)
    have hpr : 1 ≤ gqN (syB G c Ln D) M Ln (rsm Ln 0 M 0) i ∧ gqN (syB G c Ln D) M Ln (rsm Ln 0 M 0) i < 22 := by
      cases i with
      | zero => exact ⟨by show 1 ≤ 21; decide, by show 21 < 22; decide⟩
      | succ j =>
        obtain ⟨⟨z1, z2⟩, _, _⟩ := gqN_i hy hV j (by omega)
        exact ((Rq_i hy hV (j + 1) (by omega)).1.2.2.2.2 _ (Bk_A z1)).1
    have hg1 : goB (syB G c Ln D) M Ln i (gqN (syB G c Ln D) M Ln (rsm Ln 0 M 0) i) (gqN (syB G c Ln D) M Ln (rsm Ln 0 M 0) (i + 1)) = true := by
      unfold goB
      rw [Bool.and_eq_true]
      exact ⟨q1, q2⟩
    have hgl : gqN (syB G c Ln D) M Ln (rsm Ln 0 M 0) (i + 1) < 22 := ((Rq_i hy hV (i + 1) (by omega)).1.2.2.2.2 _ (Bk_A q1)).1.2
    have hf0 : Fr sGa b (upd2 b 88 i (gqN (syB G c Ln D) M Ln (rsm Ln 0 M 0) (i + 1) : Int)) := (Fr.refl _ _).upd _ rfl
    obtain ⟨b', e1, e2, e3⟩ := ih (i + 1) (upd2 b 88 i (gqN (syB G c Ln D) M Ln (rsm Ln 0 M 0) (i + 1) : Int)) f' (by omega) ⟨h.1.fr hf0, fun j hj q hq => by rw [u2r (by decide)]; exact h.2.1 j hj q hq, fun j g1 g2 q hq => by rw [u2r (by decide)]; exact h.2.2 j g1 g2 q hq⟩ (fun j hj => by
      by_cases e : j = i
      · subst e; rw [u2s]
      · rw [u2n e]; exact h88 j (by omega)) (by omega)
    refine ⟨b', ?_, hf0.trans e2, e3⟩
    show LB_X12_findsGaps_119 (L_X12_findsGaps_119 f') _ _ _ = _
    unfold LB_X12_findsGaps_119
    rw [if_neg (by rw [h.1.2.1]; omega), ← e1]
    by_cases h0 : i = 0
    · rw [if_neg (by omega), nmv_s]
      have hge := q3 h0
      exact fg138 hV h.1 (by omega) hpr hB hgl hg1 0 21 100000 (by omega) (by decide) (fun v g1 g2 => by omega) (by decide)
    · obtain ⟨y1, y2, y3⟩ := q4 (by omega)
      rw [if_pos (by omega), nmv_s]
      exact fg138 hV h.1 (by omega) hpr hB hgl hg1 (gqN (syB G c Ln D) M Ln (rsm Ln 0 M 0) (i + 1) - 1) 1 100000 (by omega) (by decide) (fun v g1 g2 => y3 v g1 g2) (by omega)
theorem findsGaps_s {G : Tg} {M : Nat} {c : Nat → Int} {Ln : Nat → Nat} {D : Nat → Int} {b : Mm} (hV : VV (syB G c Ln D) M Ln 0 4 21 < 1000000000) (h0 : 0 < rsm Ln 0 M 0) (h : WhI b G M c Ln D (rsm Ln 0 M 0)) : ∃ b', F_X12_findsGaps b = some (0, b') ∧ Fr sGa b b' ∧ WhG b' G M c Ln D ∧ ∀ j, j < rsm Ln 0 M 0 → b' 88 j = (gqN (syB G c Ln D) M Ln (rsm Ln 0 M 0) (j + 1) : Int) := by
  obtain ⟨h1, h2, h3, h4, h5⟩ := h
  have h16 := rsm16 h1.1.sy 0
  have hW : WhG b G M c Ln D := ⟨h1, h2, h3⟩
  obtain ⟨b1, d1, d2, d3⟩ := fg7 hV (rsm Ln 0 M 0 - 1) b 100000 (by omega) ⟨hW, fun j hj => h4 j (by omega), fun j g1 g2 => by
    have e : j = rsm Ln 0 M 0 := by omega
    subst e
    intro q hq
    rw [Nat.sub_self, Bk_0]
    exact h4 _ (Nat.le_refl _) q hq⟩ (by omega)
  obtain ⟨b2, e1, e2, e3⟩ := fg119 hV (rsm Ln 0 M 0) 0 b1 100000 (by omega) d3 (fun j hj => by omega) (by omega)
  refine ⟨b2, ?_, d2.trans e2, hW.fr (d2.trans e2), e3⟩
  unfold F_X12_findsGaps
  rw [nmv_s, h2, wr_s (by omega), show (rsm Ln 0 M 0 : Int) - 1 = ((rsm Ln 0 M 0 - 1 : Nat) : Int) by omega, d1, ← e1]
  rfl

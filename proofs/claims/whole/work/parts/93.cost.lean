/-! the class's least breaths -/
def nd (M : Nat) : Nat := if M = 1 then 105 else if M = 2 then 1050 else if M = 3 then 7875 else if M = 4 then 52500 else 0
def KS (a : Mm) (sy : Syf) (Ln : Nat → Nat) (M d : Nat) : Prop := SyL sy M Ln ∧ a 43 11 = (M : Int) ∧ a 43 9 = (d : Int) ∧ isDI a d ∧ nd M ≤ lenA a d ∧ (∀ r, r < 84 → a 46 r = 0 ∨ a 46 r = 1) ∧ ∀ l g w st, l < M → g < 21 → a 46 (l * 21 + g) = 1 → w < M → isSt Ln M st → (dg st w < 4 → isB (a 45 (eX (l * 21 + g) w (dg st w))) (fun n => decide (1 ≤ n) && sy st l (pG g) w n)) ∧ ∀ n, 1 ≤ n → n < 21 → sy st l (pG g) w n = true → a 46 (w * 21 + n) = 1
def CI (a : Mm) (sy : Syf) (Ln : Nat → Nat) (M d : Nat) : Prop := ∀ st l g, 0 < st → isSt Ln M st → l < M → g < 21 → a 46 (l * 21 + g) = 1 → a d ((st * M + l) * 21 + g) = -1 ∨ a d ((st * M + l) * 21 + g) = min 1000000 (Vm sy M (rsm Ln st M 0) st l (pG g))
def sD (d k _ : Nat) : Bool := k == d
theorem sD_n {d k i : Nat} (h : k ≠ d) : sD d k i = false := beq_eq_false_iff_ne.mpr h
theorem isDI.ne {a : Mm} {d : Nat} (h : isDI a d) : d = 51 ∨ 95 ≤ d := by rcases h with h | h <;> omega
theorem KS.d {a : Mm} {sy : Syf} {Ln : Nat → Nat} {M d : Nat} (h : KS a sy Ln M d) : d = 51 ∨ 95 ≤ d := h.2.2.2.1.ne
/-- what KS looks at -/
theorem KS.same {a a' : Mm} {sy : Syf} {Ln : Nat → Nat} {M d : Nat} (h : KS a sy Ln M d) (h0 : a' 0 = a 0) (h11 : a' 43 11 = a 43 11) (h9 : a' 43 9 = a 43 9) (h45 : a' 45 = a 45) (h46 : a' 46 = a 46) : KS a' sy Ln M d := by
  obtain ⟨k1, k2, k3, k4, k5, k6, k7⟩ := h
  refine ⟨k1, h11.trans k2, h9.trans k3, ?_, ?_, ?_, ?_⟩
  · unfold isDI cntD; rw [h0]; exact k4
  · unfold lenA; rw [h0]; exact k5
  · rw [h46]; exact k6
  · rw [h45, h46]; exact k7
theorem KS.fr {a a' : Mm} {sy : Syf} {Ln : Nat → Nat} {M d : Nat} (h : KS a sy Ln M d) (f : Fr (sD d) a a') : KS a' sy Ln M d := by
  have hd := h.d
  exact h.same (f.row 0 fun _ => sD_n (by omega)) (f 43 11 (sD_n (by omega))) (f 43 9 (sD_n (by omega))) (f.row 45 fun _ => sD_n (by omega)) (f.row 46 fun _ => sD_n (by omega))
theorem isSt_nd {Ln : Nat → Nat} {M st l g : Nat} (h : isSt Ln M st) (hM : M ≤ 4) (hl : l < M) (hg : g < 21) : (st * M + l) * 21 + g < nd M ∧ wr ((wr ((wr ((wr ((st : Int) * (M : Int))) + (l : Int))) * 21)) + (g : Int)) = (((st * M + l) * 21 + g : Nat) : Int) := by
  obtain ⟨h1, h2⟩ := h
  have d1 := h2 1 (by decide)
  have d2 := h2 2 (by decide)
  have d3 := h2 3 (by decide)
  unfold dg at d1 d2 d3
  rw [show fiv 1 = 5 from rfl] at d1
  rw [show fiv 2 = 25 from rfl] at d2
  rw [show fiv 3 = 125 from rfl] at d3
  have hc : M = 1 ∨ M = 2 ∨ M = 3 ∨ M = 4 := by omega
  rcases hc with e | e | e | e <;> subst e
  · rw [if_neg (by decide)] at d1 d2 d3
    have h5 : st < 5 := by omega
    rw [wr_s (x := (st : Int) * ((1 : Nat) : Int)) (by omega), wr_s (x := (st : Int) * ((1 : Nat) : Int) + (l : Int)) (by omega), wr_s (x := ((st : Int) * ((1 : Nat) : Int) + (l : Int)) * 21) (by omega), wr_s (by omega)]
    exact ⟨by unfold nd; rw [if_pos rfl]; omega, by omega⟩
  · rw [if_neg (by decide)] at d2 d3
    have h5 : st < 25 := by omega
    rw [wr_s (x := (st : Int) * ((2 : Nat) : Int)) (by omega), wr_s (x := (st : Int) * ((2 : Nat) : Int) + (l : Int)) (by omega), wr_s (x := ((st : Int) * ((2 : Nat) : Int) + (l : Int)) * 21) (by omega), wr_s (by omega)]
    exact ⟨by show _ < 1050; omega, by omega⟩
  · rw [if_neg (by decide)] at d3
    have h5 : st < 125 := by omega
    rw [wr_s (x := (st : Int) * ((3 : Nat) : Int)) (by omega), wr_s (x := (st : Int) * ((3 : Nat) : Int) + (l : Int)) (by omega), wr_s (x := ((st : Int) * ((3 : Nat) : Int) + (l : Int)) * 21) (by omega), wr_s (by omega)]
    exact ⟨by show _ < 7875; omega, by omega⟩
  · rw [wr_s (x := (st : Int) * ((4 : Nat) : Int)) (by omega), wr_s (x := (st : Int) * ((4 : Nat) : Int) + (l : Int)) (by omega), wr_s (x := ((st : Int) * ((4 : Nat) : Int) + (l : Int)) * 21) (by omega), wr_s (by omega)]
    exact ⟨by show _ < 52500; omega, by omega⟩
theorem at_inj {M st l g st' l' g' : Nat} (hM : M ≤ 4) (hl : l < M) (hg : g < 21) (hl' : l' < M) (hg' : g' < 21) (h : (st * M + l) * 21 + g = (st' * M + l') * 21 + g') : st = st' ∧ l = l' ∧ g = g' := by
  have hc : M = 1 ∨ M = 2 ∨ M = 3 ∨ M = 4 := by omega
  rcases hc with e | e | e | e <;> subst e <;> omega
theorem oneF_s {w : Nat} (hw : w < 4) : oneF w = (fiv w : Int) := (by decide : ∀ w, w < 4 → oneF w = (fiv w : Int)) w hw
theorem onl_s {w : Nat} (hw : w < 4) {K : Int → Rs} : onl (w : Int) K = K (fiv w : Int) := by
  unfold onl
  rw [if_pos (by omega), Int.toNat_natCast, oneF_s hw]
theorem wordsOut_s {st w : Nat} (hst : st < 625) (hw : w < 4) (m : Mm) : F_X1_wordsOut (st : Int) (w : Int) m = some ((dg st w : Int), m) := by
  have hf : 0 < fiv w := fiv_pos w
  have h1 : ((st : Int).tdiv (fiv w : Int)) = ((st / fiv w : Nat) : Int) := by
    rw [tdiv_p (by omega)]
    first | rfl | exact (Int.natCast_ediv _ _).symm
  have h2 : st / fiv w ≤ st := Nat.div_le_self _ _
  have h5 : dg st w = st / fiv w % 5 := rfl
  unfold F_X1_wordsOut
  rw [if_neg (by omega), if_neg (by omega), onl_s hw, dvn_s (by omega), dvn_s (by decide), h1, h5]
  generalize st / fiv w = q at h2
  have h3 : ((q : Int).tmod 5) = ((q % 5 : Nat) : Int) := by
    rw [Int.tmod_eq_emod_of_nonneg (by omega)]
    first | rfl | exact (Int.natCast_emod _ _).symm
  rw [wr_s (x := (q : Int)) (by omega), h3, wr_s (by omega)]
theorem fitG_s {r w j : Nat} {l g : Nat} (hl : l < 4) (hg : g < 21) (hr : r = l * 21 + g) (hw : w < 4) (hj : j < 5) (m : Mm) : F_X1_fittingGaps (l : Int) (g : Int) (w : Int) (j : Int) m = some (if j < 4 then m 45 (eX r w j) else 0, m) := by
  unfold F_X1_fittingGaps
  rw [wr_s (x := (l : Int) * 21) (by omega), wr_s (x := (l : Int) * 21 + (g : Int)) (by omega), wr_s (x := ((l : Int) * 21 + (g : Int)) * 4) (by omega), wr_s (x := ((l : Int) * 21 + (g : Int)) * 4 + (w : Int)) (by omega), wr_s (x := (((l : Int) * 21 + (g : Int)) * 4 + (w : Int)) * 4) (by omega), wr_s (by omega), nmv_s, if_neg (by omega)]
  by_cases h : j < 4
  · rw [if_neg (by omega), if_neg (by omega), if_neg (by omega), ald_s (by omega), if_pos h]
    subst hr
    rw [show ((((l : Int) * 21 + (g : Int)) * 4 + (w : Int)) * 4 + (j : Int)).toNat = eX (l * 21 + g) w j by unfold eX; omega]
  · rw [if_pos (by omega), if_neg h]
/-- the gaps that fit, as bits -/
theorem fits_s {a : Mm} {sy : Syf} {Ln : Nat → Nat} {M d l g w st : Nat} (h : KS a sy Ln M d) (hl : l < M) (hg : g < 21) (hr : a 46 (l * 21 + g) = 1) (hw : w < M) (hst : isSt Ln M st) : ∃ v, F_X1_wordsOut (st : Int) (w : Int) a = some ((dg st w : Int), a) ∧ F_X1_fittingGaps (l : Int) (g : Int) (w : Int) (dg st w : Int) a = some (v, a) ∧ isB v (fun n => decide (1 ≤ n) && sy st l (pG g) w n) := by
  have hM := h.1.1.1
  refine ⟨_, wordsOut_s hst.1 (by omega) a, fitG_s (by omega) hg rfl (by omega) (dg_lt st w) a, ?_⟩
  have h1 := h.2.2.2.2.2.2 l g w st hl hg hr hw hst
  by_cases hd : dg st w < 4
  · rw [if_pos hd]; exact h1.1 hd
  · rw [if_neg hd]
    refine isB_0.cong fun n _ => ?_
    have h2 : sy st l (pG g) w n = false := by
      cases hs : sy st l (pG g) w n with
      | false => rfl
      | true =>
        have := h.1.2 st l (pG g) w n hw hs
        have := h.1.1.2 w hw
        omega
    rw [h2, Bool.and_false]
def CoH (sy : Syf) (Ln : Nat → Nat) (M d r : Nat) (fc : Int → Int → Int → Int → Mm → Rs) : Prop := ∀ (st l g : Nat) (a : Mm), rsm Ln st M 0 = r → 0 < st → isSt Ln M st → l < M → g < 21 → a 46 (l * 21 + g) = 1 → KS a sy Ln M d → CI a sy Ln M d → ∃ a', fc (st : Int) (l : Int) (g : Int) (r : Int) a = some (min 1000000 (Vm sy M r st l (pG g)), a') ∧ Fr (sD d) a a' ∧ CI a' sy Ln M d
theorem pG_n {n : Nat} (h : 1 ≤ n) : pG n = n := if_neg (by omega)
theorem c102 {fc : Int → Int → Int → Int → Mm → Rs} {K : Int → Int → Int → Int → Int → Int → Int → Mm → Rs} {sy : Syf} {Ln : Nat → Nat} {M d r st l g w : Nat} {fit at' : Int} (hF : CoH sy Ln M d r fc) (hr16 : r < 16) (hst : isSt Ln M st) (h0 : 0 < st) (hr : rsm Ln st M 0 = r + 1) (hl : l < M) (hg : g < 21) (hw : w < M) (hfit : isB fit (fun n => decide (1 ≤ n) && sy st l (pG g) w n)) : ∀ (k n : Nat) (acc : Int) (a : Mm) (f : Nat), n + k = 21 → 1 ≤ n → KS a sy Ln M d → CI a sy Ln M d → a 46 (l * 21 + g) = 1 → k < f → ∃ a', L_X1_cost_102 fc K f (st : Int) (l : Int) (g : Int) ((r + 1 : Nat) : Int) at' (min 1000000 acc) (w : Int) fit (n : Int) a = K (st : Int) (l : Int) (g : Int) ((r + 1 : Nat) : Int) at' (min 1000000 (mnF (fun g' => cdV (sy st l (pG g) w g') (g' : Int) (Vm sy M r (st + fiv w) w g')) k n acc)) ((w + 1 : Nat) : Int) a' ∧ Fr (sD d) a a' ∧ CI a' sy Ln M d := by
  intro k
  induction k with
  | zero =>
    intro n acc a f hn h1 hK hC h46 hf
    obtain ⟨f', rfl⟩ : ∃ f', f = f' + 1 := ⟨f - 1, by omega⟩
    have hM := hK.1.1.1
    refine ⟨a, ?_, Fr.refl _ _, hC⟩
    show LB_X1_cost_102 fc K (L_X1_cost_102 fc K f') _ _ _ _ _ _ _ _ _ _ = _
    unfold LB_X1_cost_102 J_X1_cost_167
    rw [if_pos (by omega), nmv_s, wr_s (by omega)]
    rfl
  | succ k ih =>
    intro n acc a f hn h1 hK hC h46 hf
    obtain ⟨f', rfl⟩ : ∃ f', f = f' + 1 := ⟨f - 1, by omega⟩
    have hM := hK.1.1.1
    show ∃ a', LB_X1_cost_102 fc K (L_X1_cost_102 fc K f') _ _ _ _ _ _ _ _ _ _ = _ ∧ _
    unfold LB_X1_cost_102
    rw [if_neg (by omega), wr_s (x := (n : Int) + ((r + 1 : Nat) : Int)) (by omega), wr_s (by omega)]
    by_cases hp : min 1000000 acc ≤ (n : Int) + ((r + 1 : Nat) : Int) - 1
    · rw [if_pos hp]
      unfold J_X1_cost_167
      rw [nmv_s, wr_s (by omega)]
      refine ⟨a, ?_, Fr.refl _ _, hC⟩
      have hmin : min 1000000 (mnF (fun g' => cdV (sy st l (pG g) w g') (g' : Int) (Vm sy M r (st + fiv w) w g')) (k + 1) n acc) = min 1000000 acc := by
        have q1 := (mnF_le (f := fun g' => cdV (sy st l (pG g) w g') (g' : Int) (Vm sy M r (st + fiv w) w g')) (k + 1) n acc).1
        rcases mnF_or (f := fun g' => cdV (sy st l (pG g) w g') (g' : Int) (Vm sy M r (st + fiv w) w g')) (k + 1) n acc with e | ⟨j, j1, j2, j3⟩
        · rw [e]
        · have hv : (n : Int) + (r : Int) ≤ cdV (sy st l (pG g) w j) (j : Int) (Vm sy M r (st + fiv w) w j) := by
            unfold cdV
            split
            · rcases Vm_in sy M r (st + fiv w) w j with v | v
              · omega
              · omega
            · omega
          generalize mnF (fun g' => cdV (sy st l (pG g) w g') (g' : Int) (Vm sy M r (st + fiv w) w g')) (k + 1) n acc = mm at *
          omega
      rw [hmin]
      rfl
    · rw [if_neg hp, show iand (ishr fit (n : Int)) 1 = b01 (decide (1 ≤ n) && sy st l (pG g) w n) from hfit.bit (by omega), decide_eq_true h1, Bool.true_and]
      have hstep : ∀ a1 acc1, Fr (sD d) a a1 → CI a1 sy Ln M d → min 1000000 acc1 = min 1000000 (min acc (cdV (sy st l (pG g) w n) (n : Int) (Vm sy M r (st + fiv w) w n))) → ∃ a', J_X1_cost_161 fc K (L_X1_cost_102 fc K f') (st : Int) (l : Int) (g : Int) ((r + 1 : Nat) : Int) at' (min 1000000 acc1) (w : Int) fit (n : Int) a1 = K (st : Int) (l : Int) (g : Int) ((r + 1 : Nat) : Int) at' (min 1000000 (mnF (fun g' => cdV (sy st l (pG g) w g') (g' : Int) (Vm sy M r (st + fiv w) w g')) (k + 1) n acc)) ((w + 1 : Nat) : Int) a' ∧ Fr (sD d) a a' ∧ CI a' sy Ln M d := by
        intro a1 acc1 g1 g2 g3
        have hd := hK.d
        obtain ⟨a2, e1, e2, e3⟩ := ih (n + 1) (min acc (cdV (sy st l (pG g) w n) (n : Int) (Vm sy M r (st + fiv w) w n))) a1 f' (by omega) (by omega) (hK.fr g1) g2 (by rw [g1 46 _ (sD_n (by omega))]; exact h46) (by omega)
        refine ⟨a2, ?_, g1.trans e2, e3⟩
        unfold J_X1_cost_161
        rw [nmv_s, wr_s (by omega), g3]
        exact e1
      cases hs : sy st l (pG g) w n with
      | false =>
        rw [hs] at hstep
        rw [show b01 false = 0 from rfl, if_pos rfl]
        refine hstep a acc (Fr.refl _ _) hC ?_
        unfold cdV
        rw [if_neg (fun z => (nomatch z.1))]
        omega
      | true =>
        rw [hs] at hstep
        rw [show b01 true = 1 from rfl, if_neg (by decide), onl_s (by omega)]
        obtain ⟨s1, s2⟩ := isSt_add hM hK.1.1.2 hst hw (hK.1.2 _ _ _ _ _ hw hs)
        have hst' := s1.1
        rw [wr_s (by have := fiv_pos w; omega), wr_s (by omega), show (st : Int) + (fiv w : Int) = ((st + fiv w : Nat) : Int) from rfl, show ((r + 1 : Nat) : Int) - 1 = (r : Int) by omega]
        obtain ⟨a1, d1, d2, d3⟩ := hF (st + fiv w) w n a (by omega) (by omega) s1 hw (by omega) ((hK.2.2.2.2.2.2 l g w st hl hg h46 hw hst).2 n h1 (by omega) hs) hK hC
        rw [d1, cll_s, pG_n h1]
        have hv := Vm_in sy M r (st + fiv w) w n
        generalize hVV : Vm sy M r (st + fiv w) w n = V at *
        rw [wr_s (by omega), min_s, cll_s, nmv_s]
        have e : min (min 1000000 acc) ((n : Int) + min 1000000 V) = min 1000000 (min acc (cdV true (n : Int) V)) := by
          unfold cdV
          by_cases hc : V < 1000000000
          · rw [if_pos ⟨rfl, hc⟩]; omega
          · rw [if_neg (fun z => hc z.2)]; omega
        rw [e]
        exact hstep a1 _ d2 d3 rfl
theorem c73 {fc : Int → Int → Int → Int → Mm → Rs} {sy : Syf} {Ln : Nat → Nat} {M d r st l g : Nat} (hF : CoH sy Ln M d r fc) (hr16 : r < 16) (hst : isSt Ln M st) (h0 : 0 < st) (hr : rsm Ln st M 0 = r + 1) (hl : l < M) (hg : g < 21) : ∀ (k w : Nat) (acc : Int) (a : Mm) (f : Nat), w + k = M → KS a sy Ln M d → CI a sy Ln M d → a 46 (l * 21 + g) = 1 → mnW (fun w g' => cdV (sy st l (pG g) w g') (g' : Int) (Vm sy M r (st + fiv w) w g')) 1 20 k w acc = Vm sy M (r + 1) st l (pG g) → k < f → ∃ a', L_X1_cost_73 fc f (st : Int) (l : Int) (g : Int) ((r + 1 : Nat) : Int) (((st * M + l) * 21 + g : Nat) : Int) (min 1000000 acc) (w : Int) a = some (min 1000000 (Vm sy M (r + 1) st l (pG g)), a') ∧ Fr (sD d) a a' ∧ CI a' sy Ln M d := by
  intro k
  induction k with
  | zero =>
    intro w acc a f hw hK hC h46 hacc hf
    obtain ⟨f', rfl⟩ : ∃ f', f = f' + 1 := ⟨f - 1, by omega⟩
    have hM := hK.1.1.1
    have hn := (isSt_nd hst hM hl hg).1
    have hd := hK.d
    obtain ⟨_, k2, k3, k4, k5, _, _⟩ := hK
    have hacc' : acc = Vm sy M (r + 1) st l (pG g) := hacc
    show ∃ a', LB_X1_cost_73 fc (L_X1_cost_73 fc f') _ _ _ _ _ _ _ _ = _ ∧ _
    unfold LB_X1_cost_73
    rw [k3, Int.toNat_natCast, k2, if_pos (by omega), grd_s k4, ast_s ⟨Int.natCast_nonneg _, by omega⟩, Int.toNat_natCast, hacc']
    refine ⟨_, rfl, (Fr.refl _ _).upd _ (beq_self_eq_true _), fun st' l' g' q1 q2 q3 q4 q5 => ?_⟩
    rw [u2r (by omega)] at q5
    by_cases e : (st' * M + l') * 21 + g' = (st * M + l) * 21 + g
    · obtain ⟨e1, e2, e3⟩ := at_inj hM q3 q4 hl hg e
      subst e1 e2 e3
      right
      rw [u2s, hr]
    · rw [u2n e]
      exact hC st' l' g' q1 q2 q3 q4 q5
  | succ k ih =>
    intro w acc a f hw hK hC h46 hacc hf
    obtain ⟨f', rfl⟩ : ∃ f', f = f' + 1 := ⟨f - 1, by omega⟩
    have hd := hK.d
    have hwM : w < M := by omega
    obtain ⟨v, v1, v2, v3⟩ := fits_s hK hl hg h46 hwM hst
    obtain ⟨a1, d1, d2, d3⟩ := c102 (K := L_X1_cost_73 fc f') (at' := (((st * M + l) * 21 + g : Nat) : Int)) hF hr16 hst h0 hr hl hg hwM v3 20 1 acc a 100000 rfl (Nat.le_refl _) hK hC h46 (by decide)
    obtain ⟨a2, e1, e2, e3⟩ := ih (w + 1) _ a1 f' (by omega) (hK.fr d2) d3 (by rw [d2 46 _ (sD_n (by omega))]; exact h46) hacc (by omega)
    refine ⟨a2, ?_, d2.trans e2, e3⟩
    show LB_X1_cost_73 fc (L_X1_cost_73 fc f') _ _ _ _ _ _ _ _ = _
    unfold LB_X1_cost_73
    rw [hK.2.1, if_neg (by omega), v1, cll_s, v2, cll_s, nmv_s, nmv_s, ← e1]
    exact d1
theorem gr2_s {sy : Syf} {Ln : Nat → Nat} {M d : Nat} : ∀ (r f : Nat), r < f → CoH sy Ln M d r (Gr2 f) := by
  intro r
  induction r with
  | zero =>
    intro f hf st l g a hr h0 hst hl hg h46 hK hC
    obtain ⟨f', rfl⟩ : ∃ f', f = f' + 1 := ⟨f - 1, by omega⟩
    refine ⟨a, ?_, Fr.refl _ _, hC⟩
    show O_X1_cost (Gr2 f') _ _ _ _ _ = _
    unfold O_X1_cost J_X1_cost_35
    rw [nmv_s, if_pos (by decide), if_neg (by decide)]
    rfl
  | succ r ih =>
    intro f hf st l g a hr h0 hst hl hg h46 hK hC
    obtain ⟨f', rfl⟩ : ∃ f', f = f' + 1 := ⟨f - 1, by omega⟩
    have hM := hK.1.1.1
    have h16 := rsm16 hK.1 st
    have n1 := (isSt_nd hst hM hl hg).1
    show ∃ a', O_X1_cost (Gr2 f') _ _ _ _ _ = _ ∧ _
    unfold O_X1_cost
    have k2 := hK.2.1
    have k3 := hK.2.2.1
    have k4 := hK.2.2.2.1
    have k5 := hK.2.2.2.2.1
    rw [k2, (isSt_nd hst hM hl hg).2, nmv_s, if_neg (show ¬ ((r + 1 : Nat) : Int) ≤ 0 by omega), if_neg (Int.not_lt.mpr (Int.natCast_nonneg _)), k3, Int.toNat_natCast, grd_s k4, if_pos (by omega), grd_s k4, ald_s ⟨Int.natCast_nonneg _, by omega⟩, Int.toNat_natCast]
    by_cases hm : a d ((st * M + l) * 21 + g) = -1
    · rw [if_pos hm, nmv_s, nmv_s]
      obtain ⟨a1, e1, e2, e3⟩ := c73 (ih f' (by omega)) (by omega) hst h0 hr hl hg M 0 1000000000 a 100000 (by omega) hK hC h46 (Vm_s sy M r st l (pG g)).symm (by omega)
      exact ⟨a1, e1, e2, e3⟩
    · rw [if_neg hm, grd_s k4, ald_s ⟨Int.natCast_nonneg _, by omega⟩, Int.toNat_natCast]
      refine ⟨a, ?_, Fr.refl _ _, hC⟩
      rcases hC st l g h0 hst hl hg h46 with z | z
      · exact absurd z hm
      · rw [z, hr]
theorem cost_s {sy : Syf} {Ln : Nat → Nat} {M d st l g r : Nat} {a : Mm} (hK : KS a sy Ln M d) (hC : CI a sy Ln M d) (h0 : 0 < st) (hst : isSt Ln M st) (hl : l < M) (hg : g < 21) (h46 : a 46 (l * 21 + g) = 1) (hr : rsm Ln st M 0 = r) : ∃ a', F_X1_cost (st : Int) (l : Int) (g : Int) (r : Int) a = some (min 1000000 (VV sy M Ln st l (pG g)), a') ∧ Fr (sD d) a a' ∧ CI a' sy Ln M d := by
  have h16 := rsm16 hK.1 st
  rw [VV_eq hK.1 hst (by omega), hr]
  exact gr2_s r 20 (by omega) st l g a hr h0 hst hl hg h46 hK hC

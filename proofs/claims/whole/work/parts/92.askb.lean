/-! the class asks its gaps: all of them -/
theorem eX_ne {r w j r' w' j' : Nat} (hw : w < 4) (hj : j < 4) (hw' : w' < 4) (hj' : j' < 4) (h : ¬ (r = r' ∧ w = w')) : ¬ (eX r' w' 0 ≤ eX r w j ∧ eX r w j < eX r' w' 4) := by
  unfold eX
  omega
theorem sAB_n {r w r' w' j : Nat} (hw : w < 4) (hj : j < 4) (hw' : w' < 4) (h : ¬ (r = r' ∧ w = w')) : sAB r' w' 45 (eX r w j) = false := by
  have := eX_ne (j' := 0) hw hj hw' (by decide) h
  unfold sAB
  rw [show ((45 : Nat) == 45) = true from rfl, Bool.true_and, ← Bool.decide_and, decide_eq_false this]
  rfl
theorem EI.fr {a a' : Mm} {G : Tg} {c : Nat → Int} {Ln : Nat → Nat} {W : Nat → Int} {w r l p r' w' : Nat} {lim : Nat → Nat} {P P' : Nat} (h : EI a G c Ln W w r l p lim) (f : Fr (sAB r' w') a a') (hm : Mono a P a' P') (hw : w < 4) (hw' : w' < 4) (hne : ¬ (r = r' ∧ w = w')) (hlim : ∀ j, lim j ≤ 21) : EI a' G c Ln W w r l p lim := by
  intro j hj
  obtain ⟨h1, h2⟩ := h j hj
  refine ⟨?_, fun n g1 g2 g3 => hm.1 _ (by have := hlim j; omega) (h2 n g1 g2 g3)⟩
  rw [f 45 _ (sAB_n hw hj hw' hne)]
  exact h1
theorem limC21 : ∀ j, limC 21 j ≤ 21 := fun _ => Nat.le_refl _
def AI (a : Mm) (G : Tg) (M : Nat) (c : Nat → Int) (Ln : Nat → Nat) (W : Nat → Int) (i : Nat) : Prop := (∀ q, q < i → ∀ l g, l < M → g < 21 → a 47 q = ((l * 21 + g : Nat) : Int) → ∀ w, w < M → EI a G c Ln W w (l * 21 + g) l (pG g) (limC 21)) ∧ ∀ r : Nat, r < 84 → (∀ q, q < i → a 47 q ≠ (r : Int)) → ∀ w j, w < 4 → j < 4 → a 45 (eX r w j) = 0
def sAr (r k i : Nat) : Bool := sM k i || (k == 45 && (decide (eX r 0 0 ≤ i) && decide (i < eX r 4 0))) || k == 46 || k == 47 || (k == 43 && i == 13)
theorem sAB_Ar {r w : Nat} (hw : w < 4) {a a' : Mm} (h : Fr (sAB r w) a a') : Fr (sAr r) a a' := h.mono fun k i e => by
  unfold sAr at e
  unfold sAB
  simp only [Bool.or_eq_false_iff, Bool.and_eq_false_iff, beq_eq_false_iff_ne, decide_eq_false_iff_not] at e ⊢
  unfold eX at e ⊢
  refine ⟨⟨⟨⟨e.1.1.1.1, ?_⟩, e.1.1.2⟩, e.1.2⟩, e.2⟩
  have := e.1.1.1.2
  omega
theorem sAr_As {r : Nat} {a a' : Mm} (h : Fr (sAr r) a a') : Fr sAs a a' := h.mono fun k i e => by
  unfold sAs at e
  unfold sAr
  simp only [Bool.or_eq_false_iff] at e ⊢
  exact ⟨⟨⟨⟨e.1.1.1.1, by rw [e.1.1.1.2, Bool.false_and]⟩, e.1.1.2⟩, e.1.2⟩, e.2⟩
theorem sAr_n {r r' w j : Nat} (hw : w < 4) (hj : j < 4) (h : r ≠ r') : sAr r' 45 (eX r w j) = false := by
  unfold sAr
  rw [show ((45 : Nat) == 45) = true from rfl, Bool.true_and, ← Bool.decide_and, decide_eq_false (by unfold eX; omega)]
  rfl
theorem ag132 {K : Int → Mm → Rs} {G : Tg} {M : Nat} {c : Nat → Int} {Ln : Nat → Nat} {W : Nat → Int} {i l g : Nat} (hi : i < 84) (hl : l < M) (hg : g < 21) : ∀ (k w : Nat) (a : Mm) (P f : Nat), w + k = M → ChS a G M c Ln W → QI a M P → i < P → a 47 i = ((l * 21 + g : Nat) : Int) → (∀ w', w' < w → EI a G c Ln W w' (l * 21 + g) l (pG g) (limC 21)) → (∀ w', w ≤ w' → w' < 4 → ∀ j, j < 4 → a 45 (eX (l * 21 + g) w' j) = 0) → k < f → ∃ a' P', L_X1_askGaps_132 K f (i : Int) (w : Int) a = K ((i + 1 : Nat) : Int) a' ∧ Fr (sAr (l * 21 + g)) a a' ∧ QI a' M P' ∧ Mono a P a' P' ∧ ∀ w', w' < M → EI a' G c Ln W w' (l * 21 + g) l (pG g) (limC 21) := by
  intro k
  induction k with
  | zero =>
    intro w a P f hw hC hQ hiP h47 hE hZ hf
    obtain ⟨f', rfl⟩ : ∃ f', f = f' + 1 := ⟨f - 1, by omega⟩
    refine ⟨a, P, ?_, Fr.refl _ _, hQ, Mono.refl _ _, fun w' hw' => hE w' (by omega)⟩
    show LB_X1_askGaps_132 K (L_X1_askGaps_132 K f') _ _ _ = _
    unfold LB_X1_askGaps_132
    rw [if_pos (by rw [hC.2.2.2.1]; omega), nmv_s, wr_s (by omega)]
    rfl
  | succ k ih =>
    intro w a P f hw hC hQ hiP h47 hE hZ hf
    obtain ⟨f', rfl⟩ : ∃ f', f = f' + 1 := ⟨f - 1, by omega⟩
    have hM := hC.2.2.1
    obtain ⟨a1, P1, d1, d2, d3, d4, d5⟩ := askB_s (w := w) (by omega) hl hg hC hQ (fun j hj => by
      rw [hZ w (Nat.le_refl _) (by omega) j hj]
      exact ⟨isB_0.cong fun n _ => by rw [decide_eq_false (by unfold limC; omega), Bool.false_and], fun n g1 g2 => by unfold limC at g2; omega⟩)
    obtain ⟨a2, P2, e1, e2, e3, e4, e5⟩ := ih (w + 1) a1 P1 f' (by omega) (hC.fr (sAB_As d2)) d3 (by have := d4.2.2.1; omega) ((d4.2.1 i hiP).trans h47) (fun w' hw' => by
      by_cases e : w' = w
      · subst e; exact d5
      · exact (hE w' (by omega)).fr d2 d4 (by omega) (by omega) (by omega) limC21) (fun w' h1 h2 j hj => by
      rw [d2 45 _ (sAB_n h2 hj (by omega) (by omega))]
      exact hZ w' (by omega) h2 j hj) (by omega)
    refine ⟨a2, P2, ?_, (sAB_Ar (by omega) d2).trans e2, e3, d4.trans e4, e5⟩
    show LB_X1_askGaps_132 K (L_X1_askGaps_132 K f') _ _ _ = _
    unfold LB_X1_askGaps_132
    rw [if_neg (by rw [hC.2.2.2.1]; omega), ald_s (by omega), Int.toNat_natCast, h47, d1, cll_s, nmv_s, wr_s (by omega), ← e1]
    rfl
def Ask (a : Mm) (G : Tg) (M : Nat) (c : Nat → Int) (Ln : Nat → Nat) (W : Nat → Int) : Prop := (∀ r, r < 84 → a 46 r = 0 ∨ a 46 r = 1) ∧ (∀ l g, l < M → g < 21 → a 46 (l * 21 + g) = 1 → ∀ w, w < M → EI a G c Ln W w (l * 21 + g) l (pG g) (limC 21)) ∧ ∀ w, w < M → (a 46 (w * 21) = 1 ↔ ftV G c Ln W 4 21 w 0 21 = true)
theorem ag116 {G : Tg} {M : Nat} {c : Nat → Int} {Ln : Nat → Nat} {W : Nat → Int} : ∀ (k i : Nat) (a : Mm) (P f : Nat), i + k = 84 → ChS a G M c Ln W → QI a M P → i ≤ P → AI a G M c Ln W i → (∀ w, w < M → (a 46 (w * 21) = 1 ↔ ftV G c Ln W 4 21 w 0 21 = true)) → k < f → ∃ a', L_X1_askGaps_116 f (i : Int) a = some (0, a') ∧ Fr sAs a a' ∧ Ask a' G M c Ln W := by
  have fin : ∀ (i : Nat) (a : Mm) (P : Nat), QI a M P → P ≤ i → AI a G M c Ln W i → (∀ w, w < M → (a 46 (w * 21) = 1 ↔ ftV G c Ln W 4 21 w 0 21 = true)) → M ≤ 4 → Ask a G M c Ln W := by
    intro i a P hQ hP hA hF hM
    refine ⟨hQ.2.1, fun l g hl hg h1 w hw => ?_, hF⟩
    obtain ⟨_, q, q1, q2⟩ := hQ.2.2.2.2.1 (l * 21 + g) (by omega) h1
    exact hA.1 q (by omega) l g hl hg q2 w hw
  intro k
  induction k with
  | zero =>
    intro i a P f hi hC hQ hiP hA hF hf
    obtain ⟨f', rfl⟩ : ∃ f', f = f' + 1 := ⟨f - 1, by omega⟩
    have hP := hQ.le
    refine ⟨a, ?_, Fr.refl _ _, fin i a P hQ (by omega) hA hF hC.2.2.1⟩
    show LB_X1_askGaps_116 (L_X1_askGaps_116 f') _ _ = _
    unfold LB_X1_askGaps_116
    rw [if_pos (by rw [hQ.1]; omega)]
  | succ k ih =>
    intro i a P f hi hC hQ hiP hA hF hf
    obtain ⟨f', rfl⟩ : ∃ f', f = f' + 1 := ⟨f - 1, by omega⟩
    have hM := hC.2.2.1
    show ∃ a', LB_X1_askGaps_116 (L_X1_askGaps_116 f') _ _ = _ ∧ _
    unfold LB_X1_askGaps_116
    by_cases hs : P ≤ i
    · rw [if_pos (by rw [hQ.1]; omega)]
      exact ⟨a, rfl, Fr.refl _ _, fin i a P hQ hs hA hF hM⟩
    · rw [if_neg (by rw [hQ.1]; omega), if_neg (by omega), nmv_s]
      obtain ⟨r, r1, r2, r3⟩ := hQ.2.2.2.1 i (by omega)
      have r4 := (hQ.2.2.2.2.1 r r1 r3).1
      obtain ⟨l, g, hl, hg, hlg⟩ : ∃ l g, l < M ∧ g < 21 ∧ r = l * 21 + g := ⟨r / 21, r % 21, by omega, by omega, by omega⟩
      subst hlg
      have hnq : ∀ q, q < i → a 47 q ≠ ((l * 21 + g : Nat) : Int) := fun q hq z => hQ.2.2.2.2.2 q i hq (by omega) (z.trans r2.symm)
      obtain ⟨a1, P1, d1, d2, d3, d4, d5⟩ := ag132 (K := L_X1_askGaps_116 f') (i := i) (by omega) hl hg M 0 a P 100000 (by omega) hC hQ (by omega) r2 (fun w' hw' => absurd hw' (Nat.not_lt_zero _)) (fun w' _ h2 j hj => hA.2 _ r1 hnq w' j h2 hj) (by omega)
      obtain ⟨a2, e1, e2, e3⟩ := ih (i + 1) a1 P1 f' (by omega) (hC.fr (sAr_As d2)) d3 (by have := d4.2.2.1; omega) (by
        refine ⟨fun q hq l' g' hl' hg' h47 w hw => ?_, fun r' hr' hno w j hw hj => ?_⟩
        · by_cases e : q = i
          · subst e
            have h1 : a 47 q = ((l' * 21 + g' : Nat) : Int) := (d4.2.1 q (by omega)).symm.trans h47
            have h2 : l' * 21 + g' = l * 21 + g := by omega
            have h3 : l' = l := by omega
            have h4 : g' = g := by omega
            subst h3 h4
            exact d5 w hw
          · have h1 : a 47 q = ((l' * 21 + g' : Nat) : Int) := (d4.2.1 q (by omega)).symm.trans h47
            have h2 := hA.1 q (by omega) l' g' hl' hg' h1 w hw
            have hne : l' * 21 + g' ≠ l * 21 + g := fun z => by
              have := hnq q (by omega)
              rw [h1, z] at this
              exact this rfl
            intro j hj
            obtain ⟨t1, t2⟩ := h2 j hj
            refine ⟨?_, fun n g1 g2 g3 => d4.1 _ (by have : n < 21 := g2; omega) (t2 n g1 g2 g3)⟩
            rw [d2 45 _ (sAr_n (by omega) hj hne)]
            exact t1
        · have hne : r' ≠ l * 21 + g := fun z => by
            have := hno i (by omega)
            rw [d4.2.1 i (by omega), r2, z] at this
            exact this rfl
          rw [d2 45 _ (sAr_n hw hj hne)]
          refine hA.2 r' hr' (fun q hq => ?_) w j hw hj
          have := hno q (by omega)
          rw [d4.2.1 q (by omega)] at this
          exact this) (fun w hw => by rw [d4.2.2.2 w (by omega)]; exact hF w hw) (by omega)
      refine ⟨a2, ?_, (sAr_As d2).trans e2, e3⟩
      rw [← e1]
      exact d1
theorem sRc_As {a a' : Mm} (h : Fr sRc a a') : Fr sAs a a' := sAB_As (sRc_AB (r := 0) (w := 0) h)
theorem sM_As {a a' : Mm} (h : Fr sM a a') : Fr sAs a a' := sAB_As (sM_AB (r := 0) (w := 0) h)
theorem ag52 {G : Tg} {M : Nat} {c : Nat → Int} {Ln : Nat → Nat} {W : Nat → Int} : ∀ (k w : Nat) (a : Mm) (P f : Nat), w + k = M → ChS a G M c Ln W → QI a M P → (∀ i, i < 1344 → a 45 i = 0) → (∀ w', w' < w → (a 46 (w' * 21) = 1 ↔ ftV G c Ln W 4 21 w' 0 21 = true)) → (∀ w', w ≤ w' → w' < 4 → a 46 (w' * 21) = 0) → k < f → ∃ a', L_X1_askGaps_52 f (w : Int) a = some (0, a') ∧ Fr sAs a a' ∧ Ask a' G M c Ln W := by
  intro k
  induction k with
  | zero =>
    intro w a P f hw hC hQ h45 hF hZ hf
    obtain ⟨f', rfl⟩ : ∃ f', f = f' + 1 := ⟨f - 1, by omega⟩
    obtain ⟨a1, e1, e2, e3⟩ := ag116 84 0 a P 100000 rfl hC hQ (Nat.zero_le _) ⟨fun q hq => absurd hq (Nat.not_lt_zero _), fun r hr _ w j hw hj => h45 _ (by unfold eX; omega)⟩ (fun w' hw' => hF w' (by omega)) (by decide)
    refine ⟨a1, ?_, e2, e3⟩
    show LB_X1_askGaps_52 (L_X1_askGaps_52 f') _ _ = _
    unfold LB_X1_askGaps_52
    rw [if_pos (by rw [hC.2.2.2.1]; omega), nmv_s, ← e1]
    rfl
  | succ k ih =>
    intro w a P f hw hC hQ h45 hF hZ hf
    obtain ⟨f', rfl⟩ : ∃ f', f = f' + 1 := ⟨f - 1, by omega⟩
    have hM := hC.2.2.1
    obtain ⟨hc1, hc2, hc3, hc4⟩ := hC.2.2.2.2.1 w (by omega)
    have hnx : ∀ a1 P1, Fr sAs a a1 → QI a1 M P1 → a1 45 = a 45 → (∀ w', w' ≠ w → w' < 4 → a1 46 (w' * 21) = a 46 (w' * 21)) → (a1 46 (w * 21) = 1 ↔ ftV G c Ln W 4 21 w 0 21 = true) → ∃ a', J_X1_askGaps_108 (L_X1_askGaps_52 f') (w : Int) a1 = some (0, a') ∧ Fr sAs a a' ∧ Ask a' G M c Ln W := by
      intro a1 P1 g1 g2 g3 g4 g5
      obtain ⟨a2, e1, e2, e3⟩ := ih (w + 1) a1 P1 f' (by omega) (hC.fr g1) g2 (fun i hi => by rw [g3]; exact h45 i hi) (fun w' hw' => by
        by_cases e : w' = w
        · subst e; exact g5
        · rw [g4 w' e (by omega)]; exact hF w' (by omega)) (fun w' h1 h2 => by rw [g4 w' (by omega) h2]; exact hZ w' (by omega) h2) (by omega)
      refine ⟨a2, ?_, g1.trans e2, e3⟩
      unfold J_X1_askGaps_108
      rw [nmv_s, wr_s (by omega), ← e1]
      rfl
    have hz0 : a 46 (w * 21) = 0 := hZ w (Nat.le_refl _) (by omega)
    show ∃ a', LB_X1_askGaps_52 (L_X1_askGaps_52 f') _ _ = _ ∧ _
    unfold LB_X1_askGaps_52
    rw [if_neg (by rw [hC.2.2.2.1]; omega), ald_s (by omega), Int.toNat_natCast, hc1, wordOf_s hC.2.1 hc2 (by decide), cll_s, nmv_s, hc3, show (4 * c w + 0).toNat = 4 * (c w).toNat + 0 by omega, hC.2.2.2.2.2.1]
    by_cases h0 : Ln w = 0
    · rw [if_neg (show ¬ (0 : Int) < (Ln w : Int) by omega), if_pos rfl]
      refine hnx a P (Fr.refl _ _) hQ rfl (fun _ _ _ => rfl) ?_
      rw [hz0]
      constructor
      · intro z; exact absurd z (by decide)
      · intro z
        unfold ftV at z
        rw [decide_eq_false (by omega), Bool.false_and] at z
        exact (nomatch z)
    · have hp := hC.2.2.2.2.2.2 w 0 (by omega) (by omega)
      rw [if_pos (show (0 : Int) < (Ln w : Int) by omega), if_neg (by omega), ald_s (by omega), Int.toNat_natCast, hc1]
      obtain ⟨a1, d1, d2⟩ := inCrowd_s hC.1 63 (c w) 8 63
      have htv : mn G 63 (c w) 8 63 (c w) 0 = tvM G c w 21 4 21 := by
        unfold tvM
        rw [if_pos rfl, show gpO 21 = 63 from rfl]
      rw [d1, cll_s, htv]
      have hft : ftV G c Ln W 4 21 w 0 21 = decide (tvM G c w 21 4 21 = W (4 * (c w).toNat + 0)) := by
        unfold ftV
        rw [decide_eq_true (by omega), Bool.true_and]
      by_cases he : tvM G c w 21 4 21 = W (4 * (c w).toNat + 0)
      · rw [if_neg (fun z => z he)]
        obtain ⟨a2, P2, r1, r2, r3, r4, r5, r6⟩ := reach_s (g := 0) hM (hQ.frM d2) (by omega : w < M) (by decide)
        rw [show (0 : Int) = ((0 : Nat) : Int) from rfl, r1, cll_s]
        refine hnx a2 P2 ((sM_As d2).trans (sRc_As r2)) r3 ((r2.row 45 (fun _ => rfl)).trans (d2.row 45 (fun _ => rfl))) (fun w' h1 h2 => ?_) ?_
        · rw [r6, if_neg (by omega), d2.row 46 (fun _ => rfl)]
        · rw [r6, if_pos (by omega), hft, decide_eq_true he]
          exact ⟨fun _ => rfl, fun _ => rfl⟩
      · rw [if_pos he]
        refine hnx a1 P (sM_As d2) (hQ.frM d2) (d2.row 45 (fun _ => rfl)) (fun w' h1 h2 => by rw [d2.row 46 (fun _ => rfl)]) ?_
        rw [d2.row 46 (fun _ => rfl), hz0, hft, decide_eq_false he]
        exact ⟨fun z => absurd z (by decide), fun z => (nomatch z)⟩
theorem ag26 {G : Tg} {M : Nat} {c : Nat → Int} {Ln : Nat → Nat} {W : Nat → Int} : ∀ (k i : Nat) (a : Mm) (f : Nat), i + k = 84 → ChS a G M c Ln W → (∀ i, i < 1344 → a 45 i = 0) → (∀ j, j < i → a 46 j = 0) → k < f → ∃ a', L_X1_askGaps_26 f (i : Int) a = some (0, a') ∧ Fr sAs a a' ∧ Ask a' G M c Ln W := by
  intro k
  induction k with
  | zero =>
    intro i a f hi hC h45 h46 hf
    obtain ⟨f', rfl⟩ : ∃ f', f = f' + 1 := ⟨f - 1, by omega⟩
    have f0 : Fr sAs a (upd2 a 43 13 0) := (Fr.refl _ _).upd _ rfl
    have hM := hC.2.2.1
    obtain ⟨a1, e1, e2, e3⟩ := ag52 M 0 (upd2 a 43 13 0) 0 100000 (by omega) (hC.fr f0) (by
      refine ⟨u2s _ _ _ _, fun r hr => Or.inl ?_, ?_, fun q hq => absurd hq (Nat.not_lt_zero _), fun r hr h => ?_, fun x y _ hy => absurd hy (Nat.not_lt_zero _)⟩
      · rw [u2r (by decide)]; exact h46 r (by omega)
      · rw [sg_congr (g := fun _ => 0) 84 (fun r hr => by rw [u2r (by decide)]; exact h46 r (by omega)), sg_zero]; rfl
      · rw [u2r (by decide), h46 r (by omega)] at h
        exact absurd h (by decide)) (fun i hi => by rw [u2r (by decide)]; exact h45 i hi) (fun w' hw' => absurd hw' (Nat.not_lt_zero _)) (fun w' _ h2 => by rw [u2r (by decide)]; exact h46 _ (by omega)) (by omega)
    refine ⟨a1, ?_, f0.trans e2, e3⟩
    show LB_X1_askGaps_26 (L_X1_askGaps_26 f') _ _ = _
    unfold LB_X1_askGaps_26
    rw [if_pos (by omega), stf_s, nmv_s, ← e1]
    rfl
  | succ k ih =>
    intro i a f hi hC h45 h46 hf
    obtain ⟨f', rfl⟩ : ∃ f', f = f' + 1 := ⟨f - 1, by omega⟩
    have f0 : Fr sAs a (upd2 a 46 i 0) := (Fr.refl _ _).upd _ rfl
    obtain ⟨a1, e1, e2, e3⟩ := ih (i + 1) (upd2 a 46 i 0) f' (by omega) (hC.fr f0) (fun i hi => by rw [u2r (by decide)]; exact h45 i hi) (fun j hj => by
      by_cases e : j = i
      · subst e; rw [u2s]
      · rw [u2n e]; exact h46 j (by omega)) (by omega)
    refine ⟨a1, ?_, f0.trans e2, e3⟩
    show LB_X1_askGaps_26 (L_X1_askGaps_26 f') _ _ = _
    unfold LB_X1_askGaps_26
    rw [if_neg (by omega), ast_s (by omega), nmv_s, wr_s (by omega), Int.toNat_natCast, ← e1]
    rfl
theorem ag2 {G : Tg} {M : Nat} {c : Nat → Int} {Ln : Nat → Nat} {W : Nat → Int} : ∀ (k i : Nat) (a : Mm) (f : Nat), i + k = 1344 → ChS a G M c Ln W → (∀ j, j < i → a 45 j = 0) → k < f → ∃ a', L_X1_askGaps_2 f (i : Int) a = some (0, a') ∧ Fr sAs a a' ∧ Ask a' G M c Ln W := by
  intro k
  induction k with
  | zero =>
    intro i a f hi hC h45 hf
    obtain ⟨f', rfl⟩ : ∃ f', f = f' + 1 := ⟨f - 1, by omega⟩
    obtain ⟨a1, e1, e2, e3⟩ := ag26 84 0 a 100000 rfl hC (fun j hj => h45 j (by omega)) (fun j hj => absurd hj (Nat.not_lt_zero _)) (by decide)
    refine ⟨a1, ?_, e2, e3⟩
    show LB_X1_askGaps_2 (L_X1_askGaps_2 f') _ _ = _
    unfold LB_X1_askGaps_2
    rw [if_pos (by omega), nmv_s, ← e1]
    rfl
  | succ k ih =>
    intro i a f hi hC h45 hf
    obtain ⟨f', rfl⟩ : ∃ f', f = f' + 1 := ⟨f - 1, by omega⟩
    have f0 : Fr sAs a (upd2 a 45 i 0) := (Fr.refl _ _).upd _ rfl
    obtain ⟨a1, e1, e2, e3⟩ := ih (i + 1) (upd2 a 45 i 0) f' (by omega) (hC.fr f0) (fun j hj => by
      by_cases e : j = i
      · subst e; rw [u2s]
      · rw [u2n e]; exact h45 j (by omega)) (by omega)
    refine ⟨a1, ?_, f0.trans e2, e3⟩
    show LB_X1_askGaps_2 (L_X1_askGaps_2 f') _ _ = _
    unfold LB_X1_askGaps_2
    rw [if_neg (by omega), ast_s (by omega), nmv_s, wr_s (by omega), Int.toNat_natCast, ← e1]
    rfl
theorem askGaps_s {G : Tg} {M : Nat} {c : Nat → Int} {Ln : Nat → Nat} {W : Nat → Int} {a : Mm} (hC : ChS a G M c Ln W) : ∃ a', F_X1_askGaps a = some (0, a') ∧ Fr sAs a a' ∧ Ask a' G M c Ln W := by
  obtain ⟨a1, e1, e2, e3⟩ := ag2 1344 0 a 100000 rfl hC (fun j hj => absurd hj (Nat.not_lt_zero _)) (by decide)
  refine ⟨a1, ?_, e2, e3⟩
  unfold F_X1_askGaps
  rw [nmv_s, ← e1]
  rfl

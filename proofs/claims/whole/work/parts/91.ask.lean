/-! the class asks its gaps -/
def ftV (G : Tg) (c : Nat → Int) (Ln : Nat → Nat) (W : Nat → Int) (l p w i n : Nat) : Bool := decide (i < Ln w) && decide (tvM G c w n l p = W (4 * (c w).toNat + i))
def pG (g : Nat) : Nat := if g = 0 then 21 else g
def eX (r w j : Nat) : Nat := (r * 4 + w) * 4 + j
def ChS (a : Mm) (G : Tg) (M : Nat) (c : Nat → Int) (Ln : Nat → Nat) (W : Nat → Int) : Prop := GA a G ∧ PpA a ∧ M ≤ 4 ∧ a 43 11 = (M : Int) ∧ (∀ w, w < M → a 44 w = c w ∧ (0 ≤ c w ∧ c w < a 1 5) ∧ a 5 (c w).toNat = (Ln w : Int) ∧ Ln w ≤ 4) ∧ a 6 = W ∧ ∀ w j, w < M → j < Ln w → 1 ≤ W (4 * (c w).toNat + j)
def sAs (k i : Nat) : Bool := sM k i || k == 45 || k == 46 || k == 47 || (k == 43 && i == 13)
theorem ChS.fr {a a' : Mm} {G : Tg} {M : Nat} {c : Nat → Int} {Ln : Nat → Nat} {W : Nat → Int} (h : ChS a G M c Ln W) (f : Fr sAs a a') : ChS a' G M c Ln W := by
  obtain ⟨h1, h2, h3, h4, h5, h6, h7⟩ := h
  refine ⟨h1.fr (f 17 3 rfl) (fun k i g1 g2 => f k i (by unfold sAs sM; simp only [Bool.or_eq_false_iff, Bool.and_eq_false_iff, beq_eq_false_iff_ne]; omega)), h2.fr f, h3, (f 43 11 rfl).trans h4, fun w hw => ?_, (f.row 6 (fun _ => rfl)).trans h6, h7⟩
  rw [f 44 w rfl, f 1 5 rfl, f.row 5 (fun _ => rfl)]
  exact h5 w hw
def QI (a : Mm) (M P : Nat) : Prop := a 43 13 = (P : Int) ∧ (∀ r, r < 84 → a 46 r = 0 ∨ a 46 r = 1) ∧ sg 84 (a 46) = (P : Int) ∧ (∀ q, q < P → ∃ r : Nat, r < 84 ∧ a 47 q = (r : Int) ∧ a 46 r = 1) ∧ (∀ r, r < 84 → a 46 r = 1 → r < M * 21 ∧ ∃ q, q < P ∧ a 47 q = (r : Int)) ∧ ∀ q1 q2, q1 < q2 → q2 < P → a 47 q1 ≠ a 47 q2
theorem QI.le {a : Mm} {M P : Nat} (h : QI a M P) : P ≤ 84 := by
  have := sg_in (f := a 46) (M := 1) 84 (fun i hi => by have := h.2.1 i hi; omega)
  have h2 := h.2.2.1
  omega
def Mono (a : Mm) (P : Nat) (a' : Mm) (P' : Nat) : Prop := (∀ r, r < 84 → a 46 r = 1 → a' 46 r = 1) ∧ (∀ q, q < P → a' 47 q = a 47 q) ∧ P ≤ P' ∧ ∀ w, w < 4 → a' 46 (w * 21) = a 46 (w * 21)
theorem Mono.refl (a : Mm) (P : Nat) : Mono a P a P := ⟨fun _ _ h => h, fun _ _ => rfl, Nat.le_refl _, fun _ _ => rfl⟩
theorem Mono.trans {a a1 a2 : Mm} {P P1 P2 : Nat} (h : Mono a P a1 P1) (h2 : Mono a1 P1 a2 P2) : Mono a P a2 P2 := ⟨fun r hr h3 => h2.1 r hr (h.1 r hr h3), fun q hq => (h2.2.1 q (by have := h.2.2.1; omega)).trans (h.2.1 q hq), Nat.le_trans h.2.2.1 h2.2.2.1, fun w hw => (h2.2.2.2 w hw).trans (h.2.2.2 w hw)⟩
def sRc (k i : Nat) : Bool := k == 46 || k == 47 || (k == 43 && i == 13)
theorem sg_up {f f' : Nat → Int} {r : Nat} (hr : r < 84) (h : ∀ i, i < 84 → f' i = f i + (if i = r then 1 else 0)) : sg 84 f' = sg 84 f + 1 := by
  rw [sg_congr 84 h, sg_add, sg_one (fun _ => 1) r, if_pos hr]
theorem reach_s {a : Mm} {M P w g : Nat} (hM : M ≤ 4) (hQ : QI a M P) (hw : w < M) (hg : g < 21) : ∃ a' P', F_X1_reach (w : Int) (g : Int) a = some (0, a') ∧ Fr sRc a a' ∧ QI a' M P' ∧ P ≤ P' ∧ (∀ q, q < P → a' 47 q = a 47 q) ∧ (∀ r, a' 46 r = if r = w * 21 + g then 1 else a 46 r) := by
  have hP := hQ.le
  have hQ0 := hQ
  obtain ⟨q1, q2, q3, q4, q5, q6⟩ := hQ
  have hr : w * 21 + g < 84 := by omega
  unfold F_X1_reach
  rw [nmv_s, wr_s (x := (w : Int) * 21) (by omega), wr_s (by omega), if_neg (by omega), if_neg (by omega), ald_s (by omega), show ((w : Int) * 21 + (g : Int)).toNat = w * 21 + g by omega]
  rcases q2 _ hr with h0 | h1
  · rw [h0, if_neg (by decide)]
    have hup : ∀ i, i < 84 → upd2 (upd2 (upd2 a 46 (w * 21 + g) 1) 47 P ((w * 21 + g : Nat) : Int)) 43 13 ((P : Int) + 1) 46 i = a 46 i + (if i = w * 21 + g then 1 else 0) := by
      intro i hi
      rw [u2r (by decide), u2r (by decide)]
      by_cases e : i = w * 21 + g
      · subst e; rw [u2s, h0, if_pos rfl]; rfl
      · rw [u2n e, if_neg e, Int.add_zero]
    have hsum := sg_up hr hup
    have hle := sg_in (f := upd2 (upd2 (upd2 a 46 (w * 21 + g) 1) 47 P ((w * 21 + g : Nat) : Int)) 43 13 ((P : Int) + 1) 46) (M := 1) 84 (fun i hi => by
      rw [hup i hi]
      by_cases e : i = w * 21 + g
      · subst e; rw [h0, if_pos rfl]; decide
      · have := q2 i hi
        rw [if_neg e]; omega)
    rw [if_neg (by omega), ast_s (by omega), u2r (by decide), q1, ast_s (by omega), stf_s, u2r (by decide), u2r (by decide), q1, wr_s (by omega), Int.toNat_natCast, show ((w : Int) * 21 + (g : Int)) = ((w * 21 + g : Nat) : Int) by omega, Int.toNat_natCast]
    refine ⟨_, P + 1, rfl, ((((Fr.refl _ _).upd _ rfl).upd _ rfl).upd _ rfl), ⟨?_, ?_, ?_, ?_, ?_, ?_⟩, by omega, ?_, ?_⟩
    · rw [u2s]; rfl
    · intro i hi
      rw [hup i hi]
      by_cases e : i = w * 21 + g
      · subst e; rw [h0, if_pos rfl]; exact Or.inr rfl
      · have := q2 i hi
        rw [if_neg e]; omega
    · rw [hsum, q3]; rfl
    · intro q hq
      by_cases e : q = P
      · subst e
        refine ⟨w * 21 + g, hr, ?_, ?_⟩
        · rw [u2r (by decide), u2s]
        · rw [hup _ hr, h0, if_pos rfl]; rfl
      · obtain ⟨r, r1, r2, r3⟩ := q4 q (by omega)
        refine ⟨r, r1, ?_, ?_⟩
        · rw [u2r (by decide), u2n e, u2r (by decide)]; exact r2
        · rw [hup r r1, if_neg (fun z => by subst z; omega), r3]; rfl
    · intro i hi h
      by_cases e : i = w * 21 + g
      · subst e
        exact ⟨by omega, P, by omega, by rw [u2r (by decide), u2s]⟩
      · rw [hup i hi, if_neg e, Int.add_zero] at h
        obtain ⟨m1, q, m2, m3⟩ := q5 i hi h
        exact ⟨m1, q, by omega, by rw [u2r (by decide), u2n (by omega), u2r (by decide)]; exact m3⟩
    · intro x y hxy hy
      rw [u2r (by decide)]
      by_cases e : y = P
      · subst e
        rw [u2s, u2n (by omega), u2r (by decide)]
        obtain ⟨r, r1, r2, r3⟩ := q4 x hxy
        intro z
        rw [r2] at z
        have : r = w * 21 + g := by omega
        subst this
        omega
      · rw [u2n e, u2n (by omega), u2r (by decide)]
        exact q6 x y hxy (by omega)
    · intro q hq
      rw [u2r (by decide), u2n (by omega), u2r (by decide)]
    · intro r
      rw [u2r (by decide), u2r (by decide)]
      by_cases e : r = w * 21 + g
      · subst e; rw [u2s, if_pos rfl]
      · rw [u2n e, if_neg e]
  · rw [h1, if_pos (by decide)]
    refine ⟨a, P, rfl, Fr.refl _ _, hQ0, Nat.le_refl _, fun _ _ => rfl, fun r => ?_⟩
    by_cases e : r = w * 21 + g
    · subst e; rw [if_pos rfl, h1]
    · rw [if_neg e]
/-- one pair's row of one speaker: as far as lim -/
def EI (a : Mm) (G : Tg) (c : Nat → Int) (Ln : Nat → Nat) (W : Nat → Int) (w r l p : Nat) (lim : Nat → Nat) : Prop := ∀ j, j < 4 → isB (a 45 (eX r w j)) (fun n => decide (1 ≤ n ∧ n < lim j) && ftV G c Ln W l p w j n) ∧ ∀ n, 1 ≤ n → n < lim j → ftV G c Ln W l p w j n = true → a 46 (w * 21 + n) = 1
def limJ (j n j' : Nat) : Nat := if j' < j then n + 1 else n
theorem limJ_p {j n j' : Nat} (h : j' < j) : limJ j n j' = n + 1 := if_pos h
theorem limJ_n {j n j' : Nat} (h : ¬ j' < j) : limJ j n j' = n := if_neg h
def limC (n _ : Nat) : Nat := n
theorem EI.cong {a : Mm} {G : Tg} {c : Nat → Int} {Ln : Nat → Nat} {W : Nat → Int} {w r l p : Nat} {lim lim' : Nat → Nat} (h : EI a G c Ln W w r l p lim) (e : ∀ j, j < 4 → lim' j = lim j ∨ Ln w ≤ j) : EI a G c Ln W w r l p lim' := by
  intro j hj
  obtain ⟨h1, h2⟩ := h j hj
  rcases e j hj with z | z
  · rw [z]; exact ⟨h1, h2⟩
  · have hf : ∀ n, ftV G c Ln W l p w j n = false := fun n => by unfold ftV; rw [decide_eq_false (by omega), Bool.false_and]
    refine ⟨h1.cong fun n _ => ?_, fun n _ _ hn => ?_⟩
    · rw [hf n, Bool.and_false, Bool.and_false]
    · rw [hf n] at hn; exact (nomatch hn)
def sAB (r w k i : Nat) : Bool := sM k i || (k == 45 && (decide (eX r w 0 ≤ i) && decide (i < eX r w 4))) || k == 46 || k == 47 || (k == 43 && i == 13)
theorem sAB_As {r w : Nat} {a a' : Mm} (h : Fr (sAB r w) a a') : Fr sAs a a' := h.mono fun k i e => by
  unfold sAs at e
  unfold sAB
  simp only [Bool.or_eq_false_iff] at e ⊢
  exact ⟨⟨⟨⟨e.1.1.1.1, by rw [e.1.1.1.2, Bool.false_and]⟩, e.1.1.2⟩, e.1.2⟩, e.2⟩
theorem sRc_AB {r w : Nat} {a a' : Mm} (h : Fr sRc a a') : Fr (sAB r w) a a' := h.mono fun k i e => by
  unfold sAB at e
  unfold sRc
  simp only [Bool.or_eq_false_iff] at e ⊢
  exact ⟨⟨e.1.1.2, e.1.2⟩, e.2⟩
theorem sM_AB {r w : Nat} {a a' : Mm} (h : Fr sM a a') : Fr (sAB r w) a a' := h.mono fun k i e => by
  unfold sAB at e
  simp only [Bool.or_eq_false_iff] at e
  exact e.1.1.1.1
theorem QI.frM {a a' : Mm} {M P : Nat} (h : QI a M P) (f : Fr sM a a') : QI a' M P := by
  unfold QI
  rw [f 43 13 rfl, f.row 46 (fun _ => rfl), f.row 47 (fun _ => rfl)]
  exact h
theorem EI.frM {a a' : Mm} {G : Tg} {c : Nat → Int} {Ln : Nat → Nat} {W : Nat → Int} {w r l p : Nat} {lim : Nat → Nat} (h : EI a G c Ln W w r l p lim) (f : Fr sM a a') : EI a' G c Ln W w r l p lim := by
  unfold EI
  rw [f.row 45 (fun _ => rfl), f.row 46 (fun _ => rfl)]
  exact h
theorem Mono.frM {a a' : Mm} {P : Nat} (f : Fr sM a a') : Mono a P a' P := by
  unfold Mono
  rw [f.row 46 (fun _ => rfl), f.row 47 (fun _ => rfl)]
  exact ⟨fun _ _ h => h, fun _ _ => rfl, Nat.le_refl _, fun _ _ => rfl⟩
theorem ab81 {K : Int → Int → Int → Int → Int → Int → Mm → Rs} {G : Tg} {M : Nat} {c : Nat → Int} {Ln : Nat → Nat} {W : Nat → Int} {w r l p n : Nat} {v3 v4 : Int} (hw : w < M) (hr : r < 84) (hn : 1 ≤ n ∧ n < 21) : ∀ (k j : Nat) (a : Mm) (P f : Nat), j + k = Ln w → ChS a G M c Ln W → QI a M P → EI a G c Ln W w r l p (limJ j n) → k < f → ∃ a' P', L_X1_askBehind_81 K f (r : Int) (w : Int) v3 v4 (Ln w : Int) (n : Int) (tvM G c w n l p) (j : Int) a = K (r : Int) (w : Int) v3 v4 (Ln w : Int) ((n + 1 : Nat) : Int) a' ∧ Fr (sAB r w) a a' ∧ QI a' M P' ∧ Mono a P a' P' ∧ EI a' G c Ln W w r l p (limC (n + 1)) := by
  intro k
  induction k with
  | zero =>
    intro j a P f hj hC hQ hE hf
    obtain ⟨f', rfl⟩ : ∃ f', f = f' + 1 := ⟨f - 1, by omega⟩
    refine ⟨a, P, ?_, Fr.refl _ _, hQ, Mono.refl _ _, hE.cong (fun j' hj' => ?_)⟩
    · show LB_X1_askBehind_81 K (L_X1_askBehind_81 K f') _ _ _ _ _ _ _ _ _ = _
      unfold LB_X1_askBehind_81
      rw [if_pos (by omega), nmv_s, wr_s (by omega)]
      rfl
    · by_cases e : j' < j
      · rw [limJ_p e]; exact Or.inl rfl
      · exact Or.inr (by omega)
  | succ k ih =>
    intro j a P f hj hC hQ hE hf
    obtain ⟨f', rfl⟩ : ∃ f', f = f' + 1 := ⟨f - 1, by omega⟩
    have hM := hC.2.2.1
    obtain ⟨hc1, hc2, hc3, hc4⟩ := hC.2.2.2.2.1 w hw
    have hfe : ftV G c Ln W l p w j n = decide (tvM G c w n l p = W (4 * (c w).toNat + j)) := by
      unfold ftV
      rw [decide_eq_true (by omega), Bool.true_and]
    have hE' : ftV G c Ln W l p w j n = false → EI a G c Ln W w r l p (limJ (j + 1) n) := by
      intro hff j' hj'
      obtain ⟨e1, e2⟩ := hE j' hj'
      by_cases e : j' = j
      · subst e
        rw [limJ_n (Nat.lt_irrefl _)] at e2
        refine ⟨e1.cong fun n' hn' => ?_, fun n' g1 g2 g3 => ?_⟩
        · rw [limJ_n (Nat.lt_irrefl _), limJ_p (Nat.lt_succ_self _)]
          by_cases q : n' = n
          · subst q; rw [hff, Bool.and_false, Bool.and_false]
          · rw [show decide (1 ≤ n' ∧ n' < n) = decide (1 ≤ n' ∧ n' < n + 1) from decide_eq_decide.mpr ⟨fun z => by omega, fun z => by omega⟩]
        · rw [limJ_p (Nat.lt_succ_self _)] at g2
          by_cases q : n' = n
          · subst q; rw [hff] at g3; exact (nomatch g3)
          · exact e2 n' g1 (by omega) g3
      · by_cases q : j' < j
        · rw [limJ_p q] at e1 e2
          rw [limJ_p (by omega)]
          exact ⟨e1, e2⟩
        · rw [limJ_n q] at e1 e2
          rw [limJ_n (by omega)]
          exact ⟨e1, e2⟩
    have hun : ∀ a1 P1, Fr (sAB r w) a a1 → QI a1 M P1 → Mono a P a1 P1 → EI a1 G c Ln W w r l p (limJ (j + 1) n) → ∃ a' P', J_X1_askBehind_137 K (L_X1_askBehind_81 K f') (r : Int) (w : Int) v3 v4 (Ln w : Int) (n : Int) (tvM G c w n l p) (j : Int) a1 = K (r : Int) (w : Int) v3 v4 (Ln w : Int) ((n + 1 : Nat) : Int) a' ∧ Fr (sAB r w) a a' ∧ QI a' M P' ∧ Mono a P a' P' ∧ EI a' G c Ln W w r l p (limC (n + 1)) := by
      intro a1 P1 g1 g2 g3 g4
      obtain ⟨a', P', d1, d2, d3, d4, d5⟩ := ih (j + 1) a1 P1 f' (by omega) (hC.fr (sAB_As g1)) g2 g4 (by omega)
      refine ⟨a', P', ?_, g1.trans d2, d3, g3.trans d4, d5⟩
      unfold J_X1_askBehind_137
      rw [nmv_s, wr_s (by omega)]
      exact d1
    show ∃ a' P', LB_X1_askBehind_81 K (L_X1_askBehind_81 K f') _ _ _ _ _ _ _ _ _ = _ ∧ _
    unfold LB_X1_askBehind_81
    rw [if_neg (by omega), ald_s (by omega), Int.toNat_natCast, hc1, wordOf_s hC.2.1 hc2 (by omega), cll_s, hc3, if_pos (show (j : Int) < (Ln w : Int) by omega), show (4 * c w + (j : Int)).toNat = 4 * (c w).toNat + j by omega, hC.2.2.2.2.2.1]
    by_cases hm : W (4 * (c w).toNat + j) = tvM G c w n l p
    · have hft : ftV G c Ln W l p w j n = true := by rw [hfe, decide_eq_true hm.symm]
      rw [if_neg (fun z => z hm), wr_s (x := (r : Int) * 4) (by omega), wr_s (x := (r : Int) * 4 + (w : Int)) (by omega), wr_s (x := ((r : Int) * 4 + (w : Int)) * 4) (by omega), wr_s (x := ((r : Int) * 4 + (w : Int)) * 4 + (j : Int)) (by omega), ald_s (by omega), ast_s (by omega), show (((r : Int) * 4 + (w : Int)) * 4 + (j : Int)).toNat = eX r w j by unfold eX; omega]
      have f1 : Fr (sAB r w) a (upd2 a 45 (eX r w j) (ior (a 45 (eX r w j)) (ishl 1 (n : Int)))) := (Fr.refl _ _).upd _ (by
        unfold sAB
        rw [decide_eq_true (by unfold eX; omega), decide_eq_true (by unfold eX; omega), show ((45 : Nat) == 45) = true from rfl, Bool.and_self, Bool.true_and, Bool.or_true, Bool.true_or, Bool.true_or, Bool.true_or])
      have hQ1 : QI (upd2 a 45 (eX r w j) (ior (a 45 (eX r w j)) (ishl 1 (n : Int)))) M P := by
        unfold QI
        rw [u2r (by decide), u2r (by decide), u2r (by decide)]
        exact hQ
      obtain ⟨a2, P2, r1, r2, r3, r4, r5, r6⟩ := reach_s hM hQ1 hw (by omega : n < 21)
      rw [r1, cll_s]
      refine hun a2 P2 (f1.trans (sRc_AB r2)) r3 ⟨fun r' hr' h1 => ?_, fun q hq => ?_, r4, fun w' hw' => ?_⟩ (fun j' hj' => ?_)
      · rw [r6 r', u2r (by decide)]
        split
        · rfl
        · exact h1
      · rw [r5 q hq, u2r (by decide)]
      · rw [r6, if_neg (by omega), u2r (by decide)]
      · obtain ⟨e1, e2⟩ := hE j' hj'
        have hmon : ∀ n', a 46 (w * 21 + n') = 1 → a2 46 (w * 21 + n') = 1 := by
          intro n' h1
          rw [r6, u2r (by decide)]
          split
          · rfl
          · exact h1
        rw [r2.row 45 (fun _ => rfl)]
        by_cases e : j' = j
        · subst e
          rw [u2s]
          rw [limJ_n (Nat.lt_irrefl _)] at e2
          refine ⟨(e1.or (isB_1 (by omega : n < 21))).cong fun n' hn' => ?_, fun n' g1 g2 g3 => ?_⟩
          · rw [limJ_n (Nat.lt_irrefl _), limJ_p (Nat.lt_succ_self _)]
            by_cases q : n' = n
            · subst q; rw [hft, decide_eq_true (show n' = n' from rfl), decide_eq_true (show 1 ≤ n' ∧ n' < n' + 1 by omega), Bool.or_true]; rfl
            · rw [show decide (1 ≤ n' ∧ n' < n) = decide (1 ≤ n' ∧ n' < n + 1) from decide_eq_decide.mpr ⟨fun z => by omega, fun z => by omega⟩, decide_eq_false q, Bool.or_false]
          · rw [limJ_p (Nat.lt_succ_self _)] at g2
            by_cases q : n' = n
            · subst q; rw [r6, if_pos rfl]
            · exact hmon n' (e2 n' g1 (by omega) g3)
        · rw [u2n (by unfold eX; omega)]
          by_cases q : j' < j
          · rw [limJ_p q] at e1 e2
            rw [limJ_p (by omega)]
            exact ⟨e1, fun n' g1 g2 g3 => hmon n' (e2 n' g1 g2 g3)⟩
          · rw [limJ_n q] at e1 e2
            rw [limJ_n (by omega)]
            exact ⟨e1, fun n' g1 g2 g3 => hmon n' (e2 n' g1 g2 g3)⟩
    · rw [if_pos hm]
      exact hun a P (Fr.refl _ _) hQ (Mono.refl _ _) (hE' (by rw [hfe, decide_eq_false (fun z => hm z.symm)]))
theorem ab46 {G : Tg} {M : Nat} {c : Nat → Int} {Ln : Nat → Nat} {W : Nat → Int} {w r l p : Nat} (hw : w < M) (hl : l < M) (hr : r < 84) : ∀ (k n : Nat) (a : Mm) (P f : Nat), n + k = 21 → 1 ≤ n → ChS a G M c Ln W → QI a M P → EI a G c Ln W w r l p (limC n) → k < f → ∃ a' P', L_X1_askBehind_46 f (r : Int) (w : Int) (c l) (gpO p) (Ln w : Int) (n : Int) a = some (0, a') ∧ Fr (sAB r w) a a' ∧ QI a' M P' ∧ Mono a P a' P' ∧ EI a' G c Ln W w r l p (limC 21) := by
  intro k
  induction k with
  | zero =>
    intro n a P f hn h1 hC hQ hE hf
    obtain ⟨f', rfl⟩ : ∃ f', f = f' + 1 := ⟨f - 1, by omega⟩
    have e : n = 21 := by omega
    subst e
    refine ⟨a, P, ?_, Fr.refl _ _, hQ, Mono.refl _ _, hE⟩
    show LB_X1_askBehind_46 (L_X1_askBehind_46 f') _ _ _ _ _ _ _ = _
    unfold LB_X1_askBehind_46
    rw [if_pos (by decide)]
  | succ k ih =>
    intro n a P f hn h1 hC hQ hE hf
    obtain ⟨f', rfl⟩ : ∃ f', f = f' + 1 := ⟨f - 1, by omega⟩
    have hM := hC.2.2.1
    obtain ⟨hc1, hc2, hc3, hc4⟩ := hC.2.2.2.2.1 w hw
    show ∃ a' P', LB_X1_askBehind_46 (L_X1_askBehind_46 f') _ _ _ _ _ _ _ = _ ∧ _
    unfold LB_X1_askBehind_46
    rw [if_neg (by omega)]
    by_cases h0 : Ln w = 0
    · rw [if_pos (by omega)]
      exact ⟨a, P, rfl, Fr.refl _ _, hQ, Mono.refl _ _, hE.cong (fun j _ => Or.inr (by omega))⟩
    · obtain ⟨a1, d1, d2⟩ := inCrowd_s hC.1 (n : Int) (c w) (c l) (gpO p)
      have htv : mn G (n : Int) (c w) (c l) (gpO p) (c w) 0 = tvM G c w n l p := by
        unfold tvM
        rw [if_neg (by omega), show gpO n = (n : Int) by unfold gpO; rw [if_neg (by omega)]]
      rw [if_neg (by omega), ald_s (by omega), Int.toNat_natCast, hc1, d1, cll_s, nmv_s, nmv_s, htv]
      have hC1 := hC.fr (sAB_As (sM_AB (r := r) (w := w) d2))
      obtain ⟨a2, P2, e1, e2, e3, e4, e5⟩ := ab81 (K := L_X1_askBehind_46 f') (v3 := c l) (v4 := gpO p) hw hr (by omega : 1 ≤ n ∧ n < 21) (Ln w) 0 a1 P 100000 (by omega) hC1 (hQ.frM d2) ((hE.frM d2).cong (fun j _ => Or.inl (limJ_n (Nat.not_lt_zero _)))) (by omega)
      obtain ⟨a3, P3, g1, g2, g3, g4, g5⟩ := ih (n + 1) a2 P2 f' (by omega) (by omega) (hC1.fr (sAB_As e2)) e3 e5 (by omega)
      refine ⟨a3, P3, ?_, ((sM_AB d2).trans e2).trans g2, g3, ((Mono.frM d2).trans e4).trans g4, g5⟩
      rw [← g1]
      exact e1
theorem askB_s {G : Tg} {M : Nat} {c : Nat → Int} {Ln : Nat → Nat} {W : Nat → Int} {w l g : Nat} {a : Mm} {P : Nat} (hw : w < M) (hl : l < M) (hg : g < 21) (hC : ChS a G M c Ln W) (hQ : QI a M P) (hE : EI a G c Ln W w (l * 21 + g) l (pG g) (limC 1)) : ∃ a' P', F_X1_askBehind ((l * 21 + g : Nat) : Int) (w : Int) a = some (0, a') ∧ Fr (sAB (l * 21 + g) w) a a' ∧ QI a' M P' ∧ Mono a P a' P' ∧ EI a' G c Ln W w (l * 21 + g) l (pG g) (limC 21) := by
  have hM := hC.2.2.1
  obtain ⟨hc1, hc2, hc3, hc4⟩ := hC.2.2.2.2.1 w hw
  have hlc := (hC.2.2.2.2.1 l hl).1
  have hpp := hC.2.1.1
  obtain ⟨a', P', e1, e2, e3, e4, e5⟩ := ab46 hw hl (by omega : l * 21 + g < 84) 20 1 a P 100000 rfl (by decide) hC hQ hE (by decide)
  refine ⟨a', P', ?_, e2, e3, e4, e5⟩
  have hj : ∀ v : Int, v = gpO (pG g) → J_X1_askBehind_28 ((l * 21 + g : Nat) : Int) (w : Int) (c l) v a = some (0, a') := by
    intro v hv
    subst hv
    unfold J_X1_askBehind_28
    rw [ald_s (by omega), Int.toNat_natCast, hc1, wordsBy_s (by omega), cll_s, if_pos hc2, hc3, nmv_s, nmv_s, ← e1]
    rfl
  unfold F_X1_askBehind
  rw [dvn_s (by decide), tdiv_p (by omega), tmod_p (by omega), wr_s (x := ((l * 21 + g : Nat) : Int) / 21) (by omega), wr_s (x := ((l * 21 + g : Nat) : Int) % 21) (by omega), ald_s (by omega), nmv_s, show (((l * 21 + g : Nat) : Int) / 21).toNat = l by omega, hlc, dvn_s (by decide)]
  by_cases h0 : g = 0
  · rw [if_neg (by omega), nmv_s]
    exact hj 63 (by unfold pG gpO; rw [if_pos h0, if_pos rfl])
  · rw [if_pos (by omega), dvn_s (by decide), nmv_s]
    exact hj _ (by unfold pG gpO; rw [if_neg h0, if_neg (by omega)]; omega)

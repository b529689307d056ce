/-! the tape: feed -/
def IvT (t : Int) (r : Nat → Int) (t' : Int) (r' : Nat → Int) : Prop := (t' = t ∧ 0 ≤ t ∧ t ≤ 220) ∧ ∀ i : Nat, (i : Int) < t → r i = iand (r' i) 255 ∧ 0 ≤ r i ∧ r i ≤ 255
def InvT (a b : Mm) : Prop := IvT (a 7 1) (a 8) (b 54 1) (b 55)
def sT (k i : Nat) : Bool := k == 8 || (k == 7 && i == 1)
def sU (k i : Nat) : Bool := k == 55 || (k == 54 && i == 1)
theorem IvT.push {t t' : Int} {r r' : Nat → Int} (h : IvT t r t' r') (ht : t < 220) {x y : Int} (e : iand y 255 = x) : IvT (t + 1) (upr r t.toNat x) (t + 1) (upr r' t.toNat y) := by
  refine ⟨⟨rfl, by have := h.1; omega, by omega⟩, ?_⟩
  intro i hi
  by_cases h1 : i = t.toNat
  · subst h1
    rw [upr_s, upr_s, e]
    exact ⟨rfl, by rw [← e]; exact (iand_byte y).1, by rw [← e]; exact (iand_byte y).2⟩
  · rw [upr_n h1, upr_n h1]
    exact h.2 i (by have := h.1; omega)
theorem push_l (v : Int) : ∀ (j : Nat) (a b : Mm) (f g : Nat), InvT a b → a 7 1 + j ≤ 220 → j < f → j < g → j ≤ 4 → ∃ a' b', L_X10_putNumber_3 f v (8 * (j : Int) - 8) a = some (0, a') ∧ L_X12_push_3 g v (8 * (j : Int) - 8) b = some (0, b') ∧ InvT a' b' ∧ a' 7 1 = a 7 1 + j ∧ Fr sT a a' ∧ Fr sU b b' := by
  intro j
  induction j with
  | zero =>
    intro a b f g hI _ hf hg _
    obtain ⟨f', rfl⟩ : ∃ f', f = f' + 1 := ⟨f - 1, by omega⟩
    obtain ⟨g', rfl⟩ : ∃ g', g = g' + 1 := ⟨g - 1, by omega⟩
    refine ⟨a, b, ?_, ?_, hI, by omega, Fr.refl _ _, Fr.refl _ _⟩
    · show LB_X10_putNumber_3 (L_X10_putNumber_3 f') _ _ _ = _
      unfold LB_X10_putNumber_3
      rw [if_pos (by omega)]
    · show LB_X12_push_3 (L_X12_push_3 g') _ _ _ = _
      unfold LB_X12_push_3
      rw [if_pos (by omega)]
  | succ j ih =>
    intro a b f g hI ht hf hg hj
    obtain ⟨f', rfl⟩ : ∃ f', f = f' + 1 := ⟨f - 1, by omega⟩
    obtain ⟨g', rfl⟩ : ∃ g', g = g' + 1 := ⟨g - 1, by omega⟩
    have h0 := hI.1
    have es : 8 * ((j + 1 : Nat) : Int) - 8 = ((8 * j : Nat) : Int) := by omega
    have es2 : wr (((8 * j : Nat) : Int) + -8) = 8 * (j : Int) - 8 := by rw [wr_s (by omega)]; omega
    obtain ⟨a', b', e1, e2, e3, e4, e5, e6⟩ := ih (upd2 (upd2 a 8 (a 7 1).toNat (iand (iushr v ((8 * j : Nat) : Int)) 255)) 7 1 (a 7 1 + 1)) (upd2 (upd2 b 55 (b 54 1).toNat (i2b (ishr v ((8 * j : Nat) : Int)))) 54 1 (b 54 1 + 1)) f' g'
      (by
        have := hI.push (by omega) (byte_same v (s := 8 * j) (by omega))
        unfold InvT
        rw [u2s, u2s, u2r (by decide), u2_row, u2r (by decide), u2_row, h0.1]
        exact this) (by rw [u2s]; omega) (by omega) (by omega) (by omega)
    refine ⟨a', b', ?_, ?_, e3, ?_, ?_, ?_⟩
    · show LB_X10_putNumber_3 (L_X10_putNumber_3 f') _ _ _ = _
      unfold LB_X10_putNumber_3
      rw [es, if_neg (by omega), if_neg (by omega), ast_s (by omega), stf_s, nmv_s, es2, u2r (by decide), wr_s (by omega)]
      exact e1
    · show LB_X12_push_3 (L_X12_push_3 g') _ _ _ = _
      unfold LB_X12_push_3
      rw [es, if_neg (by omega), ast_s (by omega), stf_s, nmv_s, es2, u2r (by decide), wr_s (by omega)]
      exact e2
    · rw [e4, u2s]; omega
    · exact Fr.trans (Fr.upd (Fr.upd (Fr.refl _ _) _ rfl) _ rfl) e5
    · exact Fr.trans (Fr.upd (Fr.upd (Fr.refl _ _) _ rfl) _ rfl) e6
theorem push_s (v : Int) {a b : Mm} (hI : InvT a b) (ht : a 7 1 + 4 ≤ 220) : ∃ a' b', F_X10_putNumber v a = some (0, a') ∧ F_X12_push v b = some (0, b') ∧ InvT a' b' ∧ a' 7 1 = a 7 1 + 4 ∧ Fr sT a a' ∧ Fr sU b b' := by
  obtain ⟨a', b', e1, e2, e3, e4, e5, e6⟩ := push_l v 4 a b 100000 100000 hI ht (by decide) (by decide) (by decide)
  rw [show 8 * ((4 : Nat) : Int) - 8 = 24 by decide] at e1 e2
  refine ⟨a', b', ?_, ?_, e3, e4, e5, e6⟩
  · unfold F_X10_putNumber; rw [nmv_s]; exact e1
  · unfold F_X12_push; rw [nmv_s]; exact e2
theorem feed_s (v1 v2 v3 v4 v5 : Int) {a b : Mm} (hI : InvT a b) : ∃ r a' b', F_X11_feed v1 v2 v3 v4 v5 a = some (r, a') ∧ F_X12_feed v1 v2 v3 v4 v5 b = some (r, b') ∧ InvT a' b' ∧ Fr sT a a' ∧ Fr sU b b' := by
  have h0 := hI.1
  unfold F_X11_feed F_X10_put F_X12_feed
  rw [h0.1, wr_s (by omega)]
  by_cases h : a 7 1 + 20 ≤ 220
  · obtain ⟨a1, b1, e1, d1, hI1, t1, f1, g1⟩ := push_s v1 hI (by omega)
    obtain ⟨a2, b2, e2, d2, hI2, t2, f2, g2⟩ := push_s v2 hI1 (by omega)
    obtain ⟨a3, b3, e3, d3, hI3, t3, f3, g3⟩ := push_s v3 hI2 (by omega)
    obtain ⟨a4, b4, e4, d4, hI4, t4, f4, g4⟩ := push_s v4 hI3 (by omega)
    obtain ⟨a5, b5, e5, d5, hI5, t5, f5, g5⟩ := push_s v5 hI4 (by omega)
    refine ⟨a5 7 1, a5, b5, ?_, ?_, hI5, (((f1.trans f2).trans f3).trans f4).trans f5, (((g1.trans g2).trans g3).trans g4).trans g5⟩
    · rw [if_pos h, e1, cll_s, e2, cll_s, e3, cll_s, e4, cll_s, e5, cll_s, cll_s]
    · rw [if_pos h, d1, cll_s, d2, cll_s, d3, cll_s, d4, cll_s, d5, cll_s, hI5.1.1]
  · refine ⟨-1, a, b, ?_, ?_, hI, Fr.refl _ _, Fr.refl _ _⟩
    · rw [if_neg h, cll_s]
    · rw [if_neg h]
theorem byteA_s {a b : Mm} (h : InvT a b) (i : Int) (hi : 0 ≤ i ∧ i < a 7 1) : F_X10_byteAt i a = some (a 8 i.toNat, a) := by
  have h0 := h.1
  unfold F_X10_byteAt
  rw [if_neg (by omega), if_neg (by omega), ald_s (by omega)]
theorem byteB_s {a b : Mm} (h : InvT a b) (i : Int) (hi : 0 ≤ i ∧ i < a 7 1) : F_X12_byteAt i b = some (a 8 i.toNat, b) := by
  have h0 := h.1
  unfold F_X12_byteAt
  rw [ald_s (by omega), (h.2 i.toNat (by omega)).1]

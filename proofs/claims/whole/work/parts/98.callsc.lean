/-! sentence, keep, undo; the beginning -/
theorem W_sentence {CO : Mm → Tg → Prop} (hCO : CoFr CO) {a b : Mm} (h : InvW CO a b) (v1 v2 : Int) : ∃ (r : Int) (a' b' : Mm), F_X11_sentence v1 v2 a = some (r, a') ∧ F_X12_sentence v1 v2 b = some (r, b') ∧ InvW CO a' b' ∧ potW a' = potW a := by
  have h' := h
  obtain ⟨hB, hL, G, gA, gB, hC⟩ := h'
  have hN := hB.1.A.1
  have t0 := hB.2.1.1
  rw [sentenceA_s (by omega) (by omega), sentenceB_s hB.1 hB.2.1]
  by_cases c : (0 ≤ v1 ∧ v1 < a 1 5) ∧ (0 ≤ v2 ∧ v2 ≤ 4) ∧ v2 ≤ a 7 1
  · rw [if_pos c, if_pos c]
    obtain ⟨w, rfl⟩ : ∃ w : Nat, v1 = (w : Int) := ⟨v1.toNat, by omega⟩
    obtain ⟨n, rfl⟩ : ∃ n : Nat, v2 = (n : Int) := ⟨v2.toNat, by omega⟩
    rw [Int.toNat_natCast, Int.toNat_natCast]
    by_cases g : goodW (a 8) 0 n
    · rw [if_pos g, if_pos g]
      have fa : Fr (fun k i => k == 5 || k == 6 || (k == 7 && i == 1) || (k == 43 && i == 10)) a (sentA w n a) := Fr.upd (Fr.upd (Fr.upd (Fr.rowS (Fr.refl _ _) _ (fun _ => rfl)) _ rfl) _ rfl) _ rfl
      have fb : Fr (fun k i => k == 59 || k == 60 || (k == 54 && i == 1)) b (sentB (a 8) w n b) := Fr.upd (Fr.rowS (Fr.upd (Fr.refl _ _) _ rfl) _ (fun _ => rfl)) _ rfl
      have r5 : sentA w n a 5 = upr (a 5) w (n : Int) := by unfold sentA; rw [u2r (by decide), u2r (by decide), u2_row, rowS_n (by decide)]
      have r6 : sentA w n a 6 = blit (a 8) (a 6) (4 * w) n := by unfold sentA; rw [u2r (by decide), u2r (by decide), u2r (by decide), rowS_c]
      have q5 : sentB (a 8) w n b 59 = upr (b 59) w (n : Int) := by unfold sentB; rw [u2_row, rowS_n (by decide), u2r (by decide)]
      have q6 : sentB (a 8) w n b 60 = blit (a 8) (b 60) (4 * w) n := by unfold sentB; rw [u2r (by decide), rowS_c]
      have hP' : InvP (sentA w n a) (sentB (a 8) w n b) := by
        obtain ⟨p1, p2, p3, p4⟩ := hB.1
        unfold InvP
        rw [r5, r6, q5, q6, fa.row 1 (fun _ => rfl), fa.row 2 (fun _ => rfl), fa.row 3 (fun _ => rfl), fa.row 4 (fun _ => rfl), fb 54 2 rfl, fb 54 3 rfl, fb 54 4 rfl, fb.row 56 (fun _ => rfl), fb.row 57 (fun _ => rfl), fb.row 58 (fun _ => rfl)]
        refine ⟨p1, fun i hi => ?_, fun i h1 h2 => ?_, fun i j h1 h2 => ?_⟩
        · have z := p2 i hi
          by_cases e : i = w
          · subst e
            rw [upr_s, upr_s]
            exact ⟨⟨z.1.1, z.1.2.1, z.1.2.2.1, rfl⟩, z.2.1, z.2.2.1, by omega, by omega⟩
          · rw [upr_n e, upr_n e]; exact z
        · rw [upr_n (by omega), upr_n (by omega)]; exact p3 i h1 h2
        · by_cases e : i = w
          · subst e
            rw [upr_s] at h2
            rw [blit_in (by omega), blit_in (by omega), show 4 * i + j - 4 * i = j by omega]
            exact ⟨rfl, g j (by omega) (by omega)⟩
          · rw [upr_n e] at h2
            have z := p2 i h1
            rw [blit_out (by omega), blit_out (by omega)]
            exact p4 i j h1 h2
      have kc : keepC a (sentA w n a) := fa.kc (h43 := fun i hi => by simp only [Bool.or_eq_false_iff, Bool.and_eq_false_iff, beq_eq_false_iff_ne]; omega)
      obtain ⟨w1, w2⟩ := stepW hCO hL hC (a' := sentA w n a) (b' := sentB (a 8) w n b) ⟨hP', emptyT (by unfold sentA; rw [u2r (by decide), u2s]) (by unfold sentB; rw [u2r (by decide), rowS_n (by decide), u2s]), hB.2.2.1.fr fa fb, hB.2.2.2.1.fr fa fb, hB.2.2.2.2.1.fr fa, hB.2.2.2.2.2.1.fr fa, hB.2.2.2.2.2.2.fr fa⟩ (gA.fr (fa 17 3 rfl) (fun k i g1 g2 => fa k i (by simp only [Bool.or_eq_false_iff, Bool.and_eq_false_iff, beq_eq_false_iff_ne]; omega))) (gB.fr (fb 54 14 rfl) (fun k i g1 g2 => fb k i (by simp only [Bool.or_eq_false_iff, Bool.and_eq_false_iff, beq_eq_false_iff_ne]; omega))) kc (Or.inl (u2s _ _ _ _))
      exact ⟨_, _, _, rfl, rfl, w1, w2⟩
    · rw [if_neg g, if_neg g]
      have fb : Fr sTb b (upd2 b 54 1 0) := Fr.upd (Fr.refl _ _) _ rfl
      obtain ⟨w1, w2⟩ := W_tape hCO h fb (u2s _ _ _ _)
      exact ⟨_, _, _, rfl, rfl, w1, w2⟩
  · rw [if_neg c, if_neg c]; exact sameW h _
theorem IvS.cpy {n s x s' x' : Int} {wh br wh' br' d1 d2 d3 d4 : Nat → Int} (h : IvS n s x wh br s' x' wh' br') : IvS n s x (cpyR 150 wh d1) (cpyR 150 br d2) s' x' (cpyR 150 wh' d3) (cpyR 150 br' d4) := by
  refine ⟨h.1, fun i hi => ?_⟩
  have h1 := h.1
  unfold cpyR
  rw [if_pos (by omega), if_pos (by omega), if_pos (by omega), if_pos (by omega)]
  exact h.2 i hi
theorem row2_n {m : Mm} {c d k : Nat} {f g : Nat → Int} (h1 : k ≠ c) (h2 : k ≠ d) : row2 m c f d g k = m k := by unfold row2; rw [if_neg h1, if_neg h2]
theorem row2_1 (m : Mm) (c d : Nat) (f g : Nat → Int) : row2 m c f d g c = f := if_pos rfl
theorem row2_2 {m : Mm} {c d : Nat} {f g : Nat → Int} (h : d ≠ c) : row2 m c f d g d = g := by unfold row2; rw [if_neg h, if_pos rfl]
theorem W_keep {CO : Mm → Tg → Prop} (hCO : CoFr CO) {a b : Mm} (h : InvW CO a b) : ∃ (r : Int) (a' b' : Mm), F_X11_keep a = some (r, a') ∧ F_X12_keep b = some (r, b') ∧ InvW CO a' b' ∧ potW a' = potW a := by
  have hB := h.1
  rw [keepA_s, keepB_s]
  have fa : Fr (fun k i => k == 12 || k == 13 || (k == 9 && (i == 6 || i == 7))) a (upd2 (upd2 (cpy2 (cpy2 a 10 12 150) 11 13 150) 9 6 (a 9 4)) 9 7 (a 9 5)) := by
    refine Fr.upd (Fr.upd (fun k i e => ?_) _ rfl) _ rfl
    simp only [Bool.or_eq_false_iff, Bool.and_eq_false_iff, beq_eq_false_iff_ne] at e
    rw [cpy2_r (by omega), cpy2_r (by omega)]
  have fb : Fr (fun k i => k == 93 || k == 94 || (k == 54 && (i == 68 || i == 69 || i == 70))) b (keepRow (upd2 (upd2 (upd2 b 54 68 1) 54 69 (b 54 5)) 54 70 (b 54 6)) 150) := by
    intro k i e
    have e' := e
    simp only [Bool.or_eq_false_iff, Bool.and_eq_false_iff, beq_eq_false_iff_ne] at e'
    unfold keepRow
    rw [row2_n (by omega) (by omega)]
    exact (Fr.upd (Fr.upd (Fr.upd (Fr.refl (fun k i => k == 93 || k == 94 || (k == 54 && (i == 68 || i == 69 || i == 70))) b) _ rfl) _ rfl) _ rfl) k i e
  have hK' : InvK (upd2 (upd2 (cpy2 (cpy2 a 10 12 150) 11 13 150) 9 6 (a 9 4)) 9 7 (a 9 5)) (keepRow (upd2 (upd2 (upd2 b 54 68 1) 54 69 (b 54 5)) 54 70 (b 54 6)) 150) := by
    right
    have e96 : (upd2 (upd2 (cpy2 (cpy2 a 10 12 150) 11 13 150) 9 6 (a 9 4)) 9 7 (a 9 5)) 9 6 = a 9 4 := by rw [u2n (by decide), u2s]
    have e12 : (upd2 (upd2 (cpy2 (cpy2 a 10 12 150) 11 13 150) 9 6 (a 9 4)) 9 7 (a 9 5)) 12 = cpyR 150 (a 10) (a 12) := by rw [u2r (by decide), u2r (by decide), cpy2_r (by decide), cpy2_d]
    have e13 : (upd2 (upd2 (cpy2 (cpy2 a 10 12 150) 11 13 150) 9 6 (a 9 4)) 9 7 (a 9 5)) 13 = cpyR 150 (a 11) (a 13) := by rw [u2r (by decide), u2r (by decide), cpy2_d, cpy2_r (by decide), cpy2_r (by decide)]
    have g : ∀ j, (keepRow (upd2 (upd2 (upd2 b 54 68 1) 54 69 (b 54 5)) 54 70 (b 54 6)) 150) 54 j = (upd2 (upd2 (upd2 b 54 68 1) 54 69 (b 54 5)) 54 70 (b 54 6)) 54 j := fun j => by unfold keepRow; rw [row2_n (by decide) (by decide)]
    have g93 : (keepRow (upd2 (upd2 (upd2 b 54 68 1) 54 69 (b 54 5)) 54 70 (b 54 6)) 150) 93 = cpyR 150 (b 61) (b 93) := by unfold keepRow; rw [row2_1, u2r (by decide), u2r (by decide), u2r (by decide), u2r (by decide), u2r (by decide), u2r (by decide)]
    have g94 : (keepRow (upd2 (upd2 (upd2 b 54 68 1) 54 69 (b 54 5)) 54 70 (b 54 6)) 150) 94 = cpyR 150 (b 62) (b 94) := by unfold keepRow; rw [row2_2 (by decide), u2r (by decide), u2r (by decide), u2r (by decide), u2r (by decide), u2r (by decide), u2r (by decide)]
    rw [e96, e12, e13, u2s, fa 1 5 rfl, g, g, g, g93, g94, u2n (by decide), u2n (by decide), u2s, u2n (by decide), u2s, u2s]
    exact ⟨hB.2.2.1.1.2.2.1, by decide, IvS.cpy hB.2.2.1⟩
  obtain ⟨w1, w2⟩ := W_gen hCO h fa fb (fun _ => ⟨hB.1.fr fa fb, hB.2.1.fr fa fb, hB.2.2.1.fr fa fb, hK', hB.2.2.2.2.1.fr fa, hB.2.2.2.2.2.1.fr fa, hB.2.2.2.2.2.2.fr fa⟩) (fun k i z => by simp only [Bool.or_eq_false_iff, Bool.and_eq_false_iff, beq_eq_false_iff_ne]; omega) (fun k i z => by simp only [Bool.or_eq_false_iff, Bool.and_eq_false_iff, beq_eq_false_iff_ne]; omega) fa.kc (fa 43 10 rfl) (fa.row 5 (fun _ => rfl)) (fa.row 6 (fun _ => rfl))
  exact ⟨_, _, _, rfl, by rw [show b 54 5 = a 9 4 from hB.2.2.1.1.1], w1, w2⟩
theorem W_undo {CO : Mm → Tg → Prop} (hCO : CoFr CO) {a b : Mm} (h : InvW CO a b) : ∃ (r : Int) (a' b' : Mm), F_X11_undo a = some (r, a') ∧ F_X12_undo b = some (r, b') ∧ InvW CO a' b' ∧ potW a' = potW a := by
  have hB := h.1
  rw [undoA_s, undoB_s]
  rcases hB.2.2.2.1 with ⟨z1, z2⟩ | ⟨z1, z2, z3⟩
  · rw [if_pos z1, if_pos z2]
    have fa : Fr (fun k i => k == 14 && i == 5) a (upd2 a 14 5 (-1)) := Fr.upd (Fr.refl _ _) _ rfl
    have fb : Fr No b b := Fr.refl _ _
    obtain ⟨w1, w2⟩ := W_gen hCO h fa fb (fun _ => hB.fr fa fb (hB.2.1.fr fa fb) (Or.inl (u2s _ _ _ _)) (hB.2.2.2.2.2.2.fr fa)) (fun k i z => by simp only [Bool.and_eq_false_iff, beq_eq_false_iff_ne]; omega) (fun k i z => rfl) fa.kc (fa 43 10 rfl) (fa.row 5 (fun _ => rfl)) (fa.row 6 (fun _ => rfl))
    exact ⟨_, _, _, rfl, rfl, w1, w2⟩
  · rw [if_neg (by omega), if_neg z2]
    have fa : Fr sDf a (upd2 (upd2 (cpy2 (cpy2 (upd2 a 14 5 (-1)) 12 10 150) 13 11 150) 9 4 (a 9 6)) 9 5 (a 9 7)) := by
      refine Fr.upd (Fr.upd (fun k i e => ?_) _ rfl) _ rfl
      have e' := e
      unfold sDf sDa at e'
      simp only [Bool.or_eq_false_iff, Bool.and_eq_false_iff, beq_eq_false_iff_ne] at e'
      rw [cpy2_r (by omega), cpy2_r (by omega)]
      exact (Fr.upd (Fr.refl sDf a) _ rfl) k i e
    have fb : Fr sDb b (undoRow (upd2 (upd2 b 54 5 (b 54 69)) 54 6 (b 54 70)) 150) := by
      intro k i e
      have e' := e
      unfold sDb at e'
      simp only [Bool.or_eq_false_iff, Bool.and_eq_false_iff, beq_eq_false_iff_ne] at e'
      unfold undoRow
      rw [row2_n (by omega) (by omega)]
      exact (Fr.upd (Fr.upd (Fr.refl sDb b) _ rfl) _ rfl) k i e
    have hS' : InvS (upd2 (upd2 (cpy2 (cpy2 (upd2 a 14 5 (-1)) 12 10 150) 13 11 150) 9 4 (a 9 6)) 9 5 (a 9 7)) (undoRow (upd2 (upd2 b 54 5 (b 54 69)) 54 6 (b 54 70)) 150) := by
      have e10 : (upd2 (upd2 (cpy2 (cpy2 (upd2 a 14 5 (-1)) 12 10 150) 13 11 150) 9 4 (a 9 6)) 9 5 (a 9 7)) 10 = cpyR 150 (a 12) (a 10) := by rw [u2r (by decide), u2r (by decide), cpy2_r (by decide), cpy2_d, u2r (by decide), u2r (by decide)]
      have e11 : (upd2 (upd2 (cpy2 (cpy2 (upd2 a 14 5 (-1)) 12 10 150) 13 11 150) 9 4 (a 9 6)) 9 5 (a 9 7)) 11 = cpyR 150 (a 13) (a 11) := by rw [u2r (by decide), u2r (by decide), cpy2_d, cpy2_r (by decide), cpy2_r (by decide), u2r (by decide), u2r (by decide)]
      have g : ∀ j, (undoRow (upd2 (upd2 b 54 5 (b 54 69)) 54 6 (b 54 70)) 150) 54 j = (upd2 (upd2 b 54 5 (b 54 69)) 54 6 (b 54 70)) 54 j := fun j => by unfold undoRow; rw [row2_n (by decide) (by decide)]
      have g61 : (undoRow (upd2 (upd2 b 54 5 (b 54 69)) 54 6 (b 54 70)) 150) 61 = cpyR 150 (b 93) (b 61) := by unfold undoRow; rw [row2_1, u2r (by decide), u2r (by decide), u2r (by decide), u2r (by decide)]
      have g62 : (undoRow (upd2 (upd2 b 54 5 (b 54 69)) 54 6 (b 54 70)) 150) 62 = cpyR 150 (b 94) (b 62) := by unfold undoRow; rw [row2_2 (by decide), u2r (by decide), u2r (by decide), u2r (by decide), u2r (by decide)]
      unfold InvS
      rw [e10, e11, g, g, g61, g62, u2n (by decide), u2s, u2s, u2n (by decide), u2s, u2s, fa 1 5 rfl]
      exact IvS.cpy z3
    have hH' : InvH (upd2 (upd2 (cpy2 (cpy2 (upd2 a 14 5 (-1)) 12 10 150) 13 11 150) 9 4 (a 9 6)) 9 5 (a 9 7)) := Or.inl (by rw [u2r (by decide), u2r (by decide), cpy2_r (by decide), cpy2_r (by decide), u2s])
    obtain ⟨w1, w2⟩ := W_gen hCO h fa fb (fun _ => ⟨hB.1.fr fa fb, hB.2.1.fr fa fb, hS', hB.2.2.2.1.fr fa fb, hH', hB.2.2.2.2.2.1.fr fa, hB.2.2.2.2.2.2.fr fa⟩) (fun k i z => by unfold sDf sDa; simp only [Bool.or_eq_false_iff, Bool.and_eq_false_iff, beq_eq_false_iff_ne]; omega) (fun k i z => by unfold sDb; simp only [Bool.or_eq_false_iff, Bool.and_eq_false_iff, beq_eq_false_iff_ne]; omega) fa.kc (fa 43 10 rfl) (fa.row 5 (fun _ => rfl)) (fa.row 6 (fun _ => rfl))
    exact ⟨_, _, _, rfl, rfl, w1, w2⟩

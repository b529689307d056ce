/-! calls that change people or talk -/
theorem hrS_congr {X Y X' Y' W T : Nat → Int} {rg sp ear n lo hi : Int} (hX : ∀ i : Nat, (i : Int) < n → X' i = X i ∧ Y' i = Y i) (he : 0 ≤ ear ∧ ear < n) : ∀ i : Nat, (∀ j, j < i → 0 ≤ W j ∧ W j < n) → (∀ j, j ≤ i → HsOk n lo hi j (hrS X Y rg sp W T ear j)) → hrS X' Y' rg sp W T ear i = hrS X Y rg sp W T ear i := by
  have hwy : ∀ w : Int, 0 ≤ w ∧ w < n → wayR X' Y' ear w = wayR X Y ear w := fun w hw => by
    unfold wayR
    rw [(hX ear.toNat (by omega)).1, (hX ear.toNat (by omega)).2, (hX w.toNat (by omega)).1, (hX w.toNat (by omega)).2]
  intro i
  induction i with
  | zero => intro _ _; rfl
  | succ i ih =>
    intro hW hO
    have e := ih (fun j hj => hW j (by omega)) (fun j hj => hO j (by omega))
    have hw := hW i (by omega)
    have ho := hO i (by omega)
    show (if wayR X' Y' ear (W i) ≤ rg then plc X' Y' ear (arrR X' Y' sp W T ear i) (W i) (hrS X' Y' rg sp W T ear i) else hrS X' Y' rg sp W T ear i) = (if wayR X Y ear (W i) ≤ rg then plc X Y ear (arrR X Y sp W T ear i) (W i) (hrS X Y rg sp W T ear i) else hrS X Y rg sp W T ear i)
    have ea : arrR X' Y' sp W T ear i = arrR X Y sp W T ear i := by
      unfold arrR
      rw [hwy _ hw]
    rw [hwy _ hw, e, ea]
    have ep : plc X' Y' ear (arrR X Y sp W T ear i) (W i) (hrS X Y rg sp W T ear i) = plc X Y ear (arrR X Y sp W T ear i) (W i) (hrS X Y rg sp W T ear i) := by
      unfold plc
      generalize hq : psN (hrS X Y rg sp W T ear i).2.1 (arrR X Y sp W T ear i) (hrS X Y rg sp W T ear i).1 0 = q
      by_cases c : q < (hrS X Y rg sp W T ear i).1 ∧ (hrS X Y rg sp W T ear i).2.1 q = arrR X Y sp W T ear i
      · rw [if_pos c, if_pos c]
        have hv := (ho.2.2 q c.1).1
        have en : nearR X' Y' ear (W i) ((hrS X Y rg sp W T ear i).2.2 q) = nearR X Y ear (W i) ((hrS X Y rg sp W T ear i).2.2 q) := by
          unfold nearR
          rw [hwy _ hw, hwy _ hv]
        by_cases c2 : nearR X Y ear (W i) ((hrS X Y rg sp W T ear i).2.2 q)
        · rw [if_pos c2, if_pos (by rw [en]; exact c2)]
        · rw [if_neg c2, if_neg (by rw [en]; exact c2)]
      · rw [if_neg c, if_neg c]
    rw [ep]
theorem W_mouth {CO : Mm → Tg → Prop} (hCO : CoFr CO) {a b : Mm} (h : InvW CO a b) (x y t : Int) : ∃ (r : Int) (a' b' : Mm), F_X11_mouth x y t a = some (r, a') ∧ F_X12_mouth x y t b = some (r, b') ∧ InvW CO a' b' ∧ potW a' = potW a := by
  have hB := h.1
  have hN := hB.1.A.1
  have en := hB.1.n
  rw [mouthA_s _ _ _ _ (by omega), mouthB_s _ _ _ _ (by omega), en]
  by_cases c : ((-50 ≤ x ∧ x ≤ 50) ∧ (-50 ≤ y ∧ y ≤ 50) ∧ (0 ≤ t ∧ t ≤ 1000)) ∧ a 1 5 < 8
  · rw [if_pos c, if_pos c]
    have fa : Fr (fun k i => k == 2 || k == 3 || k == 4 || (k == 1 && i == 5)) a (mouthA x y t a) := Fr.upd (Fr.upd (Fr.upd (Fr.upd (Fr.refl _ _) _ rfl) _ rfl) _ rfl) _ rfl
    have fb : Fr (fun k i => k == 56 || k == 57 || k == 58 || (k == 54 && i == 2)) b (mouthB x y t b) := Fr.upd (Fr.upd (Fr.upd (Fr.upd (Fr.refl _ _) _ rfl) _ rfl) _ rfl) _ rfl
    have e15 : mouthA x y t a 1 5 = a 1 5 + 1 := u2s _ _ _ _
    have e542 : mouthB x y t b 54 2 = a 1 5 + 1 := by unfold mouthB; rw [u2s, en]
    have r2 : mouthA x y t a 2 = upr (a 2) (a 1 5).toNat x := by unfold mouthA; rw [u2r (by decide), u2r (by decide), u2r (by decide), u2_row]
    have r3 : mouthA x y t a 3 = upr (a 3) (a 1 5).toNat y := by unfold mouthA; rw [u2r (by decide), u2r (by decide), u2_row, u2r (by decide)]
    have r4 : mouthA x y t a 4 = upr (a 4) (a 1 5).toNat t := by unfold mouthA; rw [u2r (by decide), u2_row, u2r (by decide), u2r (by decide)]
    have q2 : mouthB x y t b 56 = upr (b 56) (a 1 5).toNat x := by unfold mouthB; rw [u2r (by decide), u2r (by decide), u2r (by decide), u2_row, en]
    have q3 : mouthB x y t b 57 = upr (b 57) (a 1 5).toNat y := by unfold mouthB; rw [u2r (by decide), u2r (by decide), u2_row, u2r (by decide), en]
    have q4 : mouthB x y t b 58 = upr (b 58) (a 1 5).toNat t := by unfold mouthB; rw [u2r (by decide), u2_row, u2r (by decide), u2r (by decide), en]
    have hP' : InvP (mouthA x y t a) (mouthB x y t b) := by
      obtain ⟨p1, p2, p3, p4⟩ := hB.1
      unfold InvP
      rw [e15, e542, r2, r3, r4, q2, q3, q4, fa 1 6 rfl, fa 1 7 rfl, fb 54 3 rfl, fb 54 4 rfl, fa.row 5 (fun _ => rfl), fa.row 6 (fun _ => rfl), fb.row 59 (fun _ => rfl), fb.row 60 (fun _ => rfl)]
      refine ⟨⟨rfl, p1.2.1, p1.2.2.1, by omega, by omega, p1.2.2.2.2.2⟩, fun i hi => ?_, fun i h1 h2 => p3 i (by omega) h2, fun i j h1 h2 => ?_⟩
      · by_cases e : i = (a 1 5).toNat
        · have z := p3 i (by omega) (by omega)
          rw [z.1, z.2, e, upr_s, upr_s, upr_s, upr_s, upr_s, upr_s]
          exact ⟨⟨rfl, rfl, rfl, rfl⟩, by omega, by omega, by decide, by decide⟩
        · rw [upr_n e, upr_n e, upr_n e, upr_n e, upr_n e, upr_n e]
          exact p2 i (by omega)
      · by_cases e : i = (a 1 5).toNat
        · have z := p3 i (by omega) (by omega)
          rw [z.1] at h2
          omega
        · exact p4 i j (by omega) h2
    have hS' : InvS (mouthA x y t a) (mouthB x y t b) := by
      unfold InvS
      rw [e15, fa 9 4 rfl, fa 9 5 rfl, fa.row 10 (fun _ => rfl), fa.row 11 (fun _ => rfl), fb 54 5 rfl, fb 54 6 rfl, fb.row 61 (fun _ => rfl), fb.row 62 (fun _ => rfl)]
      exact IvS.more hB.2.2.1 (by omega)
    have hK' : InvK (mouthA x y t a) (mouthB x y t b) := by
      unfold InvK
      rw [e15, fa 9 6 rfl, fa 9 7 rfl, fa.row 12 (fun _ => rfl), fa.row 13 (fun _ => rfl), fb 54 68 rfl, fb 54 69 rfl, fb 54 70 rfl, fb.row 93 (fun _ => rfl), fb.row 94 (fun _ => rfl)]
      rcases hB.2.2.2.1 with z | ⟨z1, z2, z3⟩
      · exact Or.inl z
      · exact Or.inr ⟨z1, z2, z3.more (by omega)⟩
    have hH' : InvH (mouthA x y t a) := by
      rcases hB.2.2.2.2.1 with z | ⟨z1, z2⟩
      · exact Or.inl ((fa 14 5 rfl).trans z)
      · right
        have h9 := hB.2.2.1.A.1
        have hc : hrA (mouthA x y t a) (a 14 5) (a 9 4).toNat = hrA a (a 14 5) (a 9 4).toNat := by
          unfold hrA
          rw [r2, r3, fa 1 6 rfl, fa 1 7 rfl, fa.row 10 (fun _ => rfl), fa.row 11 (fun _ => rfl)]
          exact hrS_congr (n := a 1 5) (lo := 0) (hi := 10199) (fun i hi => by rw [upr_n (by omega), upr_n (by omega)]; exact ⟨rfl, rfl⟩) z1 _ (fun j hj => (hB.2.2.1.A.2 j (by omega)).1) (fun j hj => hrA_ok hB.1.A hB.2.2.1.A z1 j (by omega))
        rw [fa 14 5 rfl, e15, fa 14 4 rfl, fa.row 15 (fun _ => rfl), fa.row 16 (fun _ => rfl), fa 9 4 rfl, hc]
        exact ⟨by omega, z2⟩
    obtain ⟨w1, w2⟩ := W_gen hCO h fa fb (fun _ => ⟨hP', hB.2.1.fr fa fb, hS', hK', hH', hB.2.2.2.2.2.1.fr fa, hB.2.2.2.2.2.2.fr fa⟩) (fun k i z => by simp only [Bool.or_eq_false_iff, Bool.and_eq_false_iff, beq_eq_false_iff_ne]; omega) (fun k i z => by simp only [Bool.or_eq_false_iff, Bool.and_eq_false_iff, beq_eq_false_iff_ne]; omega) fa.kc (fa 43 10 rfl) (fa.row 5 (fun _ => rfl)) (fa.row 6 (fun _ => rfl))
    exact ⟨_, _, _, rfl, rfl, w1, w2⟩
  · rw [if_neg c, if_neg c]; exact sameW h _
theorem W_air {CO : Mm → Tg → Prop} (hCO : CoFr CO) {a b : Mm} (h : InvW CO a b) (x y : Int) : ∃ (r : Int) (a' b' : Mm), F_X11_air x y a = some (r, a') ∧ F_X12_air x y b = some (r, b') ∧ InvW CO a' b' ∧ potW a' = potW a := by
  have hB := h.1
  rw [airA_s, airB_s]
  by_cases c : (0 ≤ x ∧ x ≤ 200) ∧ (1 ≤ y ∧ y ≤ 100)
  · rw [if_pos c, if_pos c]
    have fa : Fr (fun k i => (k == 1 && (i == 6 || i == 7)) || (k == 14 && i == 5)) a (airA x y a) := Fr.upd (Fr.upd (Fr.upd (Fr.refl _ _) _ rfl) _ rfl) _ rfl
    have fb : Fr (fun k i => k == 54 && (i == 3 || i == 4)) b (airB x y b) := Fr.upd (Fr.upd (Fr.refl _ _) _ rfl) _ rfl
    have e6 : airA x y a 1 6 = x := by unfold airA; rw [u2r (by decide), u2n (by decide), u2s]
    have e7 : airA x y a 1 7 = y := by unfold airA; rw [u2r (by decide), u2s]
    have g3 : airB x y b 54 3 = x := by unfold airB; rw [u2n (by decide), u2s]
    have g4 : airB x y b 54 4 = y := u2s _ _ _ _
    have hP' : InvP (airA x y a) (airB x y b) := by
      obtain ⟨p1, p2, p3, p4⟩ := hB.1
      unfold InvP
      rw [e6, e7, g3, g4, fa 1 5 rfl, fb 54 2 rfl, fa.row 2 (fun _ => rfl), fa.row 3 (fun _ => rfl), fa.row 4 (fun _ => rfl), fa.row 5 (fun _ => rfl), fa.row 6 (fun _ => rfl), fb.row 56 (fun _ => rfl), fb.row 57 (fun _ => rfl), fb.row 58 (fun _ => rfl), fb.row 59 (fun _ => rfl), fb.row 60 (fun _ => rfl)]
      exact ⟨⟨p1.1, rfl, rfl, p1.2.2.2.1, p1.2.2.2.2.1, by omega, by omega, by omega, by omega⟩, p2, p3, p4⟩
    obtain ⟨w1, w2⟩ := W_gen hCO h fa fb (fun _ => ⟨hP', hB.2.1.fr fa fb, hB.2.2.1.fr fa fb, hB.2.2.2.1.fr fa fb, Or.inl (u2s _ _ _ _), hB.2.2.2.2.2.1.fr fa, hB.2.2.2.2.2.2.fr fa⟩) (fun k i z => by simp only [Bool.or_eq_false_iff, Bool.and_eq_false_iff, beq_eq_false_iff_ne]; omega) (fun k i z => by simp only [Bool.or_eq_false_iff, Bool.and_eq_false_iff, beq_eq_false_iff_ne]; omega) fa.kc (fa 43 10 rfl) (fa.row 5 (fun _ => rfl)) (fa.row 6 (fun _ => rfl))
    exact ⟨_, _, _, rfl, rfl, w1, w2⟩
  · rw [if_neg c, if_neg c]; exact sameW h _
theorem W_seed {CO : Mm → Tg → Prop} (hCO : CoFr CO) {a b : Mm} (h : InvW CO a b) (x : Int) : ∃ (r : Int) (a' b' : Mm), F_X11_seed x a = some (r, a') ∧ F_X12_seed x b = some (r, b') ∧ InvW CO a' b' ∧ potW a' = potW a := by
  have hB := h.1
  rw [seedA_s, seedB_s]
  by_cases c : 0 ≤ x ∧ x ≤ 65535
  · rw [if_pos c, if_pos c]
    have fa : Fr (fun k i => k == 9 && i == 5) a (upd2 a 9 5 x) := Fr.upd (Fr.refl _ _) _ rfl
    have fb : Fr (fun k i => k == 54 && i == 6) b (upd2 b 54 6 x) := Fr.upd (Fr.refl _ _) _ rfl
    have hS' : InvS (upd2 a 9 5 x) (upd2 b 54 6 x) := by
      unfold InvS
      rw [u2s, u2s, fa 1 5 rfl, fa 9 4 rfl, fa.row 10 (fun _ => rfl), fa.row 11 (fun _ => rfl), fb 54 5 rfl, fb.row 61 (fun _ => rfl), fb.row 62 (fun _ => rfl)]
      exact IvS.luck hB.2.2.1 c
    obtain ⟨w1, w2⟩ := W_gen hCO h fa fb (fun _ => ⟨hB.1.fr fa fb, hB.2.1.fr fa fb, hS', hB.2.2.2.1.fr fa fb, hB.2.2.2.2.1.fr fa, hB.2.2.2.2.2.1.fr fa, hB.2.2.2.2.2.2.fr fa⟩) (fun k i z => by simp only [Bool.or_eq_false_iff, Bool.and_eq_false_iff, beq_eq_false_iff_ne]; omega) (fun k i z => by simp only [Bool.or_eq_false_iff, Bool.and_eq_false_iff, beq_eq_false_iff_ne]; omega) fa.kc (fa 43 10 rfl) (fa.row 5 (fun _ => rfl)) (fa.row 6 (fun _ => rfl))
    exact ⟨_, _, _, rfl, rfl, w1, w2⟩
  · rw [if_neg c, if_neg c]; exact sameW h _
theorem W_quiet {CO : Mm → Tg → Prop} (hCO : CoFr CO) {a b : Mm} (h : InvW CO a b) : ∃ (r : Int) (a' b' : Mm), F_X11_quiet a = some (r, a') ∧ F_X12_quiet b = some (r, b') ∧ InvW CO a' b' ∧ potW a' = potW a := by
  have hB := h.1
  rw [quietA_s, quietB_s]
  have fa : Fr (fun k i => (k == 9 && i == 4) || (k == 14 && i == 5)) a (upd2 (upd2 a 9 4 0) 14 5 (-1)) := Fr.upd (Fr.upd (Fr.refl _ _) _ rfl) _ rfl
  have fb : Fr (fun k i => k == 54 && i == 5) b (upd2 b 54 5 0) := Fr.upd (Fr.refl _ _) _ rfl
  have hS' : InvS (upd2 (upd2 a 9 4 0) 14 5 (-1)) (upd2 b 54 5 0) := by
    unfold InvS
    rw [u2s, u2r (show 9 ≠ 14 by decide), u2s, fa 1 5 rfl, u2n (by decide), fa.row 10 (fun _ => rfl), fa.row 11 (fun _ => rfl), fb 54 6 rfl, fb.row 61 (fun _ => rfl), fb.row 62 (fun _ => rfl)]
    exact IvS.zero hB.2.2.1
  obtain ⟨w1, w2⟩ := W_gen hCO h fa fb (fun _ => ⟨hB.1.fr fa fb, hB.2.1.fr fa fb, hS', hB.2.2.2.1.fr fa fb, Or.inl (u2s _ _ _ _), hB.2.2.2.2.2.1.fr fa, hB.2.2.2.2.2.2.fr fa⟩) (fun k i z => by simp only [Bool.or_eq_false_iff, Bool.and_eq_false_iff, beq_eq_false_iff_ne]; omega) (fun k i z => by simp only [Bool.or_eq_false_iff, Bool.and_eq_false_iff, beq_eq_false_iff_ne]; omega) fa.kc (fa 43 10 rfl) (fa.row 5 (fun _ => rfl)) (fa.row 6 (fun _ => rfl))
  exact ⟨_, _, _, rfl, by rw [show b 54 5 = a 9 4 from hB.2.2.1.1.1], w1, w2⟩
theorem W_draw {CO : Mm → Tg → Prop} (hCO : CoFr CO) {a b : Mm} (h : InvW CO a b) (x : Int) : ∃ (r : Int) (a' b' : Mm), F_X11_draw x a = some (r, a') ∧ F_X12_draw x b = some (r, b') ∧ InvW CO a' b' ∧ potW a' = potW a := by
  have hB := h.1
  obtain ⟨r, a', b', e1, e2, hS', fa, fb, hx⟩ := draw_s hB.1 hB.2.2.1 x
  have hH' : InvH a' := by
    rcases hx with z | z
    · exact Or.inl z
    · rw [z]; exact hB.2.2.2.2.1
  obtain ⟨w1, w2⟩ := W_gen hCO h fa fb (fun _ => ⟨hB.1.fr fa fb, hB.2.1.fr fa fb, hS', hB.2.2.2.1.fr fa fb, hH', hB.2.2.2.2.2.1.fr fa, hB.2.2.2.2.2.2.fr fa⟩) (fun k i z => by unfold sDf sDa; simp only [Bool.or_eq_false_iff, Bool.and_eq_false_iff, beq_eq_false_iff_ne]; omega) (fun k i z => by unfold sDb; simp only [Bool.or_eq_false_iff, Bool.and_eq_false_iff, beq_eq_false_iff_ne]; omega) fa.kc (fa 43 10 rfl) (fa.row 5 (fun _ => rfl)) (fa.row 6 (fun _ => rfl))
  exact ⟨r, a', b', e1, e2, w1, w2⟩
theorem W_say {CO : Mm → Tg → Prop} (hCO : CoFr CO) {a b : Mm} (h : InvW CO a b) (x t : Int) : ∃ (r : Int) (a' b' : Mm), F_X11_say x t a = some (r, a') ∧ F_X12_say x t b = some (r, b') ∧ InvW CO a' b' ∧ potW a' = potW a := by
  have hB := h.1
  have h9 := hB.2.2.1.A.1
  rw [sayA_s (by omega), sayB_s hB.1 hB.2.2.1]
  by_cases c : (0 ≤ x ∧ x < a 1 5) ∧ (0 ≤ t ∧ t ≤ 9999) ∧ a 9 4 < 150 ∧ lastA a ≤ t
  · rw [if_pos c, if_pos c]
    have fa0 : Fr sDf a (sayA x t a) := Fr.upd (Fr.upd (Fr.upd (Fr.refl _ _) _ rfl) _ rfl) _ rfl
    have fa : Fr sDf a (upd2 (sayA x t a) 14 5 (-1)) := Fr.upd fa0 _ rfl
    have fb : Fr sDb b (sayB x t b) := Fr.upd (Fr.upd (Fr.upd (Fr.refl _ _) _ rfl) _ rfl) _ rfl
    have hS' : InvS (upd2 (sayA x t a) 14 5 (-1)) (sayB x t b) := (hB.2.2.1.say c.2.2.1 c.1 c.2.1).fr (Fr.upd (Fr.refl (fun k i => k == 14 && i == 5) _) _ rfl) (Fr.refl (fun _ _ => false) _)
    obtain ⟨w1, w2⟩ := W_gen hCO h fa fb (fun _ => ⟨hB.1.fr fa fb, hB.2.1.fr fa fb, hS', hB.2.2.2.1.fr fa fb, Or.inl (u2s _ _ _ _), hB.2.2.2.2.2.1.fr fa, hB.2.2.2.2.2.2.fr fa⟩) (fun k i z => by unfold sDf sDa; simp only [Bool.or_eq_false_iff, Bool.and_eq_false_iff, beq_eq_false_iff_ne]; omega) (fun k i z => by unfold sDb; simp only [Bool.or_eq_false_iff, Bool.and_eq_false_iff, beq_eq_false_iff_ne]; omega) fa.kc (fa 43 10 rfl) (fa.row 5 (fun _ => rfl)) (fa.row 6 (fun _ => rfl))
    exact ⟨_, _, _, rfl, rfl, w1, w2⟩
  · rw [if_neg c, if_neg c]; exact sameW h _

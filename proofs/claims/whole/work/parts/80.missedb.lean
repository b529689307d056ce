/-! missed: both -/
theorem missA {a b : Mm} {G : Tg} {ear what : Int} {n mo : Nat} (hn : 1 ≤ n ∧ n ≤ 10) (hw : -1 ≤ what ∧ what ≤ 2) (hP : InvP a b) (hT : InvT a b) (hS : InvS a b) (hH : InvH a) (hA : GA a G) (hD : InvD a) (he : 0 ≤ ear ∧ ear < a 1 5) (hmo : (mo : Int) < a 1 5) (hnear : wayA a ear (mo : Int) ≤ a 1 6) (ht : 2 * (n : Int) + 1 ≤ a 7 1) :
    ∃ r a', (cll (F_X5_takeGapsThenMeanings (n : Int) a) (fun r19 m20 => nmv r19 (fun x21 => cll (F_X10_empty m20) (fun r22 m23 => if ¬ x21 = 0 then cll (F_X3_listen ear m23) (fun r25 m26 => cll (F_X5_beginBehind ear m26) (fun r27 m28 => cll (F_X5_waysToMiss (mo : Int) m28) (fun r29 m30 => nmv r29 (fun x31 => if ¬ what = (-1) then if ¬ x31 = 0 then cll (F_X5_firstMissed what m30) (fun r34 m35 => some (r34, m35)) else some ((-3), m30) else some (x31, m30))))) else some ((-2), m23))))) = some (r, a') ∧ Fr sRd a a' ∧ InvH a' ∧ InvD a' ∧ a' 7 1 = 0 ∧
      ((¬ Such n (n + 1) (a 8) (fun j => a 8 (n + j)) ∧ r = -2) ∨ (Such n (n + 1) (a 8) (fun j => a 8 (n + j)) ∧ r = if ¬ what = -1 then fsT what (fdI (PF (okB G (fun w => wayA a ear (w : Int)) ear (fun j => a 8 (n + j))) (fun w => wayA a ear (w : Int)) (a 1 6) (a 8) mo (lwH (hrA a ear (a 9 4).toNat)) n (lgH (hrA a ear (a 9 4).toNat))) (a 1 5).toNat (a 8) n 0 (0, 0, 0, 0)) else (fdI (PF (okB G (fun w => wayA a ear (w : Int)) ear (fun j => a 8 (n + j))) (fun w => wayA a ear (w : Int)) (a 1 6) (a 8) mo (lwH (hrA a ear (a 9 4).toNat)) n (lgH (hrA a ear (a 9 4).toNat))) (a 1 5).toNat (a 8) n 0 (0, 0, 0, 0)).1)) := by
  have hN := hP.A.1
  have t0 := hT.1
  obtain ⟨cr, ca, d1, d2, d3, d4, d5⟩ := hD
  obtain ⟨m0, e1, e2, e3⟩ := tg12 (n := n) (T := a 8) hn.2 n 0 (upd2 a 34 10 (n : Int)) 100000 (by omega) (u2s _ _ _ _) (by rw [u2r (by decide)]; omega) (fun j _ => by rw [u2r (by decide)]) (fun j hj => absurd hj (by omega)) (by omega)
  obtain ⟨m1, g1, g2, g3⟩ := tg39 (n := n) (T := a 8) hn.2 (n + 1) 0 m0 100000 (by omega) (by rw [e3 34 (by decide), u2s]) (by rw [e3 7 (by decide), u2r (by decide)]; omega) (fun j _ => by rw [e3 8 (by decide), u2r (by decide)]) (fun j hj => absurd hj (by omega)) (by omega)
  have htp : F_X5_takeGapsThenMeanings (n : Int) a = cll (F_X5_allSuch ((n + 1 : Nat) : Int) m1) (fun r2 m3 => some (r2, m3)) := by
    unfold F_X5_takeGapsThenMeanings
    rw [min_s, cll_s, Int.min_eq_left (by omega), stf_s, nmv_s, ← g1, ← e1]
    rfl
  have hm1 : ∀ c, c ≠ 35 → c ≠ 36 → m1 c = (upd2 a 34 10 (n : Int)) c := fun c h1 h2 => (g3 c h2).trans (e3 c h1)
  have h35 : ∀ j, j < n → m1 35 j = a 8 j := fun j hj => by rw [g3 35 (by decide)]; exact e2 j hj
  have h10 : m1 34 10 = (n : Int) := by rw [hm1 34 (by decide) (by decide), u2s]
  have hsu : Such n (n + 1) (m1 35) (m1 36) ↔ Such n (n + 1) (a 8) (fun j => a 8 (n + j)) := by
    unfold Such
    constructor
    · rintro ⟨z1, z2⟩
      exact ⟨fun j hj => by have := z1 j hj; rw [h35 j hj] at this; exact this, fun j hj => by have := z2 j hj; rw [g2 j hj] at this; exact this⟩
    · rintro ⟨z1, z2⟩
      exact ⟨fun j hj => by rw [h35 j hj]; exact z1 j hj, fun j hj => by rw [g2 j hj]; exact z2 j hj⟩
  rw [htp]
  rcases such_s (mm := n + 1) (by omega) (show n ≤ 12 by omega) h10 with ⟨z1, z2⟩ | ⟨z1, z2⟩
  · rw [z2, cll_s, cll_s, nmv_s]
    unfold F_X10_empty
    rw [stf_s, cll_s, if_pos (by decide)]
    obtain ⟨a4, r1, r2, r3, r4, r5, r6, r7, r8, r9, r10, r11, r12, r13, r14, r15, r16, r17, r18⟩ := begin_s (m := m1) (sz := (n : Int)) hP hS hH hA d1 d2 d3 d4 d5 he hm1
    have hcl : ∀ K : Mm → Rs, cll (F_X3_listen ear (upd2 m1 7 1 0)) (fun r25 m26 => cll (F_X5_beginBehind ear m26) (fun r27 m28 => K m28)) = K a4 := by
      intro K
      cases hl : F_X3_listen ear (upd2 m1 7 1 0) with
      | none => rw [hl] at r1; exact (nomatch r1)
      | some q =>
        obtain ⟨q1, q2⟩ := q
        rw [hl, cll_s] at r1
        rw [cll_s, r1, cll_s]
    rw [hcl]
    have hs := hsu.mp z1
    have hMd : MdS a4 G (a 1 5).toNat n ear (a 1 6) (fun w => wayA a ear (w : Int)) (a 8) (fun j => a 8 (n + j)) :=
      ⟨⟨r4, r5, by rw [r6]; omega, by omega, r7, fun w => r8 _⟩, ⟨r9, r10, hn.2⟩, fun i hi => ⟨by rw [r15]; exact h35 i hi, hs.1 i hi⟩, fun i hi => by rw [r16]; exact g2 i (by omega)⟩
    obtain ⟨a5, s1, s2, s3⟩ := ways_s (L0 := lwH (hrA a ear (a 9 4).toNat)) (lg := lgH (hrA a ear (a 9 4).toNat)) hn.1 (show mo < (a 1 5).toNat by omega) hnear hMd r11 r12
    have hfr5 : Fr sRd a a5 := r2.trans (toRd s3 (fun k i e => by
      unfold sRd at e
      unfold sMw
      simp only [Bool.or_eq_false_iff, Bool.and_eq_false_iff, beq_eq_false_iff_ne, decide_eq_false_iff_not] at e ⊢
      exact ⟨⟨⟨e.1.1.1, by omega⟩, by omega⟩, by omega⟩))
    have hH5 : InvH a5 := r3.fr s3
    have hD5 : InvD a5 := ⟨cr, ca, d1, d2, d3, (s3 34 8 rfl).trans r13, (s3 34 9 rfl).trans r14⟩
    have h75 : a5 7 1 = 0 := (s3 7 1 rfl).trans r17
    rw [s1, cll_s, nmv_s]
    generalize fdI (PF (okB G (fun w => wayA a ear (w : Int)) ear (fun j => a 8 (n + j))) (fun w => wayA a ear (w : Int)) (a 1 6) (a 8) mo (lwH (hrA a ear (a 9 4).toNat)) n (lgH (hrA a ear (a 9 4).toNat))) (a 1 5).toNat (a 8) n 0 (0, 0, 0, 0) = s at s2
    by_cases hw1 : what = -1
    · rw [if_neg (fun z => z hw1)]
      exact ⟨_, a5, rfl, hfr5, hH5, hD5, h75, Or.inr ⟨hs, by rw [if_neg (fun z => z hw1)]⟩⟩
    · rw [if_pos hw1]
      by_cases h0 : s.1 = 0
      · rw [if_neg (fun z => z h0)]
        refine ⟨_, a5, rfl, hfr5, hH5, hD5, h75, Or.inr ⟨hs, ?_⟩⟩
        rw [if_pos hw1]
        unfold fsT
        rw [if_pos h0]
      · rw [if_pos h0]
        have h39 := s2.2 h0
        unfold F_X5_firstMissed
        rw [if_neg (by omega), if_neg (by omega), ald_s (by omega), cll_s]
        refine ⟨_, a5, rfl, hfr5, hH5, hD5, h75, Or.inr ⟨hs, ?_⟩⟩
        rw [if_pos hw1]
        unfold fsT
        rw [if_neg h0]
        by_cases w0 : what = 0
        · rw [if_neg (fun z => z w0), w0]; exact h39.1
        · rw [if_pos w0]
          by_cases w1 : what = 1
          · rw [if_neg (fun z => z w1), w1]; exact h39.2.1
          · rw [if_pos w1, show what = 2 by omega]; exact h39.2.2
  · rw [z2, cll_s, cll_s, nmv_s]
    unfold F_X10_empty
    rw [stf_s, cll_s, if_neg (by decide)]
    have f1 : Fr (fun k i => k == 35 || k == 36 || (k == 34 && i == 10) || (k == 7 && i == 1)) a (upd2 m1 7 1 0) := by
      intro c i hc
      simp only [Bool.or_eq_false_iff, Bool.and_eq_false_iff, beq_eq_false_iff_ne] at hc
      have e1 : (upd2 m1 7 1 0) c i = m1 c i := by
        by_cases e : c = 7
        · subst e; exact u2n (by omega)
        · rw [u2r e]
      rw [e1, hm1 c (by omega) (by omega)]
      by_cases e : c = 34
      · subst e; exact u2n (by omega)
      · rw [u2r e]
    obtain ⟨p1, p2, p3⟩ := sLfr f1 (fun c hc i => by rcases hc with e | e | e | e | e | e | e | e | e | e <;> subst e <;> rfl) hP.A hS.A hH
    refine ⟨_, _, rfl, toRd f1 (fun k i e => ?_), p3, ⟨cr, ca, d1, d2, d3, (f1 34 8 rfl).trans d4, (f1 34 9 rfl).trans d5⟩, u2s _ _ _ _, Or.inl ⟨fun z => z1 (hsu.mpr z), rfl⟩⟩
    unfold sRd at e
    simp only [Bool.or_eq_false_iff, Bool.and_eq_false_iff, beq_eq_false_iff_ne, decide_eq_false_iff_not] at e ⊢
    omega
theorem missB {a b : Mm} {G : Tg} {ear what : Int} {n mo : Nat} (hn : 1 ≤ n ∧ n ≤ 10) (hP : InvP a b) (hT : InvT a b) (hS : InvS a b) (hB : GB b G) (he : 0 ≤ ear ∧ ear < a 1 5) (hmo : (mo : Int) < a 1 5) (ht : 2 * (n : Int) + 1 ≤ a 7 1) :
    ∃ r b', L_X12_missed_74 100000 ear (mo : Int) (n : Int) what 0 (upd2 b 54 1 0) = some (r, b') ∧ Fr sRe b b' ∧ b' 54 1 = 0 ∧
      ((¬ Such n (n + 1) (a 8) (fun j => a 8 (n + j)) ∧ r = -2) ∨ (Such n (n + 1) (a 8) (fun j => a 8 (n + j)) ∧ r = if ¬ what = -1 then fsT what (fdI (PF (okB G (fun w => wayA a ear (w : Int)) ear (fun j => a 8 (n + j))) (fun w => wayA a ear (w : Int)) (a 1 6) (a 8) mo (lwH (hrA a ear (a 9 4).toNat)) n (lgH (hrA a ear (a 9 4).toNat))) (a 1 5).toNat (a 8) n 0 (0, 0, 0, 0)) else (fdI (PF (okB G (fun w => wayA a ear (w : Int)) ear (fun j => a 8 (n + j))) (fun w => wayA a ear (w : Int)) (a 1 6) (a 8) mo (lwH (hrA a ear (a 9 4).toNat)) n (lgH (hrA a ear (a 9 4).toNat))) (a 1 5).toNat (a 8) n 0 (0, 0, 0, 0)).1)) := by
  have hN := hP.A.1
  have t0 := hT.1
  obtain ⟨b0, e1, e2, e3⟩ := cp74 (n := n) (T := a 8) (ear := ear) (mo := (mo : Int)) (what := what) hn.2 n 0 (upd2 b 54 1 0) 100000 (by omega) (fun j hj => by rw [u2r (by decide)]; exact (hT.2 j (by omega)).1.symm) (fun j hj => absurd hj (by omega)) (by omega)
  obtain ⟨b1, g1, g2, g3⟩ := cp102 (n := n) (T := a 8) (ear := ear) (mo := (mo : Int)) (what := what) hn.2 (n + 1) 0 b0 100000 (by omega) (fun j hj => by rw [e3 55 (by decide), u2r (by decide)]; exact (hT.2 j (by omega)).1.symm) (fun j hj => absurd hj (by omega)) (by omega)
  have e1' : L_X12_missed_74 100000 ear (mo : Int) (n : Int) what 0 (upd2 b 54 1 0) = L_X12_missed_132 100000 ear (mo : Int) (n : Int) what ((0 : Nat) : Int) b1 := by
    rw [← g1, ← e1]
    rfl
  have h80 : ∀ j, j < n → b1 80 j = a 8 j := fun j hj => by rw [g3 80 (by decide)]; exact e2 j hj
  have f1 : Fr (fun k i => k == 80 || k == 81 || (k == 54 && i == 1)) b b1 := by
    intro c i hc
    simp only [Bool.or_eq_false_iff, Bool.and_eq_false_iff, beq_eq_false_iff_ne] at hc
    rw [g3 c (by omega), e3 c (by omega)]
    by_cases e : c = 54
    · subst e; exact u2n (by omega)
    · rw [u2r e]
  have hP1 : InvP a b1 := hP.fr (Fr.refl (fun _ _ => false) a) f1
  have hS1 : InvS a b1 := hS.fr (Fr.refl (fun _ _ => false) a) f1
  have f1' : Fr sRe b b1 := toRe f1 (fun k i e => by
    unfold sRe at e
    simp only [Bool.or_eq_false_iff, Bool.and_eq_false_iff, beq_eq_false_iff_ne, decide_eq_false_iff_not] at e ⊢
    omega)
  have h541 : b1 54 1 = 0 := by rw [g3 54 (by decide), e3 54 (by decide), u2s]
  rw [e1']
  rcases ck132 (n := n) (ear := ear) (mo := (mo : Int)) (what := what) hn.2 n 0 b1 100000 (by omega) (by omega) with ⟨z1, z2⟩ | ⟨⟨j, z1, z2⟩, z3⟩
  · rw [z2]
    rcases ck168 (n := n) (ear := ear) (mo := (mo : Int)) (what := what) hn.2 (n + 1) 0 b1 100000 (by omega) (by omega) with ⟨y1, y2⟩ | ⟨⟨j, y1, y2⟩, y3⟩
    · rw [y2]
      have hsu : Such n (n + 1) (a 8) (fun j => a 8 (n + j)) := ⟨fun j hj => by have := z1 j (by omega) hj; rw [h80 j hj] at this; exact this, fun j hj => by have := y1 j (by omega) hj; rw [g2 j hj] at this; exact this⟩
      obtain ⟨b2, l1, l2, l3, l4⟩ := last_s hP1 hS1 he
      rw [l1, cll_s]
      have hMb : MbS a b2 G (a 1 5).toNat n ear (lgH (hrA a ear (a 9 4).toNat)) (lwH (hrA a ear (a 9 4).toNat)) (a 8) (fun j => a 8 (n + j)) :=
        ⟨⟨hP1.fr (Fr.refl (fun _ _ => false) a) l2, (hB.frRe f1').frRe (toRe l2 (fun k i e => Re_Ll e)), by omega, by omega, hn.2⟩, ⟨l3, l4⟩, fun i hi => ⟨by rw [l2.row 80 (fun _ => rfl)]; exact h80 i hi, hsu.1 i hi⟩, fun i hi => by rw [l2.row 81 (fun _ => rfl)]; exact g2 i (by omega)⟩
      obtain ⟨b3, r1, r2⟩ := m216 (what := what) (show mo < (a 1 5).toNat by omega) n 0 b2 (0, 0, 0, 0) 100000 (by omega) hMb ⟨by decide, by show (0 : Int) + 504 * (n : Int) ≤ 100000; omega⟩ (by omega)
      refine ⟨_, b3, r1, (f1'.trans (toRe l2 (fun k i e => Re_Ll e))).trans (toRe r2 (fun k i e => ?_)), ?_, Or.inr ⟨hsu, rfl⟩⟩
      · unfold sRe at e
        simp only [Bool.or_eq_false_iff] at e
        exact e.1.1.1
      · rw [r2 54 1 rfl, l2 54 1 rfl]; exact h541
    · rw [y3]
      refine ⟨-2, b1, rfl, f1', h541, Or.inl ⟨fun z => y2 ?_, rfl⟩⟩
      rw [g2 j y1]
      exact z.2 j y1
  · rw [z3]
    refine ⟨-2, b1, rfl, f1', h541, Or.inl ⟨fun z => z2 ?_, rfl⟩⟩
    rw [h80 j z1]
    exact z.1 j z1
theorem missed_s {a b : Mm} {G : Tg} (hP : InvP a b) (hT : InvT a b) (hS : InvS a b) (hH : InvH a) (hA : GA a G) (hB : GB b G) (hD : InvD a) (ear mo nn what : Int) : ∃ r a' b', F_X11_missed ear mo nn what a = some (r, a') ∧ F_X12_missed ear mo nn what b = some (r, b') ∧ Fr sRd a a' ∧ Fr sRe b b' ∧ InvH a' ∧ InvT a' b' ∧ InvD a' := by
  have hN := hP.A.1
  have en := hP.n
  have t0 := hT.1
  have no : ∃ r a' b', some ((-1 : Int), a) = some (r, a') ∧ some ((-1 : Int), b) = some (r, b') ∧ Fr sRd a a' ∧ Fr sRe b b' ∧ InvH a' ∧ InvT a' b' ∧ InvD a' := ⟨-1, a, b, rfl, rfl, Fr.refl _ _, Fr.refl _ _, hH, hT, hD⟩
  unfold F_X11_missed F_X12_missed
  rw [has_s, cll_s, ib0, isMouth_s _ _ (by omega), cll_s, ib0, en]
  by_cases h1 : 0 ≤ ear ∧ ear < a 1 5
  · rw [if_pos h1, if_pos h1, has_s, cll_s, ib0, isMouth_s _ _ (by omega), cll_s, ib0, en]
    by_cases h2 : 0 ≤ mo ∧ mo < a 1 5
    · rw [if_pos h2, if_pos h2, reaches_s hP.A h1 h2, cll_s, ibn, isNear_s hP h1 h2, cll_s, ib0]
      show ∃ r a' b', (if wayA a ear mo ≤ a 1 6 then _ else _) = _ ∧ (if wayA a ear mo ≤ a 1 6 then _ else _) = _ ∧ _
      by_cases h3 : wayA a ear mo ≤ a 1 6
      · rw [if_pos h3, if_pos h3, within_s, cll_s, ib0, lies_s, cll_s, ib0]
        by_cases h4 : 1 ≤ nn ∧ nn ≤ 10
        · rw [if_pos h4, if_pos h4, within_s, cll_s, ib0, lies_s, cll_s, ib0]
          by_cases h5 : -1 ≤ what ∧ what ≤ 2
          · rw [if_pos h5, if_pos h5, wr_s (x := 2 * nn) (by omega), wr_s (x := 2 * nn + 1) (by omega)]
            unfold F_X10_has
            by_cases h6 : 2 * nn + 1 ≤ a 7 1
            · rw [if_neg (by omega), cll_s, if_pos (by decide), if_pos (by omega), stf_s, nmv_s]
              obtain ⟨n, rfl⟩ : ∃ n : Nat, nn = (n : Int) := ⟨nn.toNat, by omega⟩
              obtain ⟨mo', rfl⟩ : ∃ n : Nat, mo = (n : Int) := ⟨mo.toNat, by omega⟩
              obtain ⟨r, a', x1, x2, x3, x4, x5, x6⟩ := missA (n := n) (mo := mo') (what := what) (by omega) h5 hP hT hS hH hA hD h1 h2.2 h3 h6
              obtain ⟨r', b', y1, y2, y3, y4⟩ := missB (n := n) (mo := mo') (what := what) (by omega) hP hT hS hB h1 h2.2 h6
              have hi : InvT a' b' := by
                unfold InvT
                rw [x5, y3]
                exact ⟨⟨rfl, by decide, by decide⟩, fun i hi => absurd hi (by omega)⟩
              have hr : r' = r := by
                rcases x6 with ⟨z1, z2⟩ | ⟨z1, z2⟩
                · rcases y4 with ⟨w1, w2⟩ | ⟨w1, w2⟩
                  · rw [z2, w2]
                  · exact absurd w1 z1
                · rcases y4 with ⟨w1, w2⟩ | ⟨w1, w2⟩
                  · exact absurd z1 w1
                  · rw [z2, w2]
              subst hr
              exact ⟨r', a', b', x1, y1, x2, y2, x3, hi, x4⟩
            · rw [if_pos (by omega), cll_s, if_neg (by decide), if_neg (by omega)]
              exact no
          · rw [if_neg h5, if_neg h5]; exact no
        · rw [if_neg h4, if_neg h4]; exact no
      · rw [if_neg h3, if_neg h3]; exact no
    · rw [if_neg h2, if_neg h2]; exact no
  · rw [if_neg h1, if_neg h1]; exact no

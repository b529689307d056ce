/-! the clauses one after the other; tongue -/
theorem cls_s {a b : Mm} {c n : Nat} {T : Nat → Int} {p s k m : Nat} {G : Tg} (hT : TxOk n T) (hA : CS a c n T p 0 s) (hB : RS0 b n T p k) (h6 : a c 6 = (m : Int)) (h30 : b 54 30 = (m : Int)) (hm : m ≤ 14) (hCA : CLA a c s m G) (hCB : CLB b k m G) :
    ∃ a' b', F_X2_clause a = some (0, a') ∧ F_X12_clause b = some (0, b') ∧ Fr (sPc c) a a' ∧ Fr sQc b b' ∧ (BadC a' b' ∨ ∃ p' s' k' G', m < 14 ∧ CS a' c n T p' 0 s' ∧ RS0 b' n T p' k' ∧ p < p' ∧ a' c 6 = ((m + 1 : Nat) : Int) ∧ b' 54 30 = ((m + 1 : Nat) : Int) ∧ CLA a' c s' (m + 1) G' ∧ CLB b' k' (m + 1) G') := by
  obtain ⟨x, y, e1, e2, e3⟩ := next0 hT hA hB
  unfold Nx at e3
  have hcd := hA.1.1
  have hc := hcd
  have hn := hT.1
  obtain ⟨⟨b1, b2⟩, b3, b4, b5, b6, b7⟩ := hB
  have stA : F_X2_clause a = if x = 109 ∨ x = 114 then J_X2_clause_23 x a else some (0, upd2 a 32 5 1) := by
    unfold F_X2_clause
    rw [e1, cll_s, nmv_s]
    by_cases h1 : x = 109
    · rw [if_pos h1, if_pos (Or.inl h1)]
    · rw [if_neg h1]
      by_cases h2 : x = 114
      · rw [if_pos h2, if_pos (Or.inr h2)]
      · rw [if_neg h2, if_neg (by omega), (fail_s hT hA (x := 1) (by decide)).1, cll_s]
  have h47 : ∀ (bb : Mm) (v : Int), bb 54 29 ≠ 0 → J_X12_clause_47 v bb = some (0, bb) := by
    intro bb v hb
    unfold J_X12_clause_47
    rw [good_b hb, cll_s, if_neg (by decide)]
  have stB : F_X12_clause b = if y = 109 ∨ y = 114 then J_X12_clause_29 y b else some (0, upd2 b 54 29 (-1000 * 1 - p)) := by
    unfold F_X12_clause
    rw [e2, cll_s, nmv_s]
    by_cases h1 : y = 109
    · rw [if_pos h1, if_pos (Or.inl h1)]
    · rw [if_neg h1]
      by_cases h2 : y = 114
      · rw [if_pos h2, if_pos (Or.inr h2)]
      · rw [if_neg h2, if_neg (by omega), b3, wrongs_s b5 1 p (by decide) (by omega), cll_s, h47 _ _ (by rw [u2s]; omega)]
  rw [stA, stB]
  by_cases hl : y = 109 ∨ y = 114
  · have hx : x = 109 ∨ x = 114 := by omega
    have hp : p < n := by omega
    have hxy : x = y := by omega
    rw [if_pos hx, if_pos hl]
    by_cases h14 : m < 14
    · have hs10 := hA.2.2.2.2.2.2.2
      have hA2 : CS (upd2 (upd2 (upd2 (upd2 a 32 3 ((p + 1 : Nat) : Int)) (c + 3) m x) (c + 4) m (s : Int)) c 6 ((m + 1 : Nat) : Int)) c n T (p + 1) 0 s := by
        obtain ⟨⟨h1, h2, h3⟩, h4, h5, h6, h7, h8, h9, h10⟩ := hA.to (p' := p + 1) (by omega) (by omega)
        refine ⟨⟨h1, ?_, ?_⟩, fun i hi => ?_, ?_, h6, ?_, ?_, ?_, h10⟩
        · rw [u2r (by omega), u2r (by omega), u2r (by omega)]; exact h2
        · rw [u2r (by omega), u2r (by omega), u2r (by omega)]; exact h3
        · rw [u2r (by omega), u2r (by omega), u2r (by omega)]; exact h4 i hi
        · rw [u2r (by omega), u2r (by omega), u2r (by omega)]; exact h5
        · rw [u2r (by omega), u2r (by omega), u2r (by omega)]; exact h7
        · rw [u2r (by omega), u2r (by omega), u2r (by omega)]; exact h8
        · rw [u2n (by decide), u2r (by omega), u2r (by omega)]; exact h9
      have hfA : Fr (sPc c) a (upd2 (upd2 (upd2 (upd2 a 32 3 ((p + 1 : Nat) : Int)) (c + 3) m x) (c + 4) m (s : Int)) c 6 ((m + 1 : Nat) : Int)) := Fr.upd (Fr.upd (Fr.upd (Fr.upd (Fr.refl _ _) _ rfl) _ (sPc_3 c _)) _ (sPc_4 c _)) _ (sPc_6 c)
      have hB2 : RS (upd2 (upd2 (upd2 (upd2 (upd2 b 69 m y) 70 m (k : Int)) 54 27 ((p + 1 : Nat) : Int)) 54 33 0) 54 32 0) n T (p + 1) 0 0 k := by
        refine ⟨⟨?_, fun i hi => ?_⟩, ?_, by omega, ?_, ?_, ?_, ?_, by omega⟩
        · rw [u2n (by decide), u2n (by decide), u2n (by decide), u2r (by decide), u2r (by decide)]; exact b1
        · rw [u2r (by decide), u2r (by decide), u2r (by decide), u2r (by decide), u2r (by decide)]; exact b2 i hi
        · rw [u2n (by decide), u2n (by decide), u2s]
        · rw [u2n (by decide), u2n (by decide), u2n (by decide), u2r (by decide), u2r (by decide)]; exact b5
        · rw [u2n (by decide), u2n (by decide), u2n (by decide), u2r (by decide), u2r (by decide)]; exact b6
        · rw [u2s]; rfl
        · rw [u2n (by decide), u2s]; rfl
      have hfB : Fr sQc b (upd2 (upd2 (upd2 (upd2 (upd2 b 69 m y) 70 m (k : Int)) 54 27 ((p + 1 : Nat) : Int)) 54 33 0) 54 32 0) := Fr.upd (Fr.upd (Fr.upd (Fr.upd (Fr.upd (Fr.refl _ _) _ rfl) _ rfl) _ rfl) _ rfl) _ rfl
      have ar : ∀ j, j = 1 ∨ j = 2 ∨ j = 5 → (upd2 (upd2 (upd2 (upd2 a 32 3 ((p + 1 : Nat) : Int)) (c + 3) m x) (c + 4) m (s : Int)) c 6 ((m + 1 : Nat) : Int)) (c + j) = a (c + j) := fun j hj => by
        rw [u2r (by omega), u2r (by omega), u2r (by omega), u2r (by omega)]
      have ar3 : (upd2 (upd2 (upd2 (upd2 a 32 3 ((p + 1 : Nat) : Int)) (c + 3) m x) (c + 4) m (s : Int)) c 6 ((m + 1 : Nat) : Int)) (c + 3) = upr (a (c + 3)) m x := by
        rw [u2r (by omega), u2r (by omega), u2_row, u2r (by omega)]
      have ar4 : (upd2 (upd2 (upd2 (upd2 a 32 3 ((p + 1 : Nat) : Int)) (c + 3) m x) (c + 4) m (s : Int)) c 6 ((m + 1 : Nat) : Int)) (c + 4) = upr (a (c + 4)) m (s : Int) := by
        rw [u2r (by omega), u2_row, u2r (by omega), u2r (by omega)]
      have ac7 : (upd2 (upd2 (upd2 (upd2 a 32 3 ((p + 1 : Nat) : Int)) (c + 3) m x) (c + 4) m (s : Int)) c 6 ((m + 1 : Nat) : Int)) c 7 = a c 7 := by
        rw [u2n (by decide), u2r (by omega), u2r (by omega), u2r (by omega)]
      have br : ∀ j, j = 71 ∨ j = 72 ∨ j = 73 ∨ j = 74 → (upd2 (upd2 (upd2 (upd2 (upd2 b 69 m y) 70 m (k : Int)) 54 27 ((p + 1 : Nat) : Int)) 54 33 0) 54 32 0) j = b j := fun j hj => by
        rw [u2r (by omega), u2r (by omega), u2r (by omega), u2r (by omega), u2r (by omega)]
      have br69 : (upd2 (upd2 (upd2 (upd2 (upd2 b 69 m y) 70 m (k : Int)) 54 27 ((p + 1 : Nat) : Int)) 54 33 0) 54 32 0) 69 = upr (b 69) m y := by
        rw [u2r (by decide), u2r (by decide), u2r (by decide), u2r (by decide), u2_row]
      have br70 : (upd2 (upd2 (upd2 (upd2 (upd2 b 69 m y) 70 m (k : Int)) 54 27 ((p + 1 : Nat) : Int)) 54 33 0) 54 32 0) 70 = upr (b 70) m (k : Int) := by
        rw [u2r (by decide), u2r (by decide), u2r (by decide), u2_row, u2r (by decide)]
      obtain ⟨a', b', r1, r2, r3, r4, r5⟩ := cls_in (x := x) hT hA2 hB2 (m := m) (u2s _ _ _ _) (by rw [u2n (by decide), u2n (by decide), u2n (by decide), u2r (by decide), u2r (by decide)]; exact h30) h14 (by omega) G
        (by
          intro i hi
          obtain ⟨t1, t2, t3, p', q', r', t4, t5, t6, t7, t8, t9⟩ := hCA i hi
          rw [ar3, ar4, ar 1 (by omega), ar 2 (by omega), ar 5 (by omega), ac7]
          refine ⟨by rw [upr_n (by omega)]; exact t1, t2, t3, p', q', r', by rw [upr_n (by omega)]; exact t4, t5, ?_, t7, t8, t9⟩
          by_cases hi1 : i + 1 < m
          · rw [if_pos hi1] at t6
            rw [upr_n (by omega)]; exact t6
          · rw [if_neg hi1] at t6
            rw [show i + 1 = m by omega, upr_s, t6])
        (by rw [ar3, upr_s]) (by rw [ar4, upr_s])
        (by
          intro i hi
          rw [br69, br70, br 71 (by omega), br 72 (by omega), br 73 (by omega), br 74 (by omega), upr_n (by omega), upr_n (by omega)]
          exact hCB i hi)
        (by rw [br69, upr_s, hxy]) (by rw [br70, upr_s])
      refine ⟨a', b', ?_, ?_, hfA.trans r3, hfB.trans r4, ?_⟩
      · unfold J_X2_clause_23
        rw [hA.1.2.1, Int.toNat_natCast, grd_s hcd, h6, if_pos (by omega), stf_s, hA.2.2.1, wr_s (by omega), show (p : Int) + 1 = ((p + 1 : Nat) : Int) from rfl]
        rw [show (upd2 a 32 3 ((p + 1 : Nat) : Int)) 32 1 = (c : Int) from (u2n (by decide)).trans hA.1.2.1, Int.toNat_natCast, grd_s hcd]
        unfold F_X0_beginClause
        rw [u2r (show c ≠ 32 by omega), h6, if_neg (by omega), ast_s (by omega), u2r (show c ≠ c + 3 by omega), u2r (show c ≠ 32 by omega), h6, ast_s (by omega), stf_s, u2r (show c ≠ c + 4 by omega), u2r (show c ≠ c + 3 by omega), u2r (show c ≠ 32 by omega), h6, hA.2.2.2.2.2.2.1, cll_s, Int.toNat_natCast, wr_s (by omega)]
        exact r1
      · unfold J_X12_clause_29
        rw [h30, if_pos (by omega)]
        unfold J_X12_clause_47
        rw [good_s b5, cll_s, if_pos (by decide), h30, ast_s (by omega), u2r (by decide), h30, ast_s (by omega), stf_s, stf_s, stf_s, u2r (by decide), u2r (by decide), b3, b6, Int.toNat_natCast, wr_s (by omega)]
        exact r2
      · rcases r5 with r5 | ⟨p', s', k', G', z1, z2, z3, z4, z5, z6, z7⟩
        · exact Or.inl r5
        · exact Or.inr ⟨p', s', k', G', h14, z1, z2, by omega, z4, z5, z6, z7⟩
    · obtain ⟨w1, w2, w3, w4⟩ := fail_s hT hA (x := 4) (by decide)
      refine ⟨upd2 a 32 5 4, upd2 b 54 29 (-1000 * 4 - (p : Int)), ?_, ?_, frPc (Fr.upd (Fr.refl _ _) _ rfl), Fr.upd (Fr.refl _ _) _ rfl, Or.inl ⟨w2.2.2.1, w2.2.2.2.1, ?_⟩⟩
      · unfold J_X2_clause_23
        rw [hA.1.2.1, Int.toNat_natCast, grd_s hcd, h6, if_neg (by omega), w1, cll_s]
      · unfold J_X12_clause_29
        rw [h30, if_neg (by omega), b3, wrongs_s b5 4 p (by decide) (by omega), cll_s, h47 _ _ (by rw [u2s]; omega)]
      · rw [u2s, w3, w4]
  · have hx : ¬ (x = 109 ∨ x = 114) := by omega
    obtain ⟨w1, w2, w3, w4⟩ := fail_s hT hA (x := 1) (by decide)
    rw [if_neg hx, if_neg hl]
    refine ⟨upd2 a 32 5 1, upd2 b 54 29 (-1000 * 1 - (p : Int)), rfl, rfl, frPc (Fr.upd (Fr.refl _ _) _ rfl), Fr.upd (Fr.refl _ _) _ rfl, Or.inl ⟨w2.2.2.1, w2.2.2.2.1, ?_⟩⟩
    rw [u2s, w3, w4]
theorem J128_b {c2 : Nat} {a' b' : Mm} (h : BadC a' b') : J_X2_translate_128 c2 a' = some (b' 54 29, a') ∧ J_X12_tongue_128 b' = some (b' 54 29, b') ∧ b' 54 29 < 0 := by
  obtain ⟨h1, h2, h3⟩ := h
  refine ⟨?_, ?_, by omega⟩
  · unfold J_X2_translate_128
    rw [wr_s (x := -1000 * a' 32 5) (by omega), wr_s (by omega), h3]
  · unfold J_X12_tongue_128
    rw [if_neg (by omega)]
theorem L72_b {c2 : Nat} {a' b' : Mm} (h : BadC a' b') (f : Nat) (v : Int) : L_X2_translate_72 c2 (f + 1) v a' = some (b' 54 29, a') := by
  show LB_X2_translate_72 c2 (L_X2_translate_72 c2 f) _ _ = _
  unfold LB_X2_translate_72
  by_cases h1 : 14 < v
  · rw [if_pos h1]; exact (J128_b h).1
  · rw [if_neg h1, if_pos (by have := h.1; omega)]; exact (J128_b h).1
theorem L54_0 (b : Mm) (g : Nat) : L_X12_tongue_54 (g + 1) 0 b = J_X12_tongue_128 b := by
  show LB_X12_tongue_54 (L_X12_tongue_54 g) _ _ = _
  unfold LB_X12_tongue_54
  rw [if_pos rfl]
theorem L54_b {a' b : Mm} (h : BadC a' b) (g : Nat) : L_X12_tongue_54 (g + 1) 1 b = some (b 54 29, b) := by
  have hb : b 54 29 ≠ 0 := by have := h.2.2; have := h.1; have := h.2.1; omega
  show LB_X12_tongue_54 (L_X12_tongue_54 g) _ _ = _
  unfold LB_X12_tongue_54
  rw [if_neg (by decide), good_b hb, cll_s, if_pos rfl]
  exact (J128_b (c2 := 0) h).2.1
theorem tng_l {c n : Nat} {T : Nat → Int} (hT : TxOk n T) : ∀ (j m : Nat) (a b : Mm) (p s k : Nat) (G : Tg) (f g : Nat), m + j = 14 → CS a c n T p 0 s → RS0 b n T p k → a c 6 = (m : Int) → b 54 30 = (m : Int) → CLA a c s m G → CLB b k m G → j + 1 < f → j + 1 < g →
    ∃ a' b', Fr (sPc c) a a' ∧ Fr sQc b b' ∧ ((∃ r, r < 0 ∧ L_X2_translate_72 c f (m : Int) a = some (r, a') ∧ L_X12_tongue_54 g 1 b = some (r, b')) ∨ (∃ (m' s' k' : Nat) (G' : Tg), 1 ≤ m' ∧ m' ≤ 14 ∧ L_X2_translate_72 c f (m : Int) a = some ((m' : Int), a') ∧ L_X12_tongue_54 g 1 b = J_X12_tongue_128 b' ∧ CS a' c n T n 0 s' ∧ RS0 b' n T n k' ∧ a' c 6 = (m' : Int) ∧ b' 54 30 = (m' : Int) ∧ CLA a' c s' m' G' ∧ CLB b' k' m' G')) := by
  intro j
  induction j with
  | zero =>
    intro m a b p s k G f g hj hA hB h6 h30 hCA hCB hf hg
    obtain ⟨f', rfl⟩ : ∃ f', f = f' + 1 + 1 := ⟨f - 2, by omega⟩
    obtain ⟨g', rfl⟩ : ∃ g', g = g' + 1 + 1 := ⟨g - 2, by omega⟩
    obtain ⟨a', b', e1, e2, e3, e4, e5⟩ := cls_s hT hA hB h6 h30 (by omega) hCA hCB
    rcases e5 with e5 | ⟨_, _, _, _, z, _⟩
    · obtain ⟨r1, r2, r3⟩ := J128_b (c2 := c) e5
      refine ⟨a', b', e3, e4, Or.inl ⟨b' 54 29, r3, ?_, ?_⟩⟩
      · show LB_X2_translate_72 c (L_X2_translate_72 c (f' + 1)) _ _ = _
        unfold LB_X2_translate_72 J_X2_translate_116
        rw [if_neg (by omega), if_neg (fun z => z hA.2.2.2.2.2.1), e1, cll_s, if_pos (by have := e5.1; omega), pass_b (by have := e5.1; omega), cll_s, nmv_s]
        exact L72_b e5 f' _
      · show LB_X12_tongue_54 (L_X12_tongue_54 (g' + 1)) _ _ = _
        unfold LB_X12_tongue_54 J_X12_tongue_91 J_X12_tongue_93
        rw [if_neg (by decide), good_s hB.2.2.2.1, cll_s, if_neg (by decide), e2, cll_s, good_b (by omega), cll_s, if_pos rfl, nmv_s, if_pos rfl, L54_0]
        exact r2
    · omega
  | succ j ih =>
    intro m a b p s k G f g hj hA hB h6 h30 hCA hCB hf hg
    obtain ⟨f', rfl⟩ : ∃ f', f = f' + 1 + 1 := ⟨f - 2, by omega⟩
    obtain ⟨g', rfl⟩ : ∃ g', g = g' + 1 + 1 := ⟨g - 2, by omega⟩
    obtain ⟨a', b', e1, e2, e3, e4, e5⟩ := cls_s hT hA hB h6 h30 (by omega) hCA hCB
    have hn := hT.1
    rcases e5 with e5 | ⟨p', s', k', G', z0, z1, z2, z3, z4, z5, z6, z7⟩
    · obtain ⟨r1, r2, r3⟩ := J128_b (c2 := c) e5
      refine ⟨a', b', e3, e4, Or.inl ⟨b' 54 29, r3, ?_, ?_⟩⟩
      · show LB_X2_translate_72 c (L_X2_translate_72 c (f' + 1)) _ _ = _
        unfold LB_X2_translate_72 J_X2_translate_116
        rw [if_neg (by omega), if_neg (fun z => z hA.2.2.2.2.2.1), e1, cll_s, if_pos (by have := e5.1; omega), pass_b (by have := e5.1; omega), cll_s, nmv_s]
        exact L72_b e5 f' _
      · show LB_X12_tongue_54 (L_X12_tongue_54 (g' + 1)) _ _ = _
        unfold LB_X12_tongue_54 J_X12_tongue_91 J_X12_tongue_93
        rw [if_neg (by decide), good_s hB.2.2.2.1, cll_s, if_neg (by decide), e2, cll_s, good_b (by omega), cll_s, if_pos rfl, nmv_s, if_pos rfl, L54_0]
        exact r2
    · have hpn := z1.2.2.2.1
      by_cases hend : p' = n
      · subst hend
        refine ⟨a', b', e3, e4, Or.inr ⟨m + 1, s', k', G', by omega, by omega, ?_, ?_, z1, z2, z4, z5, z6, z7⟩⟩
        · show LB_X2_translate_72 c (L_X2_translate_72 c (f' + 1)) _ _ = _
          unfold LB_X2_translate_72
          rw [if_neg (by omega), if_neg (fun z => z hA.2.2.2.2.2.1), e1, cll_s, if_neg (fun z => z z1.2.2.2.2.2.1), z1.2.2.1, z1.1.2.2, if_neg (by omega), z1.1.2.1, Int.toNat_natCast, grd_s z1.1.1, z4]
        · show LB_X12_tongue_54 (L_X12_tongue_54 (g' + 1)) _ _ = _
          unfold LB_X12_tongue_54 J_X12_tongue_91 J_X12_tongue_93
          rw [if_neg (by decide), good_s hB.2.2.2.1, cll_s, if_neg (by decide), e2, cll_s, good_s z2.2.2.2.1, cll_s, if_neg (by decide), z2.1.1, z2.2.1, if_pos (by omega), nmv_s, if_pos rfl, L54_0]
      · have hp' : p' < n := by omega
        obtain ⟨x, y, f1, f2, f3⟩ := next0 hT z1 z2
        unfold Nx at f3
        have stA : L_X2_translate_72 c (f' + 1 + 1) (m : Int) a = cll (F_X2_pass 59 a') (fun r1 m2 => L_X2_translate_72 c (f' + 1) ((m + 1 : Nat) : Int) m2) := by
          show LB_X2_translate_72 c (L_X2_translate_72 c (f' + 1)) _ _ = _
          unfold LB_X2_translate_72 J_X2_translate_116
          rw [if_neg (by omega), if_neg (fun z => z hA.2.2.2.2.2.1), e1, cll_s, if_neg (fun z => z z1.2.2.2.2.2.1), z1.2.2.1, z1.1.2.2, if_pos (by omega)]
          simp only [nmv_s]
          rw [wr_s (by omega)]
          rfl
        have stB : L_X12_tongue_54 (g' + 1 + 1) 1 b = if y = 59 then L_X12_tongue_54 (g' + 1) 1 (upd2 b' 54 27 ((p' + 1 : Nat) : Int)) else L_X12_tongue_54 (g' + 1) 1 (upd2 (upd2 b' 54 29 (-1000 * 1 - (p' : Int))) 54 27 ((p' + 1 : Nat) : Int)) := by
          show LB_X12_tongue_54 (L_X12_tongue_54 (g' + 1)) _ _ = _
          unfold LB_X12_tongue_54 J_X12_tongue_93 J_X12_tongue_115
          rw [if_neg (by decide), good_s hB.2.2.2.1, cll_s, if_neg (by decide), e2, cll_s, good_s z2.2.2.2.1, cll_s, if_neg (by decide), z2.1.1, z2.2.1, if_neg (by omega), nmv_s, if_neg (by decide), f2, cll_s]
          by_cases hy : y = 59
          · rw [if_pos hy, if_pos hy, stf_s, z2.2.1, wr_s (by omega)]
            rfl
          · rw [if_neg hy, if_neg hy, z2.2.1, wrongs_s z2.2.2.2.1 1 p' (by decide) (by omega), cll_s, stf_s, u2n (by decide), z2.2.1, wr_s (x := (p' : Int) + 1) (by omega)]
            rfl
        rw [stA, stB, pass_s hT z1 f1]
        by_cases hy : y = 59
        · have hx : x = 59 := by omega
          rw [if_pos hx, if_pos hy, cll_s]
          have hB3 : RS0 (upd2 b' 54 27 ((p' + 1 : Nat) : Int)) n T (p' + 1) k' := by
            obtain ⟨⟨t1, t2⟩, t3, t4, t5, t6, t7⟩ := z2
            exact ⟨⟨(u2n (by decide)).trans t1, fun i hi => by rw [u2r (by decide)]; exact t2 i hi⟩, u2s _ _ _ _, by omega, (u2n (by decide)).trans t5, (u2n (by decide)).trans t6, by omega⟩
          have hc := z1.1.1
          have rc : ∀ j, j ≤ 5 → (upd2 a' 32 3 ((p' + 1 : Nat) : Int)) (c + j) = a' (c + j) := fun j hj => by rw [u2r (by omega)]
          have rc0 : (upd2 a' 32 3 ((p' + 1 : Nat) : Int)) c = a' c := rc 0 (by omega)
          obtain ⟨a2, b2, t1, t2, t3⟩ := ih (m + 1) (upd2 a' 32 3 ((p' + 1 : Nat) : Int)) (upd2 b' 54 27 ((p' + 1 : Nat) : Int)) (p' + 1) s' k' G' (f' + 1) (g' + 1) (by omega) (z1.to (by omega) (by omega)) hB3 (by rw [rc0]; exact z4) ((u2n (by decide)).trans z5)
            (by unfold CLA; rw [rc 1 (by omega), rc 2 (by omega), rc 3 (by omega), rc 4 (by omega), rc 5 (by omega), rc0]; exact z6)
            (by unfold CLB; rw [u2r (by decide), u2r (by decide), u2r (by decide), u2r (by decide), u2r (by decide), u2r (by decide)]; exact z7) (by omega) (by omega)
          exact ⟨a2, b2, (e3.trans (Fr.upd (Fr.refl _ _) _ rfl)).trans t1, (e4.trans (Fr.upd (Fr.refl _ _) _ rfl)).trans t2, t3⟩
        · have hx : x ≠ 59 := by omega
          obtain ⟨w1, w2, w3, w4⟩ := fail_s hT z1 (x := 1) (by decide)
          have hbc : BadC (upd2 a' 32 5 1) (upd2 (upd2 b' 54 29 (-1000 * 1 - (p' : Int))) 54 27 ((p' + 1 : Nat) : Int)) := ⟨w2.2.2.1, w2.2.2.2.1, by rw [u2n (by decide), u2s, w3, w4]⟩
          rw [if_neg hx, if_neg hy, cll_s, L72_b hbc, L54_b hbc]
          exact ⟨_, _, Fr.upd e3 _ rfl, Fr.upd (Fr.upd e4 _ rfl) _ rfl, Or.inl ⟨_, (J128_b (c2 := c) hbc).2.2, rfl, rfl⟩⟩

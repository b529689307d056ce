/-! draw; frames -/
theorem InvP.fr {a b a' b' : Mm} {Sa Sb : Nat → Nat → Bool} (h : InvP a b) (fa : Fr Sa a a') (fb : Fr Sb b b')
    (a1 : ∀ i, Sa 1 i = false := by intro i; rfl) (a2 : ∀ i, Sa 2 i = false := by intro i; rfl) (a3 : ∀ i, Sa 3 i = false := by intro i; rfl) (a4 : ∀ i, Sa 4 i = false := by intro i; rfl) (a5 : ∀ i, Sa 5 i = false := by intro i; rfl) (a6 : ∀ i, Sa 6 i = false := by intro i; rfl)
    (b0 : Sb 54 2 = false ∧ Sb 54 3 = false ∧ Sb 54 4 = false := by decide) (b2 : ∀ i, Sb 56 i = false := by intro i; rfl) (b3 : ∀ i, Sb 57 i = false := by intro i; rfl) (b4 : ∀ i, Sb 58 i = false := by intro i; rfl) (b5 : ∀ i, Sb 59 i = false := by intro i; rfl) (b6 : ∀ i, Sb 60 i = false := by intro i; rfl) : InvP a' b' := by
  unfold InvP
  rw [fa.row 1 a1, fa.row 2 a2, fa.row 3 a3, fa.row 4 a4, fa.row 5 a5, fa.row 6 a6, fb _ _ b0.1, fb _ _ b0.2.1, fb _ _ b0.2.2, fb.row 56 b2, fb.row 57 b3, fb.row 58 b4, fb.row 59 b5, fb.row 60 b6]
  exact h
theorem InvT.fr {a b a' b' : Mm} {Sa Sb : Nat → Nat → Bool} (h : InvT a b) (fa : Fr Sa a a') (fb : Fr Sb b b')
    (a1 : Sa 7 1 = false := by decide) (a2 : ∀ i, Sa 8 i = false := by intro i; rfl) (b1 : Sb 54 1 = false := by decide) (b2 : ∀ i, Sb 55 i = false := by intro i; rfl) : InvT a' b' := by
  unfold InvT
  rw [fa _ _ a1, fa.row 8 a2, fb _ _ b1, fb.row 55 b2]
  exact h
theorem InvS.fr {a b a' b' : Mm} {Sa Sb : Nat → Nat → Bool} (h : InvS a b) (fa : Fr Sa a a') (fb : Fr Sb b b')
    (a0 : Sa 1 5 = false := by decide) (a1 : Sa 9 4 = false ∧ Sa 9 5 = false := by decide) (a2 : ∀ i, Sa 10 i = false := by intro i; rfl) (a3 : ∀ i, Sa 11 i = false := by intro i; rfl) (b1 : Sb 54 5 = false ∧ Sb 54 6 = false := by decide) (b2 : ∀ i, Sb 61 i = false := by intro i; rfl) (b3 : ∀ i, Sb 62 i = false := by intro i; rfl) : InvS a' b' := by
  unfold InvS
  rw [fa _ _ a0, fa _ _ a1.1, fa _ _ a1.2, fa.row 10 a2, fa.row 11 a3, fb _ _ b1.1, fb _ _ b1.2, fb.row 61 b2, fb.row 62 b3]
  exact h
theorem tmod_p {x y : Int} (h : 0 ≤ x) : x.tmod y = x % y := Int.tmod_eq_emod_of_nonneg h
theorem tdiv_p {x y : Int} (h : 0 ≤ x) : x.tdiv y = x / y := Int.tdiv_eq_ediv_of_nonneg h
theorem iand_7 {x : Int} (h : 0 ≤ x ∧ x ≤ 2147483647) : iand x 7 = x % 8 := iand_mask 3 (by decide) h
theorem iand_1 {x : Int} (h : 0 ≤ x ∧ x ≤ 2147483647) : iand x 1 = x % 2 := iand_mask 1 (by decide) h
theorem iand_65535 {x : Int} (h : 0 ≤ x ∧ x ≤ 2147483647) : iand x 65535 = x % 65536 := iand_mask 16 (by decide) h
theorem ishr_3 {x : Int} (h : 0 ≤ x ∧ x ≤ 2147483647) : ishr x 3 = x / 8 := ishr_s 3 (by decide) h
def nextX (x : Int) : Int := (25173 * x + 13849) % 65536
theorem draw_l {n : Nat} {fr s0 : Int} (hn : n ≤ 200) (hfr : 0 ≤ fr ∧ fr ≤ 10000) : ∀ (k i : Nat) (a b : Mm) (f g : Nat), i + k = n → InvP a b → InvS a b → lastA a < fr + i → 0 ≤ s0 → s0 ≤ a 9 4 → k < f → k < g → ∃ r a' b', L_X9_goOn_22 f (n : Int) fr s0 (i : Int) a = some (r, a') ∧ L_X12_draw_44 g (n : Int) fr (a 9 4 - s0) (i : Int) b = some (r, b') ∧ InvS a' b' ∧ Fr sDa a a' ∧ Fr sDb b b' := by
  intro k
  induction k with
  | zero =>
    intro i a b f g hi hP hS hl hs1 hs2 hf hg
    obtain ⟨f', rfl⟩ : ∃ f', f = f' + 1 := ⟨f - 1, by omega⟩
    obtain ⟨g', rfl⟩ : ∃ g', g = g' + 1 := ⟨g - 1, by omega⟩
    have h0 := hS.1
    refine ⟨a 9 4 - s0, a, b, ?_, ?_, hS, Fr.refl _ _, Fr.refl _ _⟩
    · show LB_X9_goOn_22 (L_X9_goOn_22 f') _ _ _ _ _ = _
      unfold LB_X9_goOn_22
      rw [if_pos (by omega), wr_s (by omega)]
    · show LB_X12_draw_44 (L_X12_draw_44 g') _ _ _ _ _ = _
      unfold LB_X12_draw_44
      rw [if_pos (by omega)]
  | succ k ih =>
    intro i a b f g hi hP hS hl hs1 hs2 hf hg
    obtain ⟨f', rfl⟩ : ∃ f', f = f' + 1 := ⟨f - 1, by omega⟩
    obtain ⟨g', rfl⟩ : ∃ g', g = g' + 1 := ⟨g - 1, by omega⟩
    have h0 := hS.1
    have hn8 := hP.A.1
    have en := hP.n
    have hx : 0 ≤ nextX (a 9 5) ∧ nextX (a 9 5) ≤ 65535 := by unfold nextX; omega
    have fa1 : Fr sDa a (upd2 a 9 5 (nextX (a 9 5))) := Fr.upd (Fr.refl _ _) _ rfl
    have fb1 : Fr sDb b (upd2 b 54 6 (nextX (a 9 5))) := Fr.upd (Fr.refl _ _) _ rfl
    have hP1 : InvP (upd2 a 9 5 (nextX (a 9 5))) (upd2 b 54 6 (nextX (a 9 5))) := hP.fr fa1 fb1
    have hS1 : InvS (upd2 a 9 5 (nextX (a 9 5))) (upd2 b 54 6 (nextX (a 9 5))) := by
      have := IvS.luck hS hx
      unfold InvS
      simp (disch := decide) only [u2r, u2n, u2s]
      exact this
    have hl1 : lastA (upd2 a 9 5 (nextX (a 9 5))) = lastA a := by
      unfold lastA
      simp (disch := decide) only [u2r, u2n]
    generalize ea : upd2 a 9 5 (nextX (a 9 5)) = a1 at hP1 hS1 hl1 fa1
    generalize eb : upd2 b 54 6 (nextX (a 9 5)) = b1 at hP1 hS1 fb1
    have en1 := hP1.n
    have v1 : a1 1 5 = a 1 5 := fa1 1 5 rfl
    have v2 : a1 9 4 = a 9 4 := by rw [← ea, u2n (by decide)]
    have v3 : a1 9 5 = nextX (a 9 5) := by rw [← ea, u2s]
    have v4 : b1 54 6 = nextX (a 9 5) := by rw [← eb, u2s]
    have v5 : b1 54 5 = a 9 4 := by rw [← eb, u2n (by decide), h0.1]
    have eA : ∀ rec, LB_X9_goOn_22 rec (n : Int) fr s0 (i : Int) a = if nextX (a 9 5) % 8 < a 1 5 then (if a 4 (nextX (a 9 5) % 8).toNat ≤ nextX (a 9 5) / 8 % 1000 then rec (n : Int) fr s0 ((i : Int) + 1) a1 else cll (F_X9_add (nextX (a 9 5) % 8) (fr + i) a1) (fun _ m12 => rec (n : Int) fr s0 ((i : Int) + 1) m12)) else rec (n : Int) fr s0 ((i : Int) + 1) a1 := by
      intro rec
      unfold LB_X9_goOn_22 J_X9_goOn_95
      rw [if_neg (by omega), wr_s (x := 25173 * a 9 5) (by omega), wr_s (x := 25173 * a 9 5 + 13849) (by omega), iand_65535 (by omega), stf_s]
      show nmv (iand (upd2 a 9 5 (nextX (a 9 5)) 9 5) 7) _ = _
      rw [nmv_s, show (25173 * a 9 5 + 13849) % 65536 = nextX (a 9 5) from rfl, ea, v3, iand_7 (by omega), has_s, cll_s, ib0, v1]
      simp only [nmv_s]
      rw [wr_s (x := (i : Int) + 1) (by omega)]
      by_cases h8 : nextX (a 9 5) % 8 < a 1 5
      · rw [if_pos (by omega), if_pos h8, dvn_s (by decide), ishr_3 (by omega), tmod_p (by omega), wr_s (by omega)]
        unfold F_X4_thousandthsOf
        rw [has_s, cll_s, ib0, v1, if_pos (by omega), ald_s (by omega), cll_s, wr_s (by omega), fa1.row 4 (fun _ => rfl), v3]
      · rw [if_neg (by omega), if_neg h8]
    have eB : ∀ rec, LB_X12_draw_44 rec (n : Int) fr (a 9 4 - s0) (i : Int) b = if nextX (a 9 5) % 8 < a 1 5 then (if a 4 (nextX (a 9 5) % 8).toNat ≤ nextX (a 9 5) / 8 % 1000 then rec (n : Int) fr (a 9 4 - s0) ((i : Int) + 1) b1 else if 9999 < fr + i then rec (n : Int) fr (a 9 4 - s0) ((i : Int) + 1) b1 else if ¬ a 9 4 = 150 then cll (F_X12_say (nextX (a 9 5) % 8) (fr + i) b1) (fun _ m12 => rec (n : Int) fr (a 9 4 - s0 + 1) ((i : Int) + 1) m12) else rec (n : Int) fr (a 9 4 - s0) ((i : Int) + 1) b1) else rec (n : Int) fr (a 9 4 - s0) ((i : Int) + 1) b1 := by
      intro rec
      unfold LB_X12_draw_44 J_X12_draw_147
      rw [if_neg (by omega), dvn_s (by decide), h0.2.1, wr_s (x := 25173 * a 9 5) (by omega), wr_s (x := 25173 * a 9 5 + 13849) (by omega), tmod_p (by omega), wr_s (by omega), stf_s, dvn_s (by decide), show (25173 * a 9 5 + 13849) % 65536 = nextX (a 9 5) from rfl, eb, v4, tmod_p (by omega), wr_s (x := nextX (a 9 5) % 8) (by omega), nmv_s, isMouth_s _ _ (by omega), cll_s, ib0, en1, v1]
      simp only [nmv_s]
      rw [wr_s (x := (i : Int) + 1) (by omega)]
      by_cases h8 : nextX (a 9 5) % 8 < a 1 5
      · rw [if_pos (by omega), if_pos h8, dvn_s (by decide), dvn_s (by decide), ald_s (by omega), fb1.row 58 (fun _ => rfl), (hP.2.1 _ (by omega)).1.2.2.1, v4, tdiv_p (by omega), wr_s (x := nextX (a 9 5) / 8) (by omega), tmod_p (by omega), wr_s (x := nextX (a 9 5) / 8 % 1000) (by omega), wr_s (x := fr + (i : Int)) (by omega), v5, wr_s (x := a 9 4 - s0 + 1) (by omega)]
      · rw [if_neg (by omega), if_neg h8]
    show ∃ r a' b', LB_X9_goOn_22 (L_X9_goOn_22 f') _ _ _ _ _ = _ ∧ LB_X12_draw_44 (L_X12_draw_44 g') _ _ _ _ _ = _ ∧ _
    rw [eA, eB]
    have go : ∃ r a' b', L_X9_goOn_22 f' (n : Int) fr s0 ((i : Int) + 1) a1 = some (r, a') ∧ L_X12_draw_44 g' (n : Int) fr (a 9 4 - s0) ((i : Int) + 1) b1 = some (r, b') ∧ InvS a' b' ∧ Fr sDa a a' ∧ Fr sDb b b' := by
      obtain ⟨r, a', b', e1, e2, e3, e4, e5⟩ := ih (i + 1) a1 b1 f' g' (by omega) hP1 hS1 (by omega) hs1 (by omega) (by omega) (by omega)
      rw [show ((i + 1 : Nat) : Int) = (i : Int) + 1 by omega] at e1 e2
      rw [v2] at e2
      exact ⟨r, a', b', e1, e2, e3, fa1.trans e4, fb1.trans e5⟩
    by_cases h8 : nextX (a 9 5) % 8 < a 1 5
    · rw [if_pos h8, if_pos h8]
      by_cases h9 : a 4 (nextX (a 9 5) % 8).toNat ≤ nextX (a 9 5) / 8 % 1000
      · rw [if_pos h9, if_pos h9]; exact go
      · rw [if_neg h9, if_neg h9, add_s (by omega), v2, hl1]
        by_cases h10 : 9999 < fr + i
        · rw [if_neg (by omega), if_pos h10, cll_s]; exact go
        · rw [if_neg h10]
          by_cases h11 : a 9 4 = 150
          · rw [if_neg (by omega), if_neg (by simp [h11]), cll_s]; exact go
          · have hb := sayB_s hP1 hS1 (nextX (a 9 5) % 8) (fr + i)
            rw [v1, v2, hl1, if_pos (by omega)] at hb
            rw [if_pos (by omega), if_pos h11, cll_s, hb, cll_s]
            obtain ⟨r, a', b', e1, e2, e3, e4, e5⟩ := ih (i + 1) (sayA (nextX (a 9 5) % 8) (fr + i) a1) (sayB (nextX (a 9 5) % 8) (fr + i) b1) f' g' (by omega) (hP1.fr (sayA_fr _ _ _) (sayB_fr _ _ _)) (hS1.say (by omega) (by omega) (by omega)) (by rw [lastA_say _ _ (by omega)]; omega) hs1 (by unfold sayA; rw [u2s]; omega) (by omega) (by omega)
            rw [show ((i + 1 : Nat) : Int) = (i : Int) + 1 by omega] at e1 e2
            refine ⟨r, a', b', e1, ?_, e3, (fa1.trans (sayA_fr _ _ _)).trans e4, (fb1.trans (sayB_fr _ _ _)).trans e5⟩
            rw [← e2]
            congr 1
            unfold sayA
            rw [u2s]; omega
    · rw [if_neg h8, if_neg h8]; exact go
def sDf (k i : Nat) : Bool := sDa k i || (k == 14 && i == 5)
theorem draw_s {a b : Mm} (hP : InvP a b) (hS : InvS a b) (n : Int) : ∃ r a' b', F_X11_draw n a = some (r, a') ∧ F_X12_draw n b = some (r, b') ∧ InvS a' b' ∧ Fr sDf a a' ∧ Fr sDb b b' ∧ (a' 14 5 = -1 ∨ a' = a) := by
  have h0 := hS.1
  unfold F_X11_draw F_X12_draw F_X3_forget F_X9_goOn
  rw [within_s, cll_s, ibn, lies_s, cll_s, ibn]
  by_cases h : 1 ≤ n ∧ n ≤ 200
  · rw [if_pos h, if_pos h, stf_s, cll_s]
    have f0 : Fr sDf a (upd2 a 14 5 (-1)) := Fr.upd (Fr.refl _ _) _ rfl
    have hP1 : InvP (upd2 a 14 5 (-1)) b := hP.fr f0 (Fr.refl (fun _ _ => false) _)
    have hS1 : InvS (upd2 a 14 5 (-1)) b := hS.fr (Fr.upd (S := fun k i => k == 14 && i == 5) (Fr.refl _ a) (-1) rfl) (Fr.refl (fun _ _ => false) _)
    have hv : upd2 a 14 5 (-1) 14 5 = -1 := u2s _ _ _ _
    have hw : upd2 a 14 5 (-1) 9 4 = a 9 4 := by rw [u2r (by decide)]
    generalize upd2 a 14 5 (-1) = a1 at hP1 hS1 f0 hv hw
    have hb := lastA_b hS1
    obtain ⟨r, a', b', e1, e2, e3, e4, e5⟩ := draw_l (n := n.toNat) (fr := lastA a1 + 1) (s0 := a1 9 4) (by omega) (by omega) n.toNat 0 a1 b 100000 100000 (by omega) hP1 hS1 (by omega) (by omega) (by omega) (by omega) (by omega)
    rw [show ((n.toNat : Nat) : Int) = n by omega, show ((0 : Nat) : Int) = 0 from rfl] at e1 e2
    rw [show a1 9 4 - a1 9 4 = 0 by omega] at e2
    refine ⟨r, a', b', ?_, ?_, e3, f0.trans (e4.mono (fun k i z => by unfold sDf at z; simp only [Bool.or_eq_false_iff] at z; exact z.1)), e5, Or.inl (by rw [e4 14 5 rfl, hv])⟩
    · rw [breathA_s (by omega), cll_s, wr_s (by omega), nmv_s, nmv_s, nmv_s, e1, cll_s]
    · unfold J_X12_draw_39
      by_cases e : a 9 4 = 0
      · have e6 : lastA a1 = -1 := by unfold lastA; rw [if_pos (by omega)]
        rw [if_neg (by omega), nmv_s, nmv_s, nmv_s, ← e2, e6]
        rfl
      · have e6 : lastA a1 = a1 11 (a1 9 4 - 1).toNat := by unfold lastA; rw [if_neg (by omega)]
        have e7 := hS1.2 (a1 9 4 - 1).toNat (by omega)
        rw [if_pos (by omega), ald_s (by rw [wr_s (by omega)]; omega), wr_s (x := b 54 5 - 1) (by omega), hS1.1.1, e7.1.2, ← e6, wr_s (by omega), nmv_s, nmv_s, nmv_s, e2]
  · rw [if_neg h, if_neg h]
    exact ⟨-1, a, b, rfl, rfl, hS, Fr.refl _ _, Fr.refl _ _, Or.inr rfl⟩

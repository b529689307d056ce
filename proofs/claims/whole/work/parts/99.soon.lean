/-! soonest: both sides, and what the class keeps of it -/
def COx (a : Mm) (G : Tg) : Prop := a 43 14 = min 1000000 (VV (syS G (a 5) (a 6) (a 43 10)) (cnX (a 43 10) 8) (LSn (a 5) (a 43 10)) 0 4 21) ∧ a 43 12 = (rsm (LSn (a 5) (a 43 10)) 0 (cnX (a 43 10) 8) 0 : Int) ∧ (∀ q, q < cnX (a 43 10) 8 → a 44 q = cI (a 43 10) q) ∧ (VV (syS G (a 5) (a 6) (a 43 10)) (cnX (a 43 10) 8) (LSn (a 5) (a 43 10)) 0 4 21 < 1000000 → ∀ i, i < rsm (LSn (a 5) (a 43 10)) 0 (cnX (a 43 10) 8) 0 → a 48 i = (wqN (syS G (a 5) (a 6) (a 43 10)) (cnX (a 43 10) 8) (LSn (a 5) (a 43 10)) i : Int) ∧ a 49 i = gpO (gqN (syS G (a 5) (a 6) (a 43 10)) (cnX (a 43 10) 8) (LSn (a 5) (a 43 10)) (rsm (LSn (a 5) (a 43 10)) 0 (cnX (a 43 10) 8) 0) (i + 1)))
theorem COx_fr : CoFr COx := by
  intro a a' G h h1 h2 h3 ⟨_, k2, k3⟩
  unfold COx
  rw [h1, h2, h3, k2 14 (by decide), k2 12 (by decide), k3 44 (by decide) (by decide), k3 48 (by decide) (by decide), k3 49 (by decide) (by decide)]
  exact h
theorem LSn_4 {L : Nat → Int} {x : Int} (hx : 0 ≤ x ∧ x ≤ 2147483647) (hL : ∀ j, j < 8 → 0 ≤ L j ∧ L j ≤ 4) (w : Nat) : LSn L x w ≤ 4 := by
  unfold LSn
  by_cases h : w < cnX x 8
  · rw [if_pos h]
    have := hL (cS x w) (cS_s hx (Nat.le_refl 8) h).1
    omega
  · rw [if_neg h]; omega
theorem syS_L {G : Tg} {L W : Nat → Int} {x : Int} (hx : 0 ≤ x ∧ x ≤ 2147483647) (hL : ∀ j, j < 8 → 0 ≤ L j ∧ L j ≤ 4) (hM : cnX x 8 ≤ 4) : SyL (syS G L W x) (cnX x 8) (LSn L x) := SyB hM (fun v _ => LSn_4 hx hL v)
/-- what the class answers out of what it keeps -/
theorem s126 {a : Mm} {G : Tg} {x what : Int} (h : COx a G) (h10 : a 43 10 = x) (hx : 0 ≤ x ∧ x ≤ 2147483647) (hL : ∀ j, j < 8 → 0 ≤ a 5 j ∧ a 5 j ≤ 4) (hM : cnX x 8 ≤ 4) (hw : what = -1 ∨ (100 ≤ what ∧ what ≤ 99 + wsm (a 5) x 8 0) ∨ (200 ≤ what ∧ what ≤ 199 + wsm (a 5) x 8 0)) {sp : Int} (hsp : sp = b2i (100 ≤ what ∧ what ≤ 99 + wsm (a 5) x 8 0)) : J_X11_soonest_126 what sp a = some (ansS G (a 5) (a 6) x what, a) := by
  have hy := syS_L (G := G) (W := a 6) hx hL hM
  have hS := wsm_S hx hL
  have h16 := rsm16 hy 0
  unfold COx at h
  rw [h10] at h
  obtain ⟨c1, c2, c3, c4⟩ := h
  have hle := VV_le (sy := syS G (a 5) (a 6) x) (M := cnX x 8) (Ln := LSn (a 5) x) (st := 0) (l := 4) (p := 21)
  have hin := VV0_in hy
  unfold J_X11_soonest_126 ansS
  rw [canBe_s c1, cll_s]
  rw [hS] at hw hsp
  generalize hVe : VV (syS G (a 5) (a 6) x) (cnX x 8) (LSn (a 5) x) 0 4 21 = V at *
  by_cases hV : V = 1000000000
  · rw [if_pos (show 1000000 ≤ V by omega), if_neg (fun z => z rfl), if_pos hV]
  · have hV1 : V < 1000000000 := by omega
    have hV2 := hin hV1
    rw [if_neg (show ¬ 1000000 ≤ V by omega), if_pos (by decide), if_neg hV]
    by_cases h1 : what = -1
    · rw [if_neg (fun z => z h1), if_pos h1, c1, show min 1000000 V = V by omega]
    · rw [if_pos h1, if_neg h1]
      have c5 := c4 (by omega)
      generalize hSe : rsm (LSn (a 5) x) 0 (cnX x 8) 0 = S at *
      by_cases h2 : 200 ≤ what
      · rw [hsp, b2i_f (by omega), if_pos rfl, if_pos h2, wr_s (by omega)]
        unfold F_X1_gapOf
        rw [if_neg (by omega), if_neg (by rw [c2]; omega), ald_s (by omega), (c5 (what - 200).toNat (by omega)).2, cll_s]
      · rw [hsp, b2i_t (by omega), if_neg (by decide), if_neg h2, wr_s (by omega)]
        have hwl := ((Rq_i hy (by rw [hVe]; exact hV1) (what - 100).toNat (by rw [hSe]; omega)).2 (by rw [hSe]; omega)).1
        unfold F_X1_speakerOf
        rw [if_neg (by omega), if_neg (by rw [c2]; omega), ald_s (by omega), (c5 (what - 100).toNat (by omega)).1, ald_s (by omega), Int.toNat_natCast, c3 _ hwl, cll_s]
def sSa (k i : Nat) : Bool := sM k i || (decide (43 ≤ k) && decide (k ≤ 51)) || k == 0 || decide (95 ≤ k)
theorem thr_v (n : Nat) : (n < 105 ∧ thr n = (4, 61530)) ∨ (105 ≤ n ∧ n < 1050 ∧ thr n = (3, 61425)) ∨ (1050 ≤ n ∧ n < 7875 ∧ thr n = (2, 60375)) ∨ (7875 ≤ n ∧ n < 52500 ∧ thr n = (1, 52500)) ∨ (52500 ≤ n ∧ thr n = (0, 0)) := by
  unfold thr
  by_cases h1 : n < 105
  · exact Or.inl ⟨h1, if_pos h1⟩
  · rw [if_neg h1]
    by_cases h2 : n < 1050
    · exact Or.inr (Or.inl ⟨by omega, h2, if_pos h2⟩)
    · rw [if_neg h2]
      by_cases h3 : n < 7875
      · exact Or.inr (Or.inr (Or.inl ⟨by omega, h3, if_pos h3⟩))
      · rw [if_neg h3]
        by_cases h4 : n < 52500
        · exact Or.inr (Or.inr (Or.inr (Or.inl ⟨by omega, h4, if_pos h4⟩)))
        · exact Or.inr (Or.inr (Or.inr (Or.inr ⟨by omega, if_neg h4⟩)))
theorem thr_dn {M n : Nat} (hM : M ≤ 4) (h : n < nd M) : (thr (nd M)).1 + 1 ≤ (thr n).1 ∧ (thr (nd M)).2 + nd M ≤ (thr n).2 := by
  have hv := thr_v n
  have hMc : M = 0 ∨ M = 1 ∨ M = 2 ∨ M = 3 ∨ M = 4 := by omega
  rcases hMc with e | e | e | e | e <;> subst e
  · exact absurd h (Nat.not_lt_zero _)
  · have h' : n < 105 := h
    rcases hv with ⟨_, e⟩ | ⟨z, _, e⟩ | ⟨z, _, e⟩ | ⟨z, _, e⟩ | ⟨z, e⟩ <;> first | (exfalso; omega) | (rw [e]; decide)
  · have h' : n < 1050 := h
    rcases hv with ⟨_, e⟩ | ⟨z, _, e⟩ | ⟨z, _, e⟩ | ⟨z, _, e⟩ | ⟨z, e⟩ <;> first | (exfalso; omega) | (rw [e]; decide)
  · have h' : n < 7875 := h
    rcases hv with ⟨_, e⟩ | ⟨z, _, e⟩ | ⟨z, _, e⟩ | ⟨z, _, e⟩ | ⟨z, e⟩ <;> first | (exfalso; omega) | (rw [e]; decide)
  · have h' : n < 52500 := h
    rcases hv with ⟨_, e⟩ | ⟨z, _, e⟩ | ⟨z, _, e⟩ | ⟨z, _, e⟩ | ⟨z, e⟩ <;> first | (exfalso; omega) | (rw [e]; decide)
/-- the class finds it -/
theorem s79 {a b : Mm} {G : Tg} (hP : InvP a b) (hA : GA a G) (hI : InvL a) {k n : Nat} (hn : a 1 5 = (n : Int)) (hk : 1 ≤ k ∧ k < 256) (hx : (k : Int) ≤ ishl 1 (n : Int) - 1) (h4 : pcN k ≤ 4) (hno : ¬ a 43 10 = (k : Int)) (what sp : Int) : ∃ kc ks a', J_X11_soonest_79 kc ks (k : Int) what sp a = J_X11_soonest_126 what sp a' ∧ Fr sSa a a' ∧ a' 43 10 = (k : Int) ∧ COx a' G ∧ InvL a' ∧ (potW a').1 + kc ≤ (potW a).1 ∧ (potW a').2 + ks ≤ (potW a).2 := by
  have hn8 := hP.A.1
  have hnn : n ≤ 8 := by omega
  have hxr : 0 ≤ (k : Int) ∧ (k : Int) ≤ 2147483647 := by omega
  have hM8 := cn_top n hnn k hk.2 hx
  have hM4 : cnX (k : Int) 8 ≤ 4 := by rw [cn_all k hk.2]; exact h4
  have hy := syS_L (G := G) (W := a 6) hxr hP.A8 hM4
  have h16 := rsm16 hy 0
  obtain ⟨i1, i2, i3, i4⟩ := hI
  obtain ⟨kc, ks, a1, d, e1, e2, e3, e4, e5, e6, e7, e8, e9, e10, e11⟩ := choose_s (a := a) hk.2 hnn hn rfl hM8 rfl hM4 hP.A8 rfl h16 i1 i2 ⟨i3, by omega⟩
  have hW : ∀ w, w < cnX (k : Int) 8 → a1 44 w = cI (k : Int) w ∧ (0 ≤ cI (k : Int) w ∧ cI (k : Int) w < a 1 5) ∧ a 5 (cI (k : Int) w).toNat = (LSn (a 5) (k : Int) w : Int) ∧ LSn (a 5) (k : Int) w ≤ 4 := by
    intro w hw
    obtain ⟨c1, c2, c3⟩ := cS_s (q := w) hxr hnn (by rw [hM8]; exact hw)
    have hl : LSn (a 5) (k : Int) w = (a 5 (cS (k : Int) w)).toNat := by unfold LSn; rw [if_pos hw]
    have h5 := hP.A8 (cS (k : Int) w) (by omega)
    have hc : cI (k : Int) w = (cS (k : Int) w : Int) := rfl
    refine ⟨e9 w hw, ⟨by omega, by omega⟩, ?_, LSn_4 hxr hP.A8 w⟩
    rw [hc, Int.toNat_natCast, hl]
    omega
  have hCh : ChS a1 G (cnX (k : Int) 8) (cI (k : Int)) (LSn (a 5) (k : Int)) (a 6) := by
    refine ⟨hA.fr (e2 17 3 rfl) (fun k i g1 g2 => e2 k i (by unfold sCa; simp only [Bool.or_eq_false_iff, Bool.and_eq_false_iff, beq_eq_false_iff_ne, decide_eq_false_iff_not]; omega)), hP.A.fr e2, hM4, e7, fun w hw => ?_, e2.row 6 fun _ => rfl, fun w j hw hj => ?_⟩
    · rw [e2 1 5 rfl, e2.row 5 fun _ => rfl]
      exact hW w hw
    · obtain ⟨_, z1, z2, _⟩ := hW w hw
      exact (hP.2.2.2 (cI (k : Int) w).toNat j (by omega) (by omega)).2.1
  obtain ⟨a2, f1, f2, f3⟩ := askGaps_s hCh
  have h02 : a2 0 = a1 0 := f2.row 0 fun _ => rfl
  have hdn := e4.ne
  have hd2 : a2 d = a1 d := f2.row d fun i => by
    unfold sAs sM
    simp only [Bool.or_eq_false_iff, Bool.and_eq_false_iff, beq_eq_false_iff_ne]
    omega
  have hdi2 : isDI a2 d := by unfold isDI at e4 ⊢; rw [cntD_0 h02]; exact e4
  have hKS : KS a2 (syS G (a 5) (a 6) (k : Int)) (LSn (a 5) (k : Int)) (cnX (k : Int) 8) d := KS_of (hCh.fr f2) f3 ((f2 43 9 rfl).trans e3) hdi2 (by rw [lenA_0 h02]; exact e5)
  have hKF : KF a2 (syS G (a 5) (a 6) (k : Int)) (LSn (a 5) (k : Int)) (cnX (k : Int) 8) d (rsm (LSn (a 5) (k : Int)) 0 (cnX (k : Int) 8) 0) := by
    refine ⟨hKS, fun st l g q1 q2 q3 q4 _ => Or.inl ?_, (f2 43 12 rfl).trans e8, rfl, fun w hw => ?_⟩
    · rw [hd2]
      exact e10 _ (isSt_nd q2 hM4 q3 q4).1
    · rw [f3.2.2 w hw]
      show ftV G (cI (k : Int)) (LSn (a 5) (k : Int)) (a 6) 4 21 w 0 21 = true ↔ syB G (cI (k : Int)) (LSn (a 5) (k : Int)) (a 6) 0 4 21 w 21 = true
      unfold ftV syB
      rw [dg0]
  obtain ⟨a3, g1, g2, g3, g4⟩ := findLeast_s hKF
  obtain ⟨a4, q1, q2, q3, q4⟩ := findSpeakers_s g3 g4
  have hl4 : a4 43 14 = min 1000000 (VV (syS G (a 5) (a 6) (k : Int)) (cnX (k : Int) 8) (LSn (a 5) (k : Int)) 0 4 21) := (q2 43 14 (sFs_n (by omega) (by decide) (by decide))).trans g4
  obtain ⟨a5, r1, r2, r3, r4⟩ := findGaps_s q3 hl4 q4
  have hfl : ∀ k i, k ≠ d → (k ≠ 43 ∨ i ≠ 14) → sFl d k i = false := fun k i z1 z2 => by
    unfold sFl
    simp only [Bool.or_eq_false_iff, Bool.and_eq_false_iff, beq_eq_false_iff_ne]
    exact ⟨z1, z2⟩
  -- what goes on from a1
  have t0 : a5 0 = a1 0 := by
    rw [r2.row 0 fun _ => sFg_n (by omega) (by decide) (by decide), q2.row 0 fun _ => sFs_n (by omega) (by decide) (by decide), g2.row 0 fun _ => hfl _ _ (by omega) (Or.inl (by decide)), h02]
  have t43 : ∀ i, i ≠ 14 → i ≠ 13 → a5 43 i = a1 43 i := fun i z1 z2 => by
    rw [r2 43 i (sFg_n (by omega) (by decide) (by decide)), q2 43 i (sFs_n (by omega) (by decide) (by decide)), g2 43 i (hfl _ _ (by omega) (Or.inr z1)), f2 43 i (by unfold sAs sM; simp only [Bool.or_eq_false_iff, Bool.and_eq_false_iff, beq_eq_false_iff_ne]; omega)]
  have t44 : a5 44 = a1 44 := by
    rw [r2.row 44 fun _ => sFg_n (by omega) (by decide) (by decide), q2.row 44 fun _ => sFs_n (by omega) (by decide) (by decide), g2.row 44 fun _ => hfl _ _ (by omega) (Or.inl (by decide)), f2.row 44 fun _ => rfl]
  have t5 : ∀ k, k = 5 ∨ k = 6 → a5 k = a k := fun k hk => by
    rw [r2.row k fun _ => sFg_n (by omega) (by omega) (by omega), q2.row k fun _ => sFs_n (by omega) (by omega) (by omega), g2.row k fun _ => hfl _ _ (by omega) (Or.inl (by omega)), f2.row k fun _ => by unfold sAs sM; simp only [Bool.or_eq_false_iff, Bool.and_eq_false_iff, beq_eq_false_iff_ne]; omega, e2.row k fun _ => by unfold sCa; simp only [Bool.or_eq_false_iff, Bool.and_eq_false_iff, beq_eq_false_iff_ne, decide_eq_false_iff_not]; omega]
  have t10 : a5 43 10 = (k : Int) := (t43 10 (by decide) (by decide)).trans e6
  have t9 : a5 43 9 = (d : Int) := (t43 9 (by decide) (by decide)).trans e3
  have tl : lenA a5 d = lenA a1 d := lenA_0 t0 d
  have hpot : potW a5 = thr (lenA a1 d) := by unfold potW; rw [t9, Int.toNat_natCast, tl]
  have hpota : potW a = thr (lenA a (a 43 9).toNat) := rfl
  have hpp : (potW a5).1 + kc ≤ (potW a).1 ∧ (potW a5).2 + ks ≤ (potW a).2 ∧ a5 0 100 = a 0 100 + (kc : Int) := by
    rw [hpot, hpota, t0]
    rcases e11 with ⟨z1, z2, z3, z4⟩ | ⟨z1, z2, z3, z4, z5⟩
    · subst z1 z2
      rw [z3, z4]
      exact ⟨Nat.le_refl _, Nat.le_refl _, (Int.add_zero _).symm⟩
    · subst z1 z2
      rw [z3]
      obtain ⟨y1, y2⟩ := thr_dn hM4 z4
      exact ⟨y1, y2, z5⟩
  refine ⟨kc, ks, a5, ?_, ?_, t10, ⟨?_, ?_, ?_, ?_⟩, ⟨?_, ?_, ?_, ?_⟩, hpp.1, hpp.2.1⟩
  · unfold J_X11_soonest_79 F_X1_knows
    rw [if_pos hno, cll_s, if_neg (fun z => z rfl), e1, cll_s, f1, cll_s, g1, cll_s, q1, cll_s, r1, cll_s]
  · intro k i hki
    unfold sSa sM at hki
    simp only [Bool.or_eq_false_iff, Bool.and_eq_false_iff, beq_eq_false_iff_ne, decide_eq_false_iff_not] at hki
    rw [r2 k i (sFg_n (by omega) (by omega) (by omega)), q2 k i (sFs_n (by omega) (by omega) (by omega)), g2 k i (hfl _ _ (by omega) (Or.inl (by omega))), f2 k i (by unfold sAs sM; simp only [Bool.or_eq_false_iff, Bool.and_eq_false_iff, beq_eq_false_iff_ne]; omega), e2 k i (by unfold sCa; simp only [Bool.or_eq_false_iff, Bool.and_eq_false_iff, beq_eq_false_iff_ne, decide_eq_false_iff_not]; omega)]
  · rw [t10, t5 5 (Or.inl rfl), t5 6 (Or.inr rfl), r2 43 14 (sFg_n (by omega) (by decide) (by decide))]
    exact hl4
  · rw [t10, t5 5 (Or.inl rfl), t43 12 (by decide) (by decide)]
    exact e8
  · rw [t10, t44]
    exact e9
  · rw [t10, t5 5 (Or.inl rfl), t5 6 (Or.inr rfl)]
    intro hV i hi
    refine ⟨?_, r4 hV i hi⟩
    rw [r2 48 i (sFg_n (by omega) (by decide) (by decide))]
    exact (q4 hV i hi).1
  · rw [t9]; omega
  · rw [t9, Int.toNat_natCast]
    unfold isDI at e4 ⊢
    rw [cntD_0 t0]
    exact e4
  · rw [hpp.2.2]; omega
  · rw [hpp.2.2]
    have := hpp.1
    omega
theorem W_soonest {a b : Mm} (h : InvW COx a b) (x what : Int) : ∃ (kc ks : Nat) (r : Int) (a' b' : Mm), F_X11_soonest kc ks x what a = some (r, a') ∧ F_X12_soonest x what b = some (r, b') ∧ InvW COx a' b' ∧ (potW a').1 + kc ≤ (potW a).1 ∧ (potW a').2 + ks ≤ (potW a).2 := by
  have h' := h
  obtain ⟨hB, hL, G, gA, gB, hC⟩ := h'
  have hP := hB.1
  have hn8 := hP.A.1
  have hsh := ishl1 (n := a 1 5) ⟨hn8.1, hn8.2.1⟩
  obtain ⟨n, hn⟩ : ∃ n : Nat, a 1 5 = (n : Int) := ⟨(a 1 5).toNat, by omega⟩
  have no : F_X11_soonest 0 0 x what a = some (-3, a) → F_X12_soonest x what b = some (-3, b) → ∃ (kc ks : Nat) (r : Int) (a' b' : Mm), F_X11_soonest kc ks x what a = some (r, a') ∧ F_X12_soonest x what b = some (r, b') ∧ InvW COx a' b' ∧ (potW a').1 + kc ≤ (potW a).1 ∧ (potW a').2 + ks ≤ (potW a).2 := fun z1 z2 => ⟨0, 0, -3, a, b, z1, z2, h, Nat.le_refl _, Nat.le_refl _⟩
  by_cases h1 : 1 ≤ x ∧ x ≤ ishl 1 (a 1 5) - 1
  · obtain ⟨k, rfl⟩ : ∃ k : Nat, x = (k : Int) := ⟨x.toNat, by omega⟩
    have hk : 1 ≤ k ∧ k < 256 := by omega
    have hxr : 0 ≤ (k : Int) ∧ (k : Int) ≤ 2147483647 := by omega
    have hx1 : (k : Int) ≤ ishl 1 (n : Int) - 1 := by rw [← hn]; exact h1.2
    by_cases h4 : pcN k ≤ 4
    · have hM4 : cnX (k : Int) 8 ≤ 4 := by rw [cn_all k hk.2]; exact h4
      have w1 : wsm (a 5) (k : Int) 8 0 = wsm (a 5) (k : Int) n 0 := by
        have := wsm_eq (x := (k : Int)) (L := a 5) (L' := a 5) (n := n) (N := 8) (fun j hj => rfl) (fun j z1 z2 => (hP.2.2.1 j (by omega) z2).1) (by omega) 8 0 (by omega)
        rw [this, Nat.sub_zero]
      have w2 : wsm (b 59) (k : Int) n 0 = wsm (a 5) (k : Int) n 0 := by
        have := wsm_eq (x := (k : Int)) (L := b 59) (L' := b 59) (n := n) (N := 8) (fun j hj => rfl) (fun j z1 z2 => (hP.2.2.1 j (by omega) z2).2) (by omega) 8 0 (by omega)
        rw [Nat.sub_zero, wsm_AB hP, hn, Int.toNat_natCast] at this
        exact this.symm
      have hwi := wsm_in (L := a 5) (x := (k : Int)) 8 0 (fun j _ hj => hP.A8 j (by omega))
      have hbn : b 54 2 = (n : Int) := hP.n.trans hn
      have hRef : F_X12_soonest (k : Int) what b = if what = -1 ∨ (100 ≤ what ∧ what ≤ 99 + wsm (a 5) (k : Int) 8 0) ∨ (200 ≤ what ∧ what ≤ 199 + wsm (a 5) (k : Int) 8 0) then J_X12_soonest_103 (k : Int) what b else some (-3, b) := by
        have e := s24 (x := (k : Int)) (what := what) hxr (by omega : n ≤ 8) hbn hP.L8 n 0 0 100000 (by omega) (by omega) (by omega)
        rw [show ((0 : Nat) : Int) = 0 from rfl, Int.zero_add, w2, ← w1] at e
        unfold F_X12_soonest
        rw [areM_s _ _ (by rw [hbn]; omega), cll_s, ib0, hP.n, if_pos h1, sizeOf_s hk.2, cll_s, if_pos (by omega), nmv_s, nmv_s]
        exact e
      have hCls : ∀ kc ks, F_X11_soonest kc ks (k : Int) what a = if what = -1 ∨ (100 ≤ what ∧ what ≤ 99 + wsm (a 5) (k : Int) 8 0) ∨ (200 ≤ what ∧ what ≤ 199 + wsm (a 5) (k : Int) 8 0) then J_X11_soonest_79 kc ks (k : Int) what (b2i (100 ≤ what ∧ what ≤ 99 + wsm (a 5) (k : Int) 8 0)) a else grd (kc = 0) (some (-3, a)) := by
        intro kc ks
        unfold F_X11_soonest
        rw [hasAll_s, cll_s, ib0, if_pos h1, bitCount_s hk.2, cll_s, if_pos (by omega), wordsOf_s hP.A, cll_s, hn, Int.toNat_natCast, ← w1, nmv_s]
        generalize wsm (a 5) (k : Int) 8 0 = S at *
        rw [wr_s (x := 100 + S) (by omega), wr_s (x := 100 + S - 1) (by omega), wr_s (x := 200 + S) (by omega), wr_s (x := 200 + S - 1) (by omega), show 100 + S - 1 = 99 + S by omega, show 200 + S - 1 = 199 + S by omega, within_s, cll_s, nmv_s, within_s, cll_s, nmv_s, ibn, ibn]
        by_cases c1 : what = -1
        · rw [if_pos c1, if_pos (Or.inl c1)]
        · rw [if_neg c1]
          by_cases c2 : 100 ≤ what ∧ what ≤ 99 + S
          · rw [if_pos c2, if_pos (Or.inr (Or.inl c2))]
          · rw [if_neg c2]
            by_cases c3 : 200 ≤ what ∧ what ≤ 199 + S
            · rw [if_pos c3, if_pos (Or.inr (Or.inr c3))]
            · rw [if_neg c3, if_neg (fun z => z.elim c1 (fun z => z.elim c2 c3))]
      by_cases hw : what = -1 ∨ (100 ≤ what ∧ what ≤ 99 + wsm (a 5) (k : Int) 8 0) ∨ (200 ≤ what ∧ what ≤ 199 + wsm (a 5) (k : Int) 8 0)
      · rw [if_pos hw] at hRef
        obtain ⟨b', q1, q2⟩ := s103 hP gB hn hk.2 hx1 h4 hw
        have gB' : GB b' G := gB.fr (q2 54 14 rfl) (fun k i g1 g2 => q2 k i (by unfold sSb sN; simp only [Bool.or_eq_false_iff, Bool.and_eq_false_iff, beq_eq_false_iff_ne, decide_eq_false_iff_not]; omega))
        by_cases hkn : a 43 10 = (k : Int)
        · have hCO : COx a G := by
            rcases hC with z | z
            · omega
            · exact z
          have fa : Fr No a a := Fr.refl _ _
          refine ⟨0, 0, ansS G (a 5) (a 6) (k : Int) what, a, b', ?_, hRef.trans q1, ⟨hB.fr fa q2 (hB.2.1.fr fa q2) hB.2.2.2.2.1 hB.2.2.2.2.2.2, hL, G, gA, gB', Or.inr hCO⟩, Nat.le_refl _, Nat.le_refl _⟩
          rw [hCls, if_pos hw]
          unfold J_X11_soonest_79 F_X1_knows
          rw [if_neg (fun z => z hkn), cll_s, if_pos (by decide), grd_s ⟨rfl, rfl⟩]
          exact s126 hCO hkn hxr hP.A8 hM4 hw rfl
        · obtain ⟨kc, ks, a', e1, e2, e3, e4, e5, e6, e7⟩ := s79 hP gA hL hn hk hx1 h4 hkn what (b2i (100 ≤ what ∧ what ≤ 99 + wsm (a 5) (k : Int) 8 0))
          have h5 : a' 5 = a 5 := e2.row 5 fun _ => rfl
          have h6 : a' 6 = a 6 := e2.row 6 fun _ => rfl
          refine ⟨kc, ks, ansS G (a 5) (a 6) (k : Int) what, a', b', ?_, hRef.trans q1, ⟨hB.fr e2 q2 (hB.2.1.fr e2 q2) (hB.2.2.2.2.1.fr e2) (hB.2.2.2.2.2.2.fr e2), e5, G, gA.fr (e2 17 3 rfl) (fun k i g1 g2 => e2 k i (by unfold sSa sM; simp only [Bool.or_eq_false_iff, Bool.and_eq_false_iff, beq_eq_false_iff_ne, decide_eq_false_iff_not]; omega)), gB', Or.inr e4⟩, e6, e7⟩
          rw [hCls, if_pos hw, e1, s126 e4 e3 hxr (by rw [h5]; exact hP.A8) hM4 (by rw [h5]; exact hw) (by rw [h5]), h5, h6]
      · refine no ?_ ?_
        · rw [hCls, if_neg hw, grd_s rfl]
        · rw [hRef, if_neg hw]
    · refine no ?_ ?_
      · unfold F_X11_soonest
        rw [hasAll_s, cll_s, ib0, if_pos h1, bitCount_s hk.2, cll_s, if_neg (by omega), grd_s rfl]
      · unfold F_X12_soonest
        rw [areM_s _ _ (by rw [hP.n]; omega), cll_s, ib0, hP.n, if_pos h1, sizeOf_s hk.2, cll_s, if_neg (by omega)]
  · refine no ?_ ?_
    · unfold F_X11_soonest
      rw [hasAll_s, cll_s, ib0, if_neg h1, grd_s rfl]
    · unfold F_X12_soonest
      rw [areM_s _ _ (by rw [hP.n]; omega), cll_s, ib0, hP.n, if_neg h1]

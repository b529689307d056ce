/-! byRules -/
theorem begA {x : Int} : ∀ (k i : Nat) (m : Mm) (f : Nat), i + k = 8 → PpA m → (∀ j, j < i → m 53 j = 0) → k < f → ∃ m', L_X6_begin_2 f x (i : Int) m = some (0, m') ∧ Fr sRa m m' ∧ (∀ j, j < 8 → m' 53 j = 0) ∧ m' 52 3 = wsm (m 5) x (m 1 5).toNat 0 ∧ m' 52 4 = 0 ∧ m' 52 5 = 0 ∧ m' 52 6 = 0 ∧ m' 52 7 = 8 ∧ m' 52 8 = 63 := by
  intro k
  induction k with
  | zero =>
    intro i m f hi hP hz hf
    obtain ⟨f', rfl⟩ : ∃ f', f = f' + 1 := ⟨f - 1, by omega⟩
    refine ⟨upd2 (upd2 (upd2 (upd2 (upd2 (upd2 m 52 3 (wsm (m 5) x (m 1 5).toNat 0)) 52 4 0) 52 5 0) 52 6 0) 52 7 8) 52 8 63, ?_, ?_, fun j hj => ?_, ?_, ?_, ?_, ?_, ?_, ?_⟩
    · show LB_X6_begin_2 (L_X6_begin_2 f') _ _ _ = _
      unfold LB_X6_begin_2
      rw [if_pos (by omega), wordsOf_s hP, cll_s, stf_s, stf_s, stf_s, stf_s, stf_s, stf_s]
    · exact Fr.upd (Fr.upd (Fr.upd (Fr.upd (Fr.upd (Fr.upd (Fr.refl _ _) _ rfl) _ rfl) _ rfl) _ rfl) _ rfl) _ rfl
    · rw [u2r (by decide), u2r (by decide), u2r (by decide), u2r (by decide), u2r (by decide), u2r (by decide)]; exact hz j (by omega)
    all_goals simp (disch := decide) only [u2n, u2s]
  | succ k ih =>
    intro i m f hi hP hz hf
    obtain ⟨f', rfl⟩ : ∃ f', f = f' + 1 := ⟨f - 1, by omega⟩
    have hfr : Fr sRa m (upd2 m 53 i 0) := Fr.upd (Fr.refl _ _) _ rfl
    obtain ⟨m', e1, e2, e3⟩ := ih (i + 1) (upd2 m 53 i 0) f' (by omega) (hP.fr hfr) (fun j hj => by
      by_cases e : j = i
      · subst e; rw [u2s]
      · rw [u2n e]; exact hz j (by omega)) (by omega)
    rw [u2r (by decide), u2r (by decide)] at e3
    refine ⟨m', ?_, hfr.trans e2, e3⟩
    rw [← e1]
    show LB_X6_begin_2 (L_X6_begin_2 f') _ _ _ = _
    unfold LB_X6_begin_2
    rw [if_neg (by omega), ast_s (by omega), nmv_s, wr_s (by omega), Int.toNat_natCast]
    rfl
theorem begB {x B what : Int} (hx : 0 ≤ x ∧ x ≤ 2147483647) : ∀ (k i : Nat) (b : Mm) (acc : Int) (f : Nat), i + k = 8 → (∀ j, j < 8 → 0 ≤ b 59 j ∧ b 59 j ≤ 4) → (0 ≤ acc ∧ acc ≤ 4 * i) → (∀ j, j < i → b 90 j = 0) → k < f → ∃ b', L_X12_byRules_40 f x B what acc (i : Int) b = L_X12_byRules_109 100000 x B what (acc + wsm (b 59) x k i) 8 63 (-1) 0 0 0 0 b' ∧ Fr sRb b b' ∧ (∀ j, j < 8 → b' 90 j = 0) := by
  intro k
  induction k with
  | zero =>
    intro i b acc f hi hL ha hz hf
    obtain ⟨f', rfl⟩ : ∃ f', f = f' + 1 := ⟨f - 1, by omega⟩
    refine ⟨b, ?_, Fr.refl _ _, fun j hj => hz j (by omega)⟩
    show LB_X12_byRules_40 (L_X12_byRules_40 f') _ _ _ _ _ _ = _
    unfold LB_X12_byRules_40 wsm
    rw [if_pos (by omega), nmv_s, nmv_s, nmv_s, nmv_s, nmv_s, nmv_s, nmv_s, Int.add_zero]
  | succ k ih =>
    intro i b acc f hi hL ha hz hf
    obtain ⟨f', rfl⟩ : ∃ f', f = f' + 1 := ⟨f - 1, by omega⟩
    have hfr : Fr sRb b (upd2 b 90 i 0) := Fr.upd (Fr.refl _ _) _ rfl
    have hLi := hL i (by omega)
    have hzz : ∀ j, j < i + 1 → (upd2 b 90 i 0) 90 j = 0 := fun j hj => by
      by_cases e : j = i
      · subst e; rw [u2s]
      · rw [u2n e]; exact hz j (by omega)
    have r59 : (upd2 b 90 i 0) 59 = b 59 := u2r (by decide)
    show ∃ b', LB_X12_byRules_40 (L_X12_byRules_40 f') _ _ _ _ _ _ = _ ∧ _
    unfold LB_X12_byRules_40 J_X12_byRules_80
    rw [if_neg (by omega), ast_s (by omega), has2_s hx (by omega), cll_s, Int.toNat_natCast]
    unfold wsm
    by_cases hb : bit x i = 0
    · obtain ⟨b', e1, e2, e3⟩ := ih (i + 1) (upd2 b 90 i 0) acc f' (by omega) (by rw [r59]; exact hL) (by omega) hzz (by omega)
      rw [r59] at e1
      refine ⟨b', ?_, hfr.trans e2, e3⟩
      rw [if_pos hb, if_pos hb, nmv_s, nmv_s, Int.add_zero, wr_s (x := acc) (by omega), wr_s (by omega), Int.zero_add]
      exact e1
    · obtain ⟨b', e1, e2, e3⟩ := ih (i + 1) (upd2 b 90 i 0) (acc + b 59 i) f' (by omega) (by rw [r59]; exact hL) (by omega) hzz (by omega)
      rw [r59] at e1
      refine ⟨b', ?_, hfr.trans e2, e3⟩
      rw [if_neg hb, if_neg hb, ald_s (by omega), nmv_s, nmv_s, Int.toNat_natCast, r59, wr_s (x := acc + b 59 i) (by omega), wr_s (by omega), ← Int.add_assoc]
      exact e1
theorem InvP.L8 {a b : Mm} (hP : InvP a b) : ∀ j, j < 8 → 0 ≤ b 59 j ∧ b 59 j ≤ 4 := by
  intro j hj
  by_cases h : (j : Int) < a 1 5
  · have := hP.2.1 j h; omega
  · have := hP.2.2.1 j (by omega) hj; omega
theorem wsm_AB {a b : Mm} (hP : InvP a b) (x : Int) : wsm (b 59) x 8 0 = wsm (a 5) x (a 1 5).toNat 0 := by
  have h := hP.A.1
  have := wsm_eq (x := x) (L := a 5) (L' := b 59) (n := (a 1 5).toNat) (N := 8) (fun j hj => (hP.2.1 j (by omega)).1.2.2.2) (fun j h1 h2 => (hP.2.2.1 j (by omega) h2).2) (by omega) 8 0 (by omega)
  rw [this, Nat.sub_zero]
theorem byRules_s {a b : Mm} {G : Tg} (hP : InvP a b) (hA : GA a G) (hB : GB b G) (x B what : Int) : ∃ r a' b', F_X11_byRules x B what a = some (r, a') ∧ F_X12_byRules x B what b = some (r, b') ∧ Fr sRa a a' ∧ Fr sRb b b' := by
  have hn := hP.A.1
  have en := hP.n
  have hsh := ishl1 (n := a 1 5) (by omega)
  unfold F_X11_byRules F_X12_byRules
  rw [hasAll_s, cll_s, ib0, areM_s _ _ (by omega), cll_s, ib0, en]
  by_cases h1 : 1 ≤ x ∧ x ≤ ishl 1 (a 1 5) - 1
  · rw [if_pos h1, if_pos h1, within_s, cll_s, ib0, lies_s, cll_s, ib0]
    by_cases h2 : 1 ≤ B ∧ B ≤ 400
    · rw [if_pos h2, if_pos h2, within_s, cll_s, ibn, lies_s, cll_s, ibn]
      by_cases h3 : 0 ≤ what ∧ what ≤ 2
      · rw [if_pos h3, if_pos h3]
        obtain ⟨B', rfl⟩ : ∃ k : Nat, B = (k : Int) := ⟨B.toNat, by omega⟩
        have hx : 0 ≤ x ∧ x ≤ 2147483647 := by omega
        obtain ⟨a1, e1, e2, e3, e4, e5, e6, e7, e8, e9⟩ := begA (x := x) 8 0 a 100000 (by omega) hP.A (fun j hj => absurd hj (by omega)) (by omega)
        obtain ⟨b1, d1, d2, d3⟩ := begB (x := x) (B := (B' : Int)) (what := what) hx 8 0 b 0 100000 (by omega) hP.L8 (by omega) (fun j hj => absurd hj (by omega)) (by omega)
        rw [Int.zero_add, wsm_AB hP] at d1
        have hin := wsm_in (L := a 5) (x := x) (a 1 5).toNat 0 (fun j _ hj => (hP.A.2 j (by omega)).2)
        obtain ⟨a2, b2, r1, r2, r3, r4⟩ := play_l (G := G) (x := x) (what := what) (n := (a 1 5).toNat) (B := B') hx (by omega) B' 0 a1 b1 0 (-1) 100000 100000 (by omega) (by rw [e2 1 5 rfl]; omega) (hP.fr e2 d2) (hA.frR e2) (hB.frR d2) (fun i hi => by
            have := (hP.A.2 i (by omega)).2
            rw [d3 i (by omega), e3 i (by omega), e2.row 5 (fun _ => rfl)]
            omega) (by rw [e4, e5, e6]; omega) (Or.inl ⟨e6, rfl⟩) (by omega) (by omega)
        rw [e4, e5, e6, e7, e8, e9] at r2
        rw [show ((0 : Nat) : Int) = 0 from rfl] at r1 r2 e1 d1
        refine ⟨resR what (a2 52 3) (a2 52 4) (a2 52 5) (a2 52 6), a2, b2, ?_, ?_, e2.trans r3, d2.trans r4⟩
        · unfold F_X6_play F_X6_begin
          rw [nmv_s, e1, cll_s, nmv_s, nmv_s, r1, cll_s]
          unfold resR
          by_cases w1 : what = 1
          · rw [if_neg (fun z => z w1), if_pos (by omega), if_neg (fun z => z w1)]
          · rw [if_pos w1]
            by_cases w2 : what = 2
            · rw [if_neg (fun z => z w2), if_pos (by omega), if_pos w1]
            · rw [if_pos w2, if_neg (show ¬ ¬ what = 0 by omega)]
              by_cases w3 : a2 52 3 ≤ 0
              · rw [if_pos w3, if_pos w3]
              · rw [if_neg w3, if_neg w3]
        · rw [nmv_s, nmv_s, d1]
          exact r2
      · rw [if_neg h3, if_neg h3]
        exact ⟨_, a, b, rfl, rfl, Fr.refl _ _, Fr.refl _ _⟩
    · rw [if_neg h2, if_neg h2]
      exact ⟨_, a, b, rfl, rfl, Fr.refl _ _, Fr.refl _ _⟩
  · rw [if_neg h1, if_neg h1]
    exact ⟨_, a, b, rfl, rfl, Fr.refl _ _, Fr.refl _ _⟩

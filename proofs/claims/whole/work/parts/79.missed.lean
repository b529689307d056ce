/-! missed, whole -/
theorem tg12 {n : Nat} {T : Nat → Int} (hn : n ≤ 10) : ∀ (k i : Nat) (m : Mm) (f : Nat), i + k = n → m 34 10 = (n : Int) → (2 * (n : Int) + 1 ≤ m 7 1 ∧ m 7 1 ≤ 220) → (∀ j, j < 2 * n + 1 → m 8 j = T j) → (∀ j, j < i → m 35 j = T j) → k < f → ∃ m', L_X5_takeGapsThenMeanings_12 f (i : Int) m = L_X5_takeGapsThenMeanings_39 100000 ((0 : Nat) : Int) m' ∧ (∀ j, j < n → m' 35 j = T j) ∧ (∀ c, c ≠ 35 → m' c = m c) := by
  intro k
  induction k with
  | zero =>
    intro i m f hi h10 h7 h8 hj hf
    obtain ⟨f', rfl⟩ : ∃ f', f = f' + 1 := ⟨f - 1, by omega⟩
    refine ⟨m, ?_, fun j h => hj j (by omega), fun _ _ => rfl⟩
    show LB_X5_takeGapsThenMeanings_12 (L_X5_takeGapsThenMeanings_12 f') _ _ = _
    unfold LB_X5_takeGapsThenMeanings_12
    rw [if_pos (by omega), nmv_s]
    rfl
  | succ k ih =>
    intro i m f hi h10 h7 h8 hj hf
    obtain ⟨f', rfl⟩ : ∃ f', f = f' + 1 := ⟨f - 1, by omega⟩
    obtain ⟨m', r1, r2, r3⟩ := ih (i + 1) (upd2 m 35 i (T i)) f' (by omega) (by rw [u2r (by decide)]; exact h10) (by rw [u2r (by decide)]; exact h7) (by rw [u2r (by decide)]; exact h8) (fun j h => by
      by_cases e : j = i
      · subst e; rw [u2s]
      · rw [u2n e]; exact hj j (by omega)) (by omega)
    refine ⟨m', ?_, r2, fun c h1 => (r3 c h1).trans (u2r h1)⟩
    rw [← r1]
    show LB_X5_takeGapsThenMeanings_12 (L_X5_takeGapsThenMeanings_12 f') _ _ = _
    unfold LB_X5_takeGapsThenMeanings_12 F_X10_byteAt
    rw [if_neg (by omega), if_neg (by omega), if_neg (by omega), ald_s (by omega), cll_s, ast_s (by omega), nmv_s, Int.toNat_natCast, wr_s (by omega), h8 _ (by omega)]
    rfl
theorem tg39 {n : Nat} {T : Nat → Int} (hn : n ≤ 10) : ∀ (k i : Nat) (m : Mm) (f : Nat), i + k = n + 1 → m 34 10 = (n : Int) → (2 * (n : Int) + 1 ≤ m 7 1 ∧ m 7 1 ≤ 220) → (∀ j, j < 2 * n + 1 → m 8 j = T j) → (∀ j, j < i → m 36 j = T (n + j)) → k < f → ∃ m', L_X5_takeGapsThenMeanings_39 f (i : Int) m = cll (F_X5_allSuch ((n + 1 : Nat) : Int) m') (fun r2 m3 => some (r2, m3)) ∧ (∀ j, j < n + 1 → m' 36 j = T (n + j)) ∧ (∀ c, c ≠ 36 → m' c = m c) := by
  intro k
  induction k with
  | zero =>
    intro i m f hi h10 h7 h8 hj hf
    obtain ⟨f', rfl⟩ : ∃ f', f = f' + 1 := ⟨f - 1, by omega⟩
    refine ⟨m, ?_, fun j h => hj j (by omega), fun _ _ => rfl⟩
    show LB_X5_takeGapsThenMeanings_39 (L_X5_takeGapsThenMeanings_39 f') _ _ = _
    unfold LB_X5_takeGapsThenMeanings_39
    rw [if_pos (by omega), h10, wr_s (by omega)]
    rfl
  | succ k ih =>
    intro i m f hi h10 h7 h8 hj hf
    obtain ⟨f', rfl⟩ : ∃ f', f = f' + 1 := ⟨f - 1, by omega⟩
    obtain ⟨m', r1, r2, r3⟩ := ih (i + 1) (upd2 m 36 i (T (n + i))) f' (by omega) (by rw [u2r (by decide)]; exact h10) (by rw [u2r (by decide)]; exact h7) (by rw [u2r (by decide)]; exact h8) (fun j h => by
      by_cases e : j = i
      · subst e; rw [u2s]
      · rw [u2n e]; exact hj j (by omega)) (by omega)
    refine ⟨m', ?_, r2, fun c h1 => (r3 c h1).trans (u2r h1)⟩
    rw [← r1]
    show LB_X5_takeGapsThenMeanings_39 (L_X5_takeGapsThenMeanings_39 f') _ _ = _
    unfold LB_X5_takeGapsThenMeanings_39 F_X10_byteAt
    rw [if_neg (by omega), h10, wr_s (x := (n : Int) + (i : Int)) (by omega), if_neg (by omega), if_neg (by omega), ald_s (by omega), cll_s, ast_s (by omega), nmv_s, Int.toNat_natCast, wr_s (by omega), show ((n : Int) + (i : Int)).toNat = n + i by omega, h8 _ (by omega)]
    rfl
theorem cp74 {n : Nat} {T : Nat → Int} {ear mo what : Int} (hn : n ≤ 10) : ∀ (k i : Nat) (b : Mm) (f : Nat), i + k = n → (∀ j, j < 2 * n + 1 → iand (b 55 j) 255 = T j) → (∀ j, j < i → b 80 j = T j) → k < f → ∃ b', L_X12_missed_74 f ear mo (n : Int) what (i : Int) b = L_X12_missed_102 100000 ear mo (n : Int) what ((0 : Nat) : Int) b' ∧ (∀ j, j < n → b' 80 j = T j) ∧ (∀ c, c ≠ 80 → b' c = b c) := by
  intro k
  induction k with
  | zero =>
    intro i b f hi hT hj hf
    obtain ⟨f', rfl⟩ : ∃ f', f = f' + 1 := ⟨f - 1, by omega⟩
    refine ⟨b, ?_, fun j h => hj j (by omega), fun _ _ => rfl⟩
    show LB_X12_missed_74 (L_X12_missed_74 f') _ _ _ _ _ _ = _
    unfold LB_X12_missed_74
    rw [if_pos (by omega), nmv_s]
    rfl
  | succ k ih =>
    intro i b f hi hT hj hf
    obtain ⟨f', rfl⟩ : ∃ f', f = f' + 1 := ⟨f - 1, by omega⟩
    obtain ⟨b', r1, r2, r3⟩ := ih (i + 1) (upd2 b 80 i (T i)) f' (by omega) (by rw [u2r (by decide)]; exact hT) (fun j h => by
      by_cases e : j = i
      · subst e; rw [u2s]
      · rw [u2n e]; exact hj j (by omega)) (by omega)
    refine ⟨b', ?_, r2, fun c h1 => (r3 c h1).trans (u2r h1)⟩
    rw [← r1]
    show LB_X12_missed_74 (L_X12_missed_74 f') _ _ _ _ _ _ = _
    unfold LB_X12_missed_74 F_X12_byteAt
    rw [if_neg (by omega), ald_s (by omega), cll_s, ast_s (by omega), nmv_s, Int.toNat_natCast, wr_s (by omega), hT _ (by omega)]
    rfl
theorem cp102 {n : Nat} {T : Nat → Int} {ear mo what : Int} (hn : n ≤ 10) : ∀ (k i : Nat) (b : Mm) (f : Nat), i + k = n + 1 → (∀ j, j < 2 * n + 1 → iand (b 55 j) 255 = T j) → (∀ j, j < i → b 81 j = T (n + j)) → k < f → ∃ b', L_X12_missed_102 f ear mo (n : Int) what (i : Int) b = L_X12_missed_132 100000 ear mo (n : Int) what ((0 : Nat) : Int) b' ∧ (∀ j, j < n + 1 → b' 81 j = T (n + j)) ∧ (∀ c, c ≠ 81 → b' c = b c) := by
  intro k
  induction k with
  | zero =>
    intro i b f hi hT hj hf
    obtain ⟨f', rfl⟩ : ∃ f', f = f' + 1 := ⟨f - 1, by omega⟩
    refine ⟨b, ?_, fun j h => hj j (by omega), fun _ _ => rfl⟩
    show LB_X12_missed_102 (L_X12_missed_102 f') _ _ _ _ _ _ = _
    unfold LB_X12_missed_102
    rw [if_pos (by omega), nmv_s]
    rfl
  | succ k ih =>
    intro i b f hi hT hj hf
    obtain ⟨f', rfl⟩ : ∃ f', f = f' + 1 := ⟨f - 1, by omega⟩
    obtain ⟨b', r1, r2, r3⟩ := ih (i + 1) (upd2 b 81 i (T (n + i))) f' (by omega) (by rw [u2r (by decide)]; exact hT) (fun j h => by
      by_cases e : j = i
      · subst e; rw [u2s]
      · rw [u2n e]; exact hj j (by omega)) (by omega)
    refine ⟨b', ?_, r2, fun c h1 => (r3 c h1).trans (u2r h1)⟩
    rw [← r1]
    show LB_X12_missed_102 (L_X12_missed_102 f') _ _ _ _ _ _ = _
    unfold LB_X12_missed_102 F_X12_byteAt
    rw [if_neg (by omega), wr_s (x := (n : Int) + (i : Int)) (by omega), ald_s (by omega), cll_s, ast_s (by omega), nmv_s, Int.toNat_natCast, wr_s (by omega), show ((n : Int) + (i : Int)).toNat = n + i by omega, hT _ (by omega)]
    rfl
theorem ck168 {n : Nat} {ear mo what : Int} (hn : n ≤ 10) : ∀ (k i : Nat) (b : Mm) (f : Nat), i + k = n + 1 → k < f → ((∀ j, i ≤ j → j < n + 1 → 0 ≤ b 81 j ∧ b 81 j ≤ 32) ∧ L_X12_missed_168 f ear mo (n : Int) what (i : Int) b = cll (F_X12_laysLast ear b) (fun r2 m3 => L_X12_missed_216 100000 ear mo (n : Int) what 0 (-3) 0 m3)) ∨ ((∃ j, j < n + 1 ∧ ¬ (0 ≤ b 81 j ∧ b 81 j ≤ 32)) ∧ L_X12_missed_168 f ear mo (n : Int) what (i : Int) b = some (-2, b)) := by
  intro k
  induction k with
  | zero =>
    intro i b f hi hf
    obtain ⟨f', rfl⟩ : ∃ f', f = f' + 1 := ⟨f - 1, by omega⟩
    refine Or.inl ⟨fun j h1 h2 => absurd h1 (by omega), ?_⟩
    show LB_X12_missed_168 (L_X12_missed_168 f') _ _ _ _ _ _ = _
    unfold LB_X12_missed_168
    rw [if_pos (by omega)]
    simp only [nmv_s]
  | succ k ih =>
    intro i b f hi hf
    obtain ⟨f', rfl⟩ : ∃ f', f = f' + 1 := ⟨f - 1, by omega⟩
    have hst : L_X12_missed_168 (f' + 1) ear mo (n : Int) what (i : Int) b = if 0 ≤ b 81 i ∧ b 81 i ≤ 32 then L_X12_missed_168 f' ear mo (n : Int) what ((i + 1 : Nat) : Int) b else some (-2, b) := by
      show LB_X12_missed_168 (L_X12_missed_168 f') _ _ _ _ _ _ = _
      unfold LB_X12_missed_168
      rw [if_neg (by omega), ald_s (by omega), Int.toNat_natCast, lies_s, cll_s, ibn, nmv_s, wr_s (by omega)]
      rfl
    rw [hst]
    by_cases hc : 0 ≤ b 81 i ∧ b 81 i ≤ 32
    · rw [if_pos hc]
      rcases ih (i + 1) b f' (by omega) (by omega) with ⟨z1, z2⟩ | z
      · refine Or.inl ⟨fun j h1 h2 => ?_, z2⟩
        by_cases e : j = i
        · subst e; exact hc
        · exact z1 j (by omega) h2
      · exact Or.inr z
    · rw [if_neg hc]
      exact Or.inr ⟨⟨i, by omega, hc⟩, rfl⟩
theorem ck132 {n : Nat} {ear mo what : Int} (hn : n ≤ 10) : ∀ (k i : Nat) (b : Mm) (f : Nat), i + k = n → k < f → ((∀ j, i ≤ j → j < n → 1 ≤ b 80 j ∧ b 80 j ≤ 63) ∧ L_X12_missed_132 f ear mo (n : Int) what (i : Int) b = L_X12_missed_168 100000 ear mo (n : Int) what ((0 : Nat) : Int) b) ∨ ((∃ j, j < n ∧ ¬ (1 ≤ b 80 j ∧ b 80 j ≤ 63)) ∧ L_X12_missed_132 f ear mo (n : Int) what (i : Int) b = some (-2, b)) := by
  intro k
  induction k with
  | zero =>
    intro i b f hi hf
    obtain ⟨f', rfl⟩ : ∃ f', f = f' + 1 := ⟨f - 1, by omega⟩
    refine Or.inl ⟨fun j h1 h2 => absurd h1 (by omega), ?_⟩
    show LB_X12_missed_132 (L_X12_missed_132 f') _ _ _ _ _ _ = _
    unfold LB_X12_missed_132
    rw [if_pos (by omega), nmv_s]
    rfl
  | succ k ih =>
    intro i b f hi hf
    obtain ⟨f', rfl⟩ : ∃ f', f = f' + 1 := ⟨f - 1, by omega⟩
    have hst : L_X12_missed_132 (f' + 1) ear mo (n : Int) what (i : Int) b = if 1 ≤ b 80 i ∧ b 80 i ≤ 63 then L_X12_missed_132 f' ear mo (n : Int) what ((i + 1 : Nat) : Int) b else some (-2, b) := by
      show LB_X12_missed_132 (L_X12_missed_132 f') _ _ _ _ _ _ = _
      unfold LB_X12_missed_132
      rw [if_neg (by omega), ald_s (by omega), Int.toNat_natCast, lies_s, cll_s, ibn, nmv_s, wr_s (by omega)]
      rfl
    rw [hst]
    by_cases hc : 1 ≤ b 80 i ∧ b 80 i ≤ 63
    · rw [if_pos hc]
      rcases ih (i + 1) b f' (by omega) (by omega) with ⟨z1, z2⟩ | z
      · refine Or.inl ⟨fun j h1 h2 => ?_, z2⟩
        by_cases e : j = i
        · subst e; exact hc
        · exact z1 j (by omega) h2
      · exact Or.inr z
    · rw [if_neg hc]
      exact Or.inr ⟨⟨i, by omega, hc⟩, rfl⟩

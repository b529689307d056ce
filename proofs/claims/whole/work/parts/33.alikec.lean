/-! alike, reference, loops -/
theorem mF_l {m : Mm} {n : Nat} (h12 : n ≤ 12) (g : Int) : ∀ k i : Nat, i + k = n → ∀ f, k < f → L_X12_meaningFor_2 f (n : Int) g (i : Int) m = some (fstP (isG (m 92) g) k i, m) := by
  intro k
  induction k with
  | zero =>
    intro i hi f hf
    obtain ⟨f', rfl⟩ : ∃ f', f = f' + 1 := ⟨f - 1, by omega⟩
    show LB_X12_meaningFor_2 (L_X12_meaningFor_2 f') _ _ _ _ = _
    unfold LB_X12_meaningFor_2
    rw [if_pos (by omega)]
    rfl
  | succ k ih =>
    intro i hi f hf
    obtain ⟨f', rfl⟩ : ∃ f', f = f' + 1 := ⟨f - 1, by omega⟩
    show LB_X12_meaningFor_2 (L_X12_meaningFor_2 f') _ _ _ _ = _
    unfold LB_X12_meaningFor_2
    have e := ih (i + 1) (by omega) f' (by omega)
    rw [show ((i + 1 : Nat) : Int) = (i : Int) + 1 by omega] at e
    rw [if_neg (by omega), ald_s (by omega), Int.toNat_natCast, fstP_s]
    by_cases h : m 92 i = g
    · rw [if_neg (by simp [h]), if_pos h]
    · rw [if_pos h, if_neg h, nmv_s, wr_s (by omega)]; exact e
theorem mF_s {m : Mm} {n : Nat} (h12 : n ≤ 12) (g : Int) : F_X12_meaningFor (n : Int) g m = some (mnG (m 92) n g, m) := by
  unfold F_X12_meaningFor
  have h := mF_l (m := m) h12 g n 0 (by omega) 100000 (by omega)
  rw [show ((0 : Nat) : Int) = 0 from rfl] at h
  rw [nmv_s]; exact h
theorem al129 {m : Mm} {n i : Nat} {w : Int} (K : Int → Int → Int → Int → Int → Mm → Rs) (h12 : n ≤ 12) (hi : i < n) (hu : ∀ j, j < n → 0 ≤ m 92 j ∧ m 92 j ≤ 255) : ∀ t j : Nat, j + t = n → ∀ f, t < f → ∀ many first : Int, many = cntP (shP (m 92) n 1) i * cntP (shP (m 92) n (-1)) n + (if shP (m 92) n 1 i then cntP (shP (m 92) n (-1)) j else 0) → first = (if many = 0 then -3 else alikeV (m 92) n w) → L_X12_alike_129 K f (n : Int) w many first (i : Int) (j : Int) m = K (n : Int) w (cntP (shP (m 92) n 1) (i + 1) * cntP (shP (m 92) n (-1)) n) (if cntP (shP (m 92) n 1) (i + 1) * cntP (shP (m 92) n (-1)) n = 0 then -3 else alikeV (m 92) n w) ((i : Int) + 1) m := by
  have b1 := cntP_b (shP (m 92) n 1) i
  have b2 := cntP_b (shP (m 92) n (-1)) n
  have b3 := cnt_mul (x := cntP (shP (m 92) n 1) i) (y := cntP (shP (m 92) n (-1)) n) (by omega) (by omega)
  intro t
  induction t with
  | zero =>
    intro j hj f hf many first hm hf1
    obtain ⟨f', rfl⟩ : ∃ f', f = f' + 1 := ⟨f - 1, by omega⟩
    show LB_X12_alike_129 K (L_X12_alike_129 K f') _ _ _ _ _ _ _ = _
    unfold LB_X12_alike_129
    have e : many = cntP (shP (m 92) n 1) (i + 1) * cntP (shP (m 92) n (-1)) n := by
      rw [hm, cntP_s, Int.add_mul, show j = n by omega]
      congr 1
      by_cases h : shP (m 92) n 1 i
      · rw [if_pos h, if_pos h, Int.one_mul]
      · rw [if_neg h, if_neg h, Int.zero_mul]
    rw [if_pos (by omega), nmv_s, wr_s (by omega), hf1, e]
  | succ t ih =>
    intro j hj f hf many first hm hf1
    obtain ⟨f', rfl⟩ : ∃ f', f = f' + 1 := ⟨f - 1, by omega⟩
    show LB_X12_alike_129 K (L_X12_alike_129 K f') _ _ _ _ _ _ _ = _
    unfold LB_X12_alike_129 J_X12_alike_221 J_X12_alike_224
    have e := ih (j + 1) (by omega) f' (by omega)
    have u1 := hu i hi
    have u2 := hu j (by omega)
    have b4 := cntP_b (shP (m 92) n (-1)) j
    have hmb : 0 ≤ many ∧ many ≤ 200 := by rw [hm]; split <;> omega
    simp only [nmv_s]
    rw [if_neg (by omega), ald_s (by omega), Int.toNat_natCast, wr_s (x := m 92 i + 1) (by omega), mF_s h12, cll_s, ald_s (by omega), Int.toNat_natCast, wr_s (x := m 92 j - 1) (by omega), mF_s h12, cll_s, wr_s (x := (j : Int) + 1) (by omega), wr_s (x := many + 1) (by omega)]
    rw [cntP_s, show ((j + 1 : Nat) : Int) = (j : Int) + 1 by omega] at e
    have es : m 92 j - 1 = m 92 j + -1 := by omega
    rw [es]
    by_cases p1 : shP (m 92) n 1 i
    · by_cases p2 : shP (m 92) n (-1) j
      · rw [if_neg p1, if_pos p2]
        rw [if_pos p1] at hm
        rw [if_pos p1, if_pos p2] at e
        have hV : many = 0 → fstP (shP (m 92) n 1) n 0 = i ∧ fstP (shP (m 92) n (-1)) n 0 = j := by
          intro h0
          have hp := cntP_p (shP (m 92) n (-1)) (n := n) (t := j) (by omega) p2
          have c2 : cntP (shP (m 92) n (-1)) j = 0 := by omega
          have c1 : cntP (shP (m 92) n 1) i = 0 := by
            rcases Int.mul_eq_zero.mp (show cntP (shP (m 92) n 1) i * cntP (shP (m 92) n (-1)) n = 0 by omega) with z | z
            · exact z
            · omega
          exact ⟨fstP_at _ n 0 i (by omega) (by omega) p1 (fun t _ ht => cntP_0 _ i c1 t ht), fstP_at _ n 0 j (by omega) (by omega) p2 (fun t _ ht => cntP_0 _ j c2 t ht)⟩
        have e9 : ∀ first', first' = alikeV (m 92) n w → L_X12_alike_129 K f' (n : Int) w (many + 1) first' (i : Int) ((j : Int) + 1) m = K (n : Int) w (cntP (shP (m 92) n 1) (i + 1) * cntP (shP (m 92) n (-1)) n) (if cntP (shP (m 92) n 1) (i + 1) * cntP (shP (m 92) n (-1)) n = 0 then -3 else alikeV (m 92) n w) ((i : Int) + 1) m := by
          intro first' h'
          exact e (many + 1) first' (by omega) (by rw [if_neg (by omega)]; exact h')
        by_cases h0 : many = 0
        · obtain ⟨v1, v2⟩ := hV h0
          rw [if_neg (by simp [h0])]
          unfold alikeV at e9
          rw [v1, v2, Int.toNat_natCast, Int.toNat_natCast] at e9
          have bm1 : -1 ≤ mnG (m 92) n (m 92 i + 1) ∧ mnG (m 92) n (m 92 i + 1) < ((0 : Nat) : Int) + n := fstP_b (isG (m 92) (m 92 i + 1)) n 0
          have bm2 : -1 ≤ mnG (m 92) n (m 92 j + -1) ∧ mnG (m 92) n (m 92 j + -1) < ((0 : Nat) : Int) + n := fstP_b (isG (m 92) (m 92 j + -1)) n 0
          by_cases w0 : w = 0
          · rw [if_neg (by simp [w0]), wr_s (by omega)]
            unfold alikeV
            rw [v1, v2, Int.toNat_natCast, Int.toNat_natCast]
            exact e9 _ (by rw [if_pos w0]; omega)
          · rw [if_pos w0]
            by_cases w1 : w = 1
            · rw [if_neg (by simp [w1]), wr_s (by omega)]
              unfold alikeV
              rw [v1, v2, Int.toNat_natCast, Int.toNat_natCast]
              exact e9 _ (by rw [if_neg w0, if_pos w1]; omega)
            · rw [if_pos w1]
              by_cases w2 : w = 2
              · rw [if_neg (by simp [w2]), wr_s (by omega)]
                unfold alikeV
                rw [v1, v2, Int.toNat_natCast, Int.toNat_natCast]
                exact e9 _ (by rw [if_neg w0, if_neg w1, if_pos w2]; omega)
              · rw [if_pos w2, wr_s (by omega)]
                unfold alikeV
                rw [v1, v2, Int.toNat_natCast, Int.toNat_natCast]
                exact e9 _ (by rw [if_neg w0, if_neg w1, if_neg w2]; omega)
        · rw [if_pos h0]
          rw [if_neg h0] at hf1
          exact e9 _ hf1
      · have z := Classical.not_not.mp p2
        rw [if_neg p1, if_neg (by simp [z])]
        rw [if_pos p1, if_neg p2, Int.add_zero] at e
        rw [if_pos p1] at hm
        exact e many first hm hf1
    · have z := Classical.not_not.mp p1
      rw [if_pos z]
      rw [if_neg p1] at e hm
      exact e many first hm hf1
theorem al120 {m : Mm} {n : Nat} {w : Int} (h12 : n ≤ 12) (hu : ∀ j, j < n → 0 ≤ m 92 j ∧ m 92 j ≤ 255) : ∀ t i : Nat, i + t = n → ∀ f, t < f → L_X12_alike_120 f (n : Int) w (cntP (shP (m 92) n 1) i * cntP (shP (m 92) n (-1)) n) (if cntP (shP (m 92) n 1) i * cntP (shP (m 92) n (-1)) n = 0 then -3 else alikeV (m 92) n w) (i : Int) m = some (if w = 4 then cntP (shP (m 92) n 1) n * cntP (shP (m 92) n (-1)) n else if cntP (shP (m 92) n 1) n * cntP (shP (m 92) n (-1)) n = 0 then -3 else alikeV (m 92) n w, m) := by
  intro t
  induction t with
  | zero =>
    intro i hi f hf
    obtain ⟨f', rfl⟩ : ∃ f', f = f' + 1 := ⟨f - 1, by omega⟩
    show LB_X12_alike_120 (L_X12_alike_120 f') _ _ _ _ _ _ = _
    unfold LB_X12_alike_120
    rw [show i = n by omega, if_pos (by omega)]
    by_cases h : w = 4
    · rw [if_neg (by simp [h]), if_pos h]
    · rw [if_pos h, if_neg h]
  | succ t ih =>
    intro i hi f hf
    obtain ⟨f', rfl⟩ : ∃ f', f = f' + 1 := ⟨f - 1, by omega⟩
    show LB_X12_alike_120 (L_X12_alike_120 f') _ _ _ _ _ _ = _
    unfold LB_X12_alike_120
    have e := ih (i + 1) (by omega) f' (by omega)
    have h := al129 (m := m) (n := n) (i := i) (w := w) (L_X12_alike_120 f') h12 (by omega) hu n 0 (by omega) 100000 (by omega) (cntP (shP (m 92) n 1) i * cntP (shP (m 92) n (-1)) n) (if cntP (shP (m 92) n 1) i * cntP (shP (m 92) n (-1)) n = 0 then -3 else alikeV (m 92) n w) (by rw [show cntP (shP (m 92) n (-1)) 0 = 0 from rfl]; split <;> omega) rfl
    rw [show ((0 : Nat) : Int) = 0 from rfl] at h
    rw [if_neg (by omega), nmv_s, h]
    exact e

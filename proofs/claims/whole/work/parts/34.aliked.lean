/-! alike, reference, end -/
theorem al65 {m : Mm} {n : Nat} {w : Int} (h12 : n ≤ 12) (hu : ∀ j, j < n → 0 ≤ m 92 j ∧ m 92 j ≤ 255) : ∀ t i : Nat, i + t = n → ∀ f, t < f → L_X12_alike_65 f (n : Int) w (i : Int) m = some (if okG (m 92) i n then (if w = 4 then cntP (shP (m 92) n 1) n * cntP (shP (m 92) n (-1)) n else if cntP (shP (m 92) n 1) n * cntP (shP (m 92) n (-1)) n = 0 then -3 else alikeV (m 92) n w) else -2, m) := by
  intro t
  induction t with
  | zero =>
    intro i hi f hf
    obtain ⟨f', rfl⟩ : ∃ f', f = f' + 1 := ⟨f - 1, by omega⟩
    show LB_X12_alike_65 (L_X12_alike_65 f') _ _ _ _ = _
    unfold LB_X12_alike_65
    have h := al120 (m := m) (n := n) (w := w) h12 hu n 0 (by omega) 100000 (by omega)
    rw [show ((0 : Nat) : Int) = 0 from rfl, show cntP (shP (m 92) n 1) 0 = 0 from rfl, Int.zero_mul, if_pos rfl] at h
    have g : okG (m 92) i n := fun j hj hi => by omega
    rw [if_pos (by omega), nmv_s, nmv_s, nmv_s, h, if_pos g]
  | succ t ih =>
    intro i hi f hf
    obtain ⟨f', rfl⟩ : ∃ f', f = f' + 1 := ⟨f - 1, by omega⟩
    show LB_X12_alike_65 (L_X12_alike_65 f') _ _ _ _ = _
    unfold LB_X12_alike_65
    have e := ih (i + 1) (by omega) f' (by omega)
    have g := okG_step (r := m 92) (i := i) (n := n) (by omega)
    rw [show ((i + 1 : Nat) : Int) = (i : Int) + 1 by omega] at e
    rw [if_neg (by omega), ald_s (by omega), Int.toNat_natCast, lies_s, cll_s, ib0]
    by_cases h : 1 ≤ m 92 i ∧ m 92 i ≤ 63
    · rw [if_pos h, ald_s (by omega), Int.toNat_natCast, mF_s h12, cll_s]
      by_cases h2 : mnG (m 92) n (m 92 i) = i
      · rw [if_pos h2, nmv_s, wr_s (by omega), e]
        congr 2
        by_cases h3 : okG (m 92) (i + 1) n
        · have h4 : okG (m 92) i n := by rw [g]; exact ⟨⟨h, h2⟩, h3⟩
          rw [if_pos h3, if_pos h4]
        · have h4 : ¬ okG (m 92) i n := by rw [g]; exact fun z => h3 z.2
          rw [if_neg h3, if_neg h4]
      · have h4 : ¬ okG (m 92) i n := by rw [g]; exact fun z => h2 z.1.2
        rw [if_neg h2, if_neg h4]
    · have h4 : ¬ okG (m 92) i n := by rw [g]; exact fun z => h z.1.1
      rw [if_neg h, if_neg h4]
theorem alikeR_m (r : Nat → Int) (n : Nat) (w : Int) : (if okG r 0 n then (if w = 4 then cntP (shP r n 1) n * cntP (shP r n (-1)) n else if cntP (shP r n 1) n * cntP (shP r n (-1)) n = 0 then -3 else alikeV r n w) else -2) = alikeR r n w := by
  unfold alikeR
  have e : (cntP (shP r n 1) n * cntP (shP r n (-1)) n = 0) = (fstP (shP r n 1) n 0 = -1 ∨ fstP (shP r n (-1)) n 0 = -1) := by
    rw [fstP_c, fstP_c]; exact propext Int.mul_eq_zero
  simp only [e]
theorem al41 {b : Mm} {r : Nat → Int} {n : Nat} {w : Int} (h12 : n ≤ 12) (hr : ∀ i, i < n → r i = iand (b 55 i) 255 ∧ 0 ≤ r i ∧ r i ≤ 255) : ∀ t i : Nat, i + t = n → ∀ f, t < f → L_X12_alike_41 f (n : Int) w (i : Int) (rowS b 92 (blit r (b 92) 0 i)) = some (alikeR r n w, rowS b 92 (blit r (b 92) 0 n)) := by
  intro t
  induction t with
  | zero =>
    intro i hi f hf
    obtain ⟨f', rfl⟩ : ∃ f', f = f' + 1 := ⟨f - 1, by omega⟩
    show LB_X12_alike_41 (L_X12_alike_41 f') _ _ _ _ = _
    unfold LB_X12_alike_41
    have eu : ∀ j, j < n → blit r (b 92) 0 n j = r j := fun j hj => by rw [blit_in (by omega)]; rfl
    have h := al65 (m := rowS b 92 (blit r (b 92) 0 n)) (n := n) (w := w) h12 (by intro j hj; rw [rowS_c, eu j hj]; exact (hr j hj).2) n 0 (by omega) 100000 (by omega)
    rw [show ((0 : Nat) : Int) = 0 from rfl, rowS_c, alikeR_m, alikeR_c eu] at h
    rw [show i = n by omega, if_pos (by omega), nmv_s, h]
  | succ t ih =>
    intro i hi f hf
    obtain ⟨f', rfl⟩ : ∃ f', f = f' + 1 := ⟨f - 1, by omega⟩
    show LB_X12_alike_41 (L_X12_alike_41 f') _ _ _ _ = _
    unfold LB_X12_alike_41 F_X12_byteAt
    have e := ih (i + 1) (by omega) f' (by omega)
    have e4 := blit_step r (b 92) 0 i
    rw [Nat.zero_add] at e4
    rw [if_neg (by omega), ald_s (by omega), cll_s, ast_s (by omega), nmv_s, wr_s (by omega), Int.toNat_natCast, rowS_n (by decide), ← (hr i (by omega)).1, rowS_upd, e4]
    exact e
theorem alikeB_s {a b : Mm} (hT : InvT a b) (n w : Int) : ∃ b', F_X12_alike n w b = (if (1 ≤ n ∧ n ≤ 12) ∧ (0 ≤ w ∧ w ≤ 4) ∧ n ≤ a 7 1 then some (alikeR (a 8) n.toNat w, b') else some (-1, b)) ∧ Fr sTb b b' ∧ b' 54 1 = 0 := by
  have ht := hT.1
  unfold F_X12_alike
  rw [lies_s, cll_s, ib0]
  by_cases h1 : 1 ≤ n ∧ n ≤ 12
  · rw [if_pos h1, lies_s, cll_s, ib0]
    by_cases h2 : 0 ≤ w ∧ w ≤ 4
    · rw [if_pos h2, ht.1]
      by_cases h3 : n ≤ a 7 1
      · have en : ((n.toNat : Nat) : Int) = n := by omega
        have h := al41 (b := upd2 b 54 1 0) (r := a 8) (n := n.toNat) (w := w) (by omega) (fun i hi => by rw [u2r (by decide)]; exact hT.2 i (by omega)) n.toNat 0 (by omega) 100000 (by omega)
        rw [blit_0, rowS_id, show ((0 : Nat) : Int) = 0 from rfl, en] at h
        rw [if_pos h3, stf_s, nmv_s, h]
        refine ⟨_, (if_pos ⟨h1, h2, h3⟩).symm, ?_, ?_⟩
        · exact Fr.rowS (Fr.upd (Fr.refl _ _) _ rfl) _ (fun _ => rfl)
        · rw [rowS_n (by decide), u2s]
      · rw [if_neg h3]
        exact ⟨upd2 b 54 1 0, (if_neg (fun z => h3 z.2.2)).symm, Fr.upd (Fr.refl _ _) _ rfl, u2s _ _ _ _⟩
    · rw [if_neg h2]
      exact ⟨upd2 b 54 1 0, (if_neg (fun z => h2 z.2.1)).symm, Fr.upd (Fr.refl _ _) _ rfl, u2s _ _ _ _⟩
  · rw [if_neg h1]
    exact ⟨upd2 b 54 1 0, (if_neg (fun z => h1 z.1)).symm, Fr.upd (Fr.refl _ _) _ rfl, u2s _ _ _ _⟩

/-! table, reference -/
theorem sumN_c {g h : Nat → Int} : ∀ n : Nat, (∀ i, i < n → g i = h i) → sumN g n = sumN h n := by
  intro n
  induction n with
  | zero => intro _; rfl
  | succ n ih => intro e; show sumN g n + g n = sumN h n + h n; rw [ih (fun i hi => e i (by omega)), e n (by omega)]
theorem aheadF_c {r u : Nat → Int} {n : Nat} (e : ∀ i, i < n → u i = r i) {i : Nat} (hi : i < n) : aheadF u i n = aheadF r i n := by
  apply sumN_c
  intro j hj
  unfold aheadG
  rw [e i hi, e j hj]
theorem tb101 {m : Mm} {n i : Nat} {k w s : Int} (K : Int → Int → Int → Int → Int → Mm → Rs) (h12 : n ≤ 12) (hi : i < n) (hk : 1 ≤ k ∧ k ≤ 5) (hr : 0 ≤ m 91 i ∧ m 91 i ≤ 255) (hs : 0 ≤ s ∧ s ≤ 15555 * i) : ∀ t j : Nat, j + t = n → ∀ f, t < f → L_X12_table_101 K f (n : Int) k w s (i : Int) (aheadF (m 91) i j) (j : Int) m = K (n : Int) k w (s + tabG (m 91) n k i) ((i : Int) + 1) (upd2 m 92 i (1 + k * aheadF (m 91) i n)) := by
  intro t
  induction t with
  | zero =>
    intro j hj f hf
    obtain ⟨f', rfl⟩ : ∃ f', f = f' + 1 := ⟨f - 1, by omega⟩
    show LB_X12_table_101 K (L_X12_table_101 K f') _ _ _ _ _ _ _ _ = _
    unfold LB_X12_table_101
    have hb := aheadF_b (m 91) i n
    have hm := mul5 hk (x := aheadF (m 91) i n) (by omega)
    have hg := tabG_b hk h12 hr
    unfold tabG at hg
    rw [show j = n by omega, if_pos (by omega), wr_s (x := k * aheadF (m 91) i n) (by omega), wr_s (x := 1 + k * aheadF (m 91) i n) (by omega), ast_s (by omega), ald_s (by omega), ald_s (by omega), Int.toNat_natCast, u2r (by decide), u2s, wr_s (x := m 91 i * (1 + k * aheadF (m 91) i n)) (by omega), nmv_s, nmv_s, wr_s (x := (i : Int) + 1) (by omega)]
    have e3 : m 91 i * (1 + k * aheadF (m 91) i n) = tabG (m 91) n k i := rfl
    rw [e3] at hg ⊢
    rw [wr_s (by omega)]
  | succ t ih =>
    intro j hj f hf
    obtain ⟨f', rfl⟩ : ∃ f', f = f' + 1 := ⟨f - 1, by omega⟩
    show LB_X12_table_101 K (L_X12_table_101 K f') _ _ _ _ _ _ _ _ = _
    unfold LB_X12_table_101 J_X12_table_158
    have hb := aheadF_b (m 91) i j
    have e := ih (j + 1) (by omega) f' (by omega)
    have e2 : aheadF (m 91) i (j + 1) = aheadF (m 91) i j + aheadG (m 91) i j := rfl
    rw [e2, show ((j + 1 : Nat) : Int) = (j : Int) + 1 by omega] at e
    simp only [nmv_s]
    rw [if_neg (by omega), ald_s (by omega), ald_s (by omega), ald_s (by omega), ald_s (by omega), Int.toNat_natCast, Int.toNat_natCast, wr_s (x := (j : Int) + 1) (by omega), wr_s (x := aheadF (m 91) i j + 1) (by omega), wr_s (x := aheadF (m 91) i j + 0) (by omega)]
    unfold aheadG at e
    by_cases h1 : m 91 i < m 91 j
    · rw [if_pos (Or.inl h1)] at e
      rw [if_pos h1]; exact e
    · rw [if_neg h1]
      by_cases h2 : m 91 j = m 91 i
      · rw [if_neg (by simp [h2])]
        by_cases h3 : j < i
        · rw [if_pos (Or.inr ⟨h2, h3⟩)] at e
          rw [if_neg (by omega)]; exact e
        · rw [if_neg (by omega)] at e
          rw [if_pos (by omega)]; exact e
      · rw [if_neg (by omega)] at e
        rw [if_pos h2]; exact e
def gapG (u : Nat → Int) (n : Nat) (k : Int) : Nat → Int := fun i => 1 + k * aheadF u i n
theorem tb89 {m : Mm} {n : Nat} {k w : Int} (h12 : n ≤ 12) (hk : 1 ≤ k ∧ k ≤ 5) (hw : w = -1 ∨ (1 ≤ w ∧ w ≤ n)) (hr : ∀ i, i < n → 0 ≤ m 91 i ∧ m 91 i ≤ 255) : ∀ t i : Nat, i + t = n → ∀ f, t < f → L_X12_table_89 f (n : Int) k w (sumN (tabG (m 91) n k) i) (i : Int) (rowS m 92 (blit (gapG (m 91) n k) (m 92) 0 i)) = some (tableR (m 91) n k w, rowS m 92 (blit (gapG (m 91) n k) (m 92) 0 n)) := by
  intro t
  induction t with
  | zero =>
    intro i hi f hf
    obtain ⟨f', rfl⟩ : ∃ f', f = f' + 1 := ⟨f - 1, by omega⟩
    show LB_X12_table_89 (L_X12_table_89 f') _ _ _ _ _ _ = _
    unfold LB_X12_table_89
    rw [show i = n by omega, if_pos (by omega)]
    unfold tableR
    by_cases h : w = -1
    · rw [if_neg (by simp [h]), if_pos h]
    · rw [if_pos h, if_neg h, wr_s (by omega), ald_s (by omega), rowS_c, blit_in (by omega)]
      rfl
  | succ t ih =>
    intro i hi f hf
    obtain ⟨f', rfl⟩ : ∃ f', f = f' + 1 := ⟨f - 1, by omega⟩
    show LB_X12_table_89 (L_X12_table_89 f') _ _ _ _ _ _ = _
    unfold LB_X12_table_89
    have hb := sumN_b (g := tabG (m 91) n k) (c := 15555) i (fun j hj => tabG_b hk h12 (hr j (by omega)))
    have e := ih (i + 1) (by omega) f' (by omega)
    have e1 : rowS m 92 (blit (gapG (m 91) n k) (m 92) 0 i) 91 = m 91 := rowS_n (by decide)
    have h := tb101 (m := rowS m 92 (blit (gapG (m 91) n k) (m 92) 0 i)) (n := n) (i := i) (k := k) (w := w) (s := sumN (tabG (m 91) n k) i) (L_X12_table_89 f') h12 (by omega) hk (by rw [e1]; exact hr i (by omega)) hb n 0 (by omega) 100000 (by omega)
    rw [e1, show aheadF (m 91) i 0 = 0 from rfl, show ((0 : Nat) : Int) = 0 from rfl, rowS_upd] at h
    rw [if_neg (by omega), nmv_s, nmv_s, h]
    have e4 : upr (blit (gapG (m 91) n k) (m 92) 0 i) i (1 + k * aheadF (m 91) i n) = blit (gapG (m 91) n k) (m 92) 0 (i + 1) := by
      have := blit_step (gapG (m 91) n k) (m 92) 0 i
      rw [Nat.zero_add] at this
      exact this
    rw [e4]
    exact e
theorem tb58 {b : Mm} {r : Nat → Int} {n : Nat} {k w : Int} (h12 : n ≤ 12) (hk : 1 ≤ k ∧ k ≤ 5) (hw : w = -1 ∨ (1 ≤ w ∧ w ≤ n)) (hr : ∀ i, i < n → r i = iand (b 55 i) 255 ∧ 0 ≤ r i ∧ r i ≤ 255) : ∀ t i : Nat, i + t = n → ∀ f, t < f → L_X12_table_58 f (n : Int) k w (i : Int) (rowS b 91 (blit r (b 91) 0 i)) = some (tableR r n k w, rowS (rowS b 91 (blit r (b 91) 0 n)) 92 (blit (gapG (blit r (b 91) 0 n) n k) (b 92) 0 n)) := by
  intro t
  induction t with
  | zero =>
    intro i hi f hf
    obtain ⟨f', rfl⟩ : ∃ f', f = f' + 1 := ⟨f - 1, by omega⟩
    show LB_X12_table_58 (L_X12_table_58 f') _ _ _ _ _ = _
    unfold LB_X12_table_58
    rw [show i = n by omega, if_pos (by omega), nmv_s, nmv_s]
    have eu : ∀ j, j < n → blit r (b 91) 0 n j = r j := fun j hj => by rw [blit_in (by omega)]; rfl
    have h := tb89 (m := rowS b 91 (blit r (b 91) 0 n)) (n := n) (k := k) (w := w) h12 hk hw (by intro j hj; rw [rowS_c, eu j hj]; exact (hr j hj).2) n 0 (by omega) 100000 (by omega)
    rw [blit_0, rowS_id, show ((0 : Nat) : Int) = 0 from rfl, rowS_c, rowS_n (by decide)] at h
    rw [show (0 : Int) = sumN (tabG (blit r (b 91) 0 n) n k) 0 from rfl]
    have e5 : tableR (blit r (b 91) 0 n) n k w = tableR r n k w := by
      unfold tableR
      by_cases h4 : w = -1
      · rw [if_pos h4, if_pos h4]
        apply sumN_c
        intro j hj
        unfold tabG
        rw [eu j hj, aheadF_c eu hj]
      · rw [if_neg h4, if_neg h4, aheadF_c eu (by omega)]
    rw [e5] at h
    exact h
  | succ t ih =>
    intro i hi f hf
    obtain ⟨f', rfl⟩ : ∃ f', f = f' + 1 := ⟨f - 1, by omega⟩
    show LB_X12_table_58 (L_X12_table_58 f') _ _ _ _ _ = _
    unfold LB_X12_table_58 F_X12_byteAt
    have e := ih (i + 1) (by omega) f' (by omega)
    have e4 := blit_step r (b 91) 0 i
    rw [Nat.zero_add] at e4
    rw [if_neg (by omega), ald_s (by omega), cll_s, ast_s (by omega), nmv_s, wr_s (by omega), Int.toNat_natCast, rowS_n (by decide), ← (hr i (by omega)).1, rowS_upd, e4]
    exact e
def sTb (k i : Nat) : Bool := k == 91 || k == 92 || (k == 54 && i == 1)
theorem tableB_s {a b : Mm} (hT : InvT a b) (n k w : Int) : ∃ b', F_X12_table n k w b = (if ((1 ≤ n ∧ n ≤ 12) ∧ (1 ≤ k ∧ k ≤ 5) ∧ n ≤ a 7 1) ∧ (w = -1 ∨ (1 ≤ w ∧ w ≤ n)) then some (tableR (a 8) n.toNat k w, b') else some (-1, b)) ∧ Fr sTb b b' ∧ b' 54 1 = 0 := by
  have ht := hT.1
  unfold F_X12_table J_X12_table_40
  rw [lies_s, cll_s, ib0]
  by_cases h1 : 1 ≤ n ∧ n ≤ 12
  · rw [if_pos h1, lies_s, cll_s, ib0]
    by_cases h2 : 1 ≤ k ∧ k ≤ 5
    · rw [if_pos h2, lies_s, cll_s, ib0]
      by_cases h4 : w = -1 ∨ (1 ≤ w ∧ w ≤ n)
      · have ej : ∀ A B : Rs, (if w = -1 then A else if 1 ≤ w ∧ w ≤ n then A else B) = A := by
          intro A B
          by_cases h5 : w = -1
          · rw [if_pos h5]
          · rw [if_neg h5, if_pos (by omega)]
        rw [ej, ht.1]
        by_cases h3 : n ≤ a 7 1
        · have en : ((n.toNat : Nat) : Int) = n := by omega
          have h := tb58 (b := upd2 b 54 1 0) (r := a 8) (n := n.toNat) (k := k) (w := w) (by omega) h2 (by omega) (fun i hi => by rw [u2r (by decide)]; exact hT.2 i (by omega)) n.toNat 0 (by omega) 100000 (by omega)
          rw [blit_0, rowS_id, show ((0 : Nat) : Int) = 0 from rfl, en] at h
          rw [if_pos h3, stf_s, nmv_s, h]
          refine ⟨_, (if_pos ⟨⟨h1, h2, h3⟩, h4⟩).symm, ?_, ?_⟩
          · exact Fr.rowS (Fr.rowS (Fr.upd (Fr.refl _ _) _ rfl) _ (fun _ => rfl)) _ (fun _ => rfl)
          · rw [rowS_n (by decide), rowS_n (by decide), u2s]
        · rw [if_neg h3]
          exact ⟨upd2 b 54 1 0, (if_neg (fun z => h3 z.1.2.2)).symm, Fr.upd (Fr.refl _ _) _ rfl, u2s _ _ _ _⟩
      · rw [if_neg (fun z => h4 (Or.inl z)), if_neg (fun z => h4 (Or.inr z))]
        exact ⟨upd2 b 54 1 0, (if_neg (fun z => h4 z.2)).symm, Fr.upd (Fr.refl _ _) _ rfl, u2s _ _ _ _⟩
    · rw [if_neg h2]
      exact ⟨upd2 b 54 1 0, (if_neg (fun z => h2 z.1.2.1)).symm, Fr.upd (Fr.refl _ _) _ rfl, u2s _ _ _ _⟩
  · rw [if_neg h1]
    exact ⟨upd2 b 54 1 0, (if_neg (fun z => h1 z.1.1)).symm, Fr.upd (Fr.refl _ _) _ rfl, u2s _ _ _ _⟩

/-! table -/
def sumN (g : Nat → Int) : Nat → Int
  | 0 => 0
  | n + 1 => sumN g n + g n
theorem sumN_b {g : Nat → Int} {c : Int} : ∀ n : Nat, (∀ i, i < n → 0 ≤ g i ∧ g i ≤ c) → 0 ≤ sumN g n ∧ sumN g n ≤ c * n := by
  intro n
  induction n with
  | zero => intro _; exact ⟨Int.le_refl _, by simp [sumN]⟩
  | succ n ih =>
    intro h
    have h1 := ih (fun i hi => h i (by omega))
    have h2 := h n (by omega)
    have e : c * ((n + 1 : Nat) : Int) = c * n + c := by rw [Int.natCast_add, Int.mul_add]; simp
    rw [e]
    show 0 ≤ sumN g n + g n ∧ sumN g n + g n ≤ _
    omega
def aheadG (r : Nat → Int) (i : Nat) : Nat → Int := fun j => if r i < r j ∨ (r j = r i ∧ j < i) then 1 else 0
def aheadF (r : Nat → Int) (i n : Nat) : Int := sumN (aheadG r i) n
theorem aheadF_b (r : Nat → Int) (i n : Nat) : 0 ≤ aheadF r i n ∧ aheadF r i n ≤ n := by
  have := sumN_b (g := aheadG r i) (c := 1) n (fun j _ => by unfold aheadG; split <;> omega)
  unfold aheadF; omega
theorem mul5 {k x : Int} (hk : 1 ≤ k ∧ k ≤ 5) (hx : 0 ≤ x ∧ x ≤ 12) : 0 ≤ k * x ∧ k * x ≤ 60 := by
  have h1 : 0 ≤ k * x := Int.mul_nonneg (by omega) hx.1
  have h2 : k * x ≤ 5 * 12 := Int.mul_le_mul hk.2 hx.2 hx.1 (by decide)
  omega
theorem mul255 {u g : Int} (hu : 0 ≤ u ∧ u ≤ 255) (hg : 0 ≤ g ∧ g ≤ 61) : 0 ≤ u * g ∧ u * g ≤ 15555 := by
  have h1 : 0 ≤ u * g := Int.mul_nonneg (by omega) hg.1
  have h2 : u * g ≤ 255 * 61 := Int.mul_le_mul hu.2 hg.2 hg.1 (by decide)
  omega
theorem byteAt_s {a : Mm} (h : a 7 1 ≤ 220) (i : Int) (hi : 0 ≤ i ∧ i < a 7 1) : F_X10_byteAt i a = some (a 8 i.toNat, a) := by
  unfold F_X10_byteAt
  rw [if_neg (by omega), if_neg (by omega), ald_s (by omega)]
theorem leastGap_l {a : Mm} (hT : a 7 1 ≤ 220) {n i : Nat} {k : Int} (hn : (n : Int) ≤ a 7 1) (h12 : n ≤ 12) (hi : i < n) (hk : 1 ≤ k ∧ k ≤ 5) : ∀ t j : Nat, j + t = n → ∀ f, t < f → L_X8_leastGap_15 f (n : Int) k ((i : Int) + 1) (a 8 i) (aheadF (a 8) i j) ((j : Int) + 1) a = some (1 + k * aheadF (a 8) i n, a) := by
  intro t
  induction t with
  | zero =>
    intro j hj f hf
    obtain ⟨f', rfl⟩ : ∃ f', f = f' + 1 := ⟨f - 1, by omega⟩
    show LB_X8_leastGap_15 (L_X8_leastGap_15 f') _ _ _ _ _ _ _ = _
    unfold LB_X8_leastGap_15
    have hb := aheadF_b (a 8) i n
    have hm := mul5 hk (x := aheadF (a 8) i n) (by omega)
    rw [show j = n by omega, if_pos (by omega), wr_s (x := k * aheadF (a 8) i n) (by omega), wr_s (by omega)]
  | succ t ih =>
    intro j hj f hf
    obtain ⟨f', rfl⟩ : ∃ f', f = f' + 1 := ⟨f - 1, by omega⟩
    show LB_X8_leastGap_15 (L_X8_leastGap_15 f') _ _ _ _ _ _ _ = _
    unfold LB_X8_leastGap_15 J_X8_leastGap_51 J_X8_leastGap_54
    have hb := aheadF_b (a 8) i j
    have e := ih (j + 1) (by omega) f' (by omega)
    have e2 : aheadF (a 8) i (j + 1) = aheadF (a 8) i j + aheadG (a 8) i j := rfl
    rw [e2, show ((j + 1 : Nat) : Int) + 1 = (j : Int) + 1 + 1 by omega] at e
    simp only [nmv_s]
    rw [if_neg (by omega), wr_s (x := (j : Int) + 1 - 1) (by omega), byteAt_s hT _ (by omega), cll_s, show ((j : Int) + 1 - 1).toNat = j by omega, wr_s (x := (j : Int) + 1 + 1) (by omega), wr_s (by omega)]
    unfold aheadG at e
    by_cases h1 : a 8 i < a 8 j
    · rw [if_pos (Or.inl h1)] at e
      rw [if_pos h1]; exact e
    · rw [if_neg h1]
      by_cases h2 : a 8 j = a 8 i
      · rw [if_neg (by simp [h2])]
        by_cases h3 : j < i
        · rw [if_pos (Or.inr ⟨h2, h3⟩)] at e
          rw [if_neg (by omega)]; exact e
        · rw [if_neg (by omega), Int.add_zero] at e
          rw [if_pos (by omega)]; exact e
      · rw [if_neg (by omega), Int.add_zero] at e
        rw [if_pos h2]; exact e
theorem leastGap_s {a : Mm} (hT : a 7 1 ≤ 220) {n i : Nat} {k : Int} (hn : (n : Int) ≤ a 7 1) (h12 : n ≤ 12) (hi : i < n) (hk : 1 ≤ k ∧ k ≤ 5) : F_X8_leastGap (n : Int) k ((i : Int) + 1) a = some (1 + k * aheadF (a 8) i n, a) := by
  unfold F_X8_leastGap
  have h := leastGap_l hT hn h12 hi hk n 0 (by omega) 100000 (by omega)
  rw [show aheadF (a 8) i 0 = 0 from rfl, show ((0 : Nat) : Int) + 1 = 1 from rfl] at h
  rw [wr_s (by omega), byteAt_s hT _ (by omega), cll_s, nmv_s, nmv_s, nmv_s, show ((i : Int) + 1 - 1).toNat = i by omega]
  exact h
def tabG (r : Nat → Int) (n : Nat) (k : Int) : Nat → Int := fun i => r i * (1 + k * aheadF r i n)
theorem tabG_b {r : Nat → Int} {n : Nat} {k : Int} (hk : 1 ≤ k ∧ k ≤ 5) (h12 : n ≤ 12) {i : Nat} (h : 0 ≤ r i ∧ r i ≤ 255) : 0 ≤ tabG r n k i ∧ tabG r n k i ≤ 15555 := by
  have hb := aheadF_b r i n
  have hm := mul5 hk (x := aheadF r i n) (by omega)
  exact mul255 h (by omega)
theorem leastSum_l {a : Mm} (hT : a 7 1 ≤ 220) {n : Nat} {k : Int} (hn : (n : Int) ≤ a 7 1) (h12 : n ≤ 12) (hk : 1 ≤ k ∧ k ≤ 5) (hr : ∀ i, i < n → 0 ≤ a 8 i ∧ a 8 i ≤ 255) : ∀ t j : Nat, j + t = n → ∀ f, t < f → L_X8_leastSum_5 f (n : Int) k (sumN (tabG (a 8) n k) j) ((j : Int) + 1) a = some (sumN (tabG (a 8) n k) n, a) := by
  intro t
  induction t with
  | zero =>
    intro j hj f hf
    obtain ⟨f', rfl⟩ : ∃ f', f = f' + 1 := ⟨f - 1, by omega⟩
    show LB_X8_leastSum_5 (L_X8_leastSum_5 f') _ _ _ _ _ = _
    unfold LB_X8_leastSum_5
    rw [show j = n by omega, if_pos (by omega)]
  | succ t ih =>
    intro j hj f hf
    obtain ⟨f', rfl⟩ : ∃ f', f = f' + 1 := ⟨f - 1, by omega⟩
    show LB_X8_leastSum_5 (L_X8_leastSum_5 f') _ _ _ _ _ = _
    unfold LB_X8_leastSum_5
    have hb := sumN_b (g := tabG (a 8) n k) (c := 15555) j (fun i hi => tabG_b hk h12 (hr i (by omega)))
    have hg := tabG_b hk h12 (hr j (by omega))
    have e := ih (j + 1) (by omega) f' (by omega)
    have e2 : sumN (tabG (a 8) n k) (j + 1) = sumN (tabG (a 8) n k) j + tabG (a 8) n k j := rfl
    rw [e2, show ((j + 1 : Nat) : Int) + 1 = (j : Int) + 1 + 1 by omega] at e
    rw [if_neg (by omega), wr_s (x := (j : Int) + 1 - 1) (by omega), byteAt_s hT _ (by omega), cll_s, leastGap_s hT hn h12 (by omega) hk, cll_s, show ((j : Int) + 1 - 1).toNat = j by omega]
    unfold tabG at hg
    rw [wr_s (x := a 8 j * (1 + k * aheadF (a 8) j n)) (by omega), nmv_s, nmv_s, wr_s (x := (j : Int) + 1 + 1) (by omega)]
    have e3 : a 8 j * (1 + k * aheadF (a 8) j n) = tabG (a 8) n k j := rfl
    rw [e3] at hg ⊢
    rw [wr_s (by omega)]
    exact e
theorem leastSum_s {a : Mm} (hT : a 7 1 ≤ 220) {n : Nat} {k : Int} (hn : (n : Int) ≤ a 7 1) (h12 : n ≤ 12) (hk : 1 ≤ k ∧ k ≤ 5) (hr : ∀ i, i < n → 0 ≤ a 8 i ∧ a 8 i ≤ 255) : F_X8_leastSum (n : Int) k a = some (sumN (tabG (a 8) n k) n, a) := by
  unfold F_X8_leastSum
  have h := leastSum_l hT hn h12 hk hr n 0 (by omega) 100000 (by omega)
  rw [show sumN (tabG (a 8) n k) 0 = 0 from rfl, show ((0 : Nat) : Int) + 1 = 1 from rfl] at h
  rw [nmv_s, nmv_s]
  exact h
def tableR (r : Nat → Int) (n : Nat) (k w : Int) : Int := if w = -1 then sumN (tabG r n k) n else 1 + k * aheadF r (w - 1).toNat n
theorem tableA_s {a b : Mm} (hT : InvT a b) (n k w : Int) : F_X11_table n k w a = if ((1 ≤ n ∧ n ≤ 12) ∧ (1 ≤ k ∧ k ≤ 5) ∧ n ≤ a 7 1) ∧ (w = -1 ∨ (1 ≤ w ∧ w ≤ n)) then some (tableR (a 8) n.toNat k w, upd2 a 7 1 0) else some (-1, a) := by
  have ht := hT.1
  unfold F_X11_table J_X11_table_48 J_X11_table_77 F_X10_empty F_X10_has
  rw [within_s, cll_s, ib0]
  by_cases h1 : 1 ≤ n ∧ n ≤ 12
  · rw [if_pos h1, within_s, cll_s, ib0]
    by_cases h2 : 1 ≤ k ∧ k ≤ 5
    · rw [if_pos h2]
      by_cases h3 : n ≤ a 7 1
      · have en : ((n.toNat : Nat) : Int) = n := by omega
        rw [if_neg (by omega), cll_s, if_pos (by decide)]
        by_cases h4 : w = -1
        · have h := leastSum_s (a := a) (n := n.toNat) (k := k) ht.2.2 (by omega) (by omega) h2 (fun i hi => (hT.2 i (by omega)).2)
          rw [en] at h
          rw [if_pos h4, if_neg (by simp [h4]), h, cll_s, nmv_s, stf_s, cll_s, if_pos ⟨⟨h1, h2, h3⟩, Or.inl h4⟩]
          unfold tableR
          rw [if_pos h4]
        · rw [if_neg h4, within_s, cll_s, ibn]
          by_cases h5 : 1 ≤ w ∧ w ≤ n
          · have h := leastGap_s (a := a) (n := n.toNat) (i := (w - 1).toNat) (k := k) ht.2.2 (by omega) (by omega) (by omega) h2
            rw [en, show (((w - 1).toNat : Nat) : Int) + 1 = w by omega] at h
            rw [if_pos h5, if_pos h4, h, cll_s, nmv_s, stf_s, cll_s, if_pos ⟨⟨h1, h2, h3⟩, Or.inr h5⟩]
            unfold tableR
            rw [if_neg h4]
          · rw [if_neg h5, if_neg (by rintro ⟨_, z | z⟩ <;> contradiction)]
      · rw [if_pos (by omega), cll_s, if_neg (by decide), if_neg (fun z => h3 z.1.2.2)]
    · rw [if_neg h2, if_neg (fun z => h2 z.1.2.1)]
  · rw [if_neg h1, if_neg (fun z => h1 z.1.1)]

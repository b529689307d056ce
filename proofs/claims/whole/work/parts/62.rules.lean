/-! who speaks by rules of waiting: pieces -/
def bit (x : Int) (i : Nat) : Int := iand (ishr x (i : Int)) 1
theorem bit_01 {x : Int} (h : 0 ≤ x ∧ x ≤ 2147483647) {i : Nat} (hi : i < 32) : bit x i = 0 ∨ bit x i = 1 := by
  unfold bit
  have hp : (1 : Int) ≤ 2 ^ i := by exact_mod_cast Nat.one_le_two_pow
  have hq : 0 ≤ x / 2 ^ i ∧ x / 2 ^ i ≤ x := ⟨Int.ediv_nonneg h.1 (by omega), Int.ediv_le_self _ h.1⟩
  rw [ishr_s i hi h, iand_1 (by omega)]
  omega
theorem ishl1 {n : Int} (h : 0 ≤ n ∧ n ≤ 8) : 1 ≤ ishl 1 n ∧ ishl 1 n ≤ 256 := by
  have : n = 0 ∨ n = 1 ∨ n = 2 ∨ n = 3 ∨ n = 4 ∨ n = 5 ∨ n = 6 ∨ n = 7 ∨ n = 8 := by omega
  rcases this with e | e | e | e | e | e | e | e | e <;> subst e <;> decide
theorem hasAll_s (x : Int) (m : Mm) : F_X4_hasAll x m = some (b2i (1 ≤ x ∧ x ≤ ishl 1 (m 1 5) - 1), m) := by
  unfold F_X4_hasAll b2i
  by_cases h1 : x ≤ 0
  · rw [if_pos h1, if_neg (by omega)]
  · rw [if_neg h1]
    by_cases h2 : ishl 1 (m 1 5) ≤ x
    · rw [if_pos h2, if_neg (by omega)]
    · rw [if_neg h2, if_pos (by omega)]
theorem areM_s (x : Int) (m : Mm) (h : 0 ≤ m 54 2 ∧ m 54 2 ≤ 8) : F_X12_areMouths x m = some (b2i (1 ≤ x ∧ x ≤ ishl 1 (m 54 2) - 1), m) := by
  have := ishl1 h
  unfold F_X12_areMouths
  rw [lies_s, cll_s, wr_s (by omega)]
theorem has2_s {x : Int} (h : 0 ≤ x ∧ x ≤ 2147483647) {i : Nat} (hi : i < 32) (m : Mm) : F_X12_has x (i : Int) m = some (bit x i, m) := by
  unfold F_X12_has
  have := bit_01 h hi
  show (if ¬ bit x i = 1 then _ else _) = _
  rcases this with e | e <;> rw [e] <;> rfl
def wsm (L : Nat → Int) (x : Int) : Nat → Nat → Int
  | 0, _ => 0
  | k + 1, i => (if bit x i = 0 then 0 else L i) + wsm L x k (i + 1)
theorem wsm_in {L : Nat → Int} {x : Int} : ∀ k i, (∀ j, i ≤ j → j < i + k → 0 ≤ L j ∧ L j ≤ 4) → 0 ≤ wsm L x k i ∧ wsm L x k i ≤ 4 * k := by
  intro k
  induction k with
  | zero => intro i _; exact ⟨Int.le_refl _, Int.le_refl _⟩
  | succ k ih =>
    intro i h
    have h1 := ih (i + 1) (fun j a b => h j (by omega) (by omega))
    have h2 := h i (by omega) (by omega)
    unfold wsm
    split <;> omega
theorem wsm_eq {L L' : Nat → Int} {x : Int} {n N : Nat} (h : ∀ j, j < n → L' j = L j) (hz : ∀ j, n ≤ j → j < N → L' j = 0) (hn : n ≤ N) : ∀ k i, i + k = N → wsm L' x k i = wsm L x (n - i) i := by
  intro k
  induction k with
  | zero =>
    intro i hi
    rw [show n - i = 0 by omega]
    rfl
  | succ k ih =>
    intro i hi
    have h1 := ih (i + 1) (by omega)
    by_cases c : i < n
    · rw [show n - i = (n - (i + 1)) + 1 by omega]
      unfold wsm
      rw [h1, h i c]
    · rw [show n - i = 0 by omega]
      rw [show n - (i + 1) = 0 by omega] at h1
      unfold wsm
      rw [h1, hz i (by omega) (by omega)]
      unfold wsm
      split <;> rfl
theorem wordsOf_l {x : Int} {n : Nat} : ∀ (k i : Nat) (m : Mm) (acc : Int) (f : Nat), i + k = n → m 1 5 = (n : Int) → n ≤ 8 → (∀ j, j < n → 0 ≤ m 5 j ∧ m 5 j ≤ 4) → (0 ≤ acc ∧ acc ≤ 100) → (acc ≤ 4 * i) → k < f → L_X4_wordsOf_4 f x acc (i : Int) m = some (acc + wsm (m 5) x k i, m) := by
  intro k
  induction k with
  | zero =>
    intro i m acc f hi hn h8 hl ha ha2 hf
    obtain ⟨f', rfl⟩ : ∃ f', f = f' + 1 := ⟨f - 1, by omega⟩
    show LB_X4_wordsOf_4 (L_X4_wordsOf_4 f') _ _ _ _ = _
    unfold LB_X4_wordsOf_4 wsm
    rw [if_pos (by omega), Int.add_zero]
  | succ k ih =>
    intro i m acc f hi hn h8 hl ha ha2 hf
    obtain ⟨f', rfl⟩ : ∃ f', f = f' + 1 := ⟨f - 1, by omega⟩
    have hli := hl i (by omega)
    show LB_X4_wordsOf_4 (L_X4_wordsOf_4 f') _ _ _ _ = _
    unfold LB_X4_wordsOf_4 J_X4_wordsOf_29
    rw [if_neg (by omega)]
    show (if bit x i = 0 then _ else _) = _
    unfold wsm
    by_cases hb : bit x i = 0
    · rw [if_pos hb, if_pos hb, nmv_s, wr_s (by omega), show (i : Int) + 1 = ((i + 1 : Nat) : Int) from rfl, ih (i + 1) m acc f' (by omega) hn h8 hl ha (by omega) (by omega), Int.zero_add]
    · rw [if_neg hb, if_neg hb, ald_s (by omega), nmv_s, nmv_s, Int.toNat_natCast, wr_s (x := acc + m 5 i) (by omega), wr_s (by omega), show (i : Int) + 1 = ((i + 1 : Nat) : Int) from rfl, ih (i + 1) m (acc + m 5 i) f' (by omega) hn h8 hl (by omega) (by omega) (by omega), Int.add_assoc]
theorem wordsOf_s {m : Mm} (hP : PpA m) (x : Int) : F_X4_wordsOf x m = some (wsm (m 5) x (m 1 5).toNat 0, m) := by
  have h := hP.1
  unfold F_X4_wordsOf
  rw [nmv_s, nmv_s]
  have := wordsOf_l (x := x) (n := (m 1 5).toNat) (m 1 5).toNat 0 m 0 100000 (by omega) (by omega) (by omega) (fun j hj => (hP.2 j (by omega)).2) (by omega) (by omega) (by omega)
  rw [Int.zero_add, show ((0 : Nat) : Int) = 0 from rfl] at this
  exact this
/-! the most eager -/
def nxW (L D W : Nat → Int) (i : Nat) : Int := if W i < L i then D (4 * i + (W i).toNat) else 0
def egN (G : Tg) (L D W : Nat → Int) (x g l p : Int) : Nat → Nat → Int → Int → Int
  | 0, _, best, _ => best
  | k + 1, i, best, most => if bit x i = 0 ∨ L i - W i ≤ 0 then egN G L D W x g l p k (i + 1) best most else if wsh G g (i : Int) l p (L i - W i) (nxW L D W i) ≤ most then egN G L D W x g l p k (i + 1) best most else egN G L D W x g l p k (i + 1) (i : Int) (wsh G g (i : Int) l p (L i - W i) (nxW L D W i))
theorem egN_in {G : Tg} {L D W : Nat → Int} {x g l p : Int} {n : Nat} : ∀ (k i : Nat) (best most : Int), i + k = n → (best = -1 ∨ (0 ≤ best ∧ best < (n : Int) ∧ 0 < L best.toNat - W best.toNat)) → egN G L D W x g l p k i best most = -1 ∨ (0 ≤ egN G L D W x g l p k i best most ∧ egN G L D W x g l p k i best most < (n : Int) ∧ 0 < L (egN G L D W x g l p k i best most).toNat - W (egN G L D W x g l p k i best most).toNat) := by
  intro k
  induction k with
  | zero => intro i best most _ h; exact h
  | succ k ih =>
    intro i best most hi h
    unfold egN
    split
    · exact ih (i + 1) best most (by omega) h
    · rename_i h1
      split
      · exact ih (i + 1) best most (by omega) h
      · refine ih (i + 1) _ _ (by omega) (Or.inr ⟨by omega, by omega, ?_⟩)
        rw [Int.toNat_natCast]; omega
theorem wordOfA {m : Mm} (hP : PpA m) {i : Nat} (hi : (i : Int) < m 1 5) {W : Nat → Int} (hW : 0 ≤ W i) : F_X4_wordOf (i : Int) (W i) m = some (nxW (m 5) (m 6) W i, m) := by
  rw [wordOf_s hP (by omega) hW]
  unfold nxW
  rw [Int.toNat_natCast, show (4 * (i : Int) + W i).toNat = 4 * i + (W i).toNat by omega]
theorem eagA {G : Tg} {x g : Int} {n : Nat} : ∀ (k i : Nat) (m : Mm) (best most : Int) (f : Nat), i + k = n → m 1 5 = (n : Int) → PpA m → GA m G → (∀ j, j < n → 0 ≤ m 53 j ∧ m 53 j ≤ 4) → k < f → ∃ m', L_X6_mostEager_8 f x g best most (i : Int) m = some (egN G (m 5) (m 6) (m 53) x g (m 52 7) (m 52 8) k i best most, m') ∧ Fr sM m m' := by
  intro k
  induction k with
  | zero =>
    intro i m best most f hi hn hP hG hW hf
    obtain ⟨f', rfl⟩ : ∃ f', f = f' + 1 := ⟨f - 1, by omega⟩
    refine ⟨m, ?_, Fr.refl _ _⟩
    show LB_X6_mostEager_8 (L_X6_mostEager_8 f') _ _ _ _ _ _ = _
    unfold LB_X6_mostEager_8 egN
    rw [if_pos (by omega)]
  | succ k ih =>
    intro i m best most f hi hn hP hG hW hf
    obtain ⟨f', rfl⟩ : ∃ f', f = f' + 1 := ⟨f - 1, by omega⟩
    have hWi := hW i (by omega)
    have hPi := (hP.2 i (by omega)).2
    have hn8 := hP.1
    have hnx : ∀ (m1 : Mm) (be mo : Int), Fr sM m m1 → ∃ m', J_X6_mostEager_105 (L_X6_mostEager_8 f') x g be mo (i : Int) m1 = some (egN G (m 5) (m 6) (m 53) x g (m 52 7) (m 52 8) k (i + 1) be mo, m') ∧ Fr sM m m' := by
      intro m1 be mo hf1
      obtain ⟨m', e1, e2⟩ := ih (i + 1) m1 be mo f' (by omega) ((hf1 1 5 rfl).trans hn) (hP.fr hf1) (hG.frM hf1) (by rw [hf1.row 53 (fun _ => rfl)]; exact hW) (by omega)
      rw [hf1.row 5 (fun _ => rfl), hf1.row 6 (fun _ => rfl), hf1.row 53 (fun _ => rfl), hf1 52 7 rfl, hf1 52 8 rfl] at e1
      refine ⟨m', ?_, hf1.trans e2⟩
      unfold J_X6_mostEager_105
      rw [nmv_s, wr_s (by omega)]
      exact e1
    show ∃ m', LB_X6_mostEager_8 (L_X6_mostEager_8 f') _ _ _ _ _ _ = _ ∧ _
    unfold LB_X6_mostEager_8
    rw [if_neg (by omega), wordsBy_s (by omega), cll_s, if_pos (by omega), ald_s (by omega), nmv_s, Int.toNat_natCast, wr_s (x := m 5 i - m 53 i) (by omega)]
    show ∃ m', (if bit x i = 0 then _ else _) = _ ∧ _
    unfold egN
    by_cases hb : bit x i = 0
    · rw [if_pos hb, if_pos (Or.inl hb)]
      exact hnx m best most (Fr.refl _ _)
    · rw [if_neg hb]
      by_cases hl : m 5 i - m 53 i ≤ 0
      · rw [if_pos hl, if_pos (Or.inr hl)]
        exact hnx m best most (Fr.refl _ _)
      · rw [if_neg hl, if_neg (fun z => by rcases z with z | z; exact hb z; exact hl z), ald_s (by omega), Int.toNat_natCast, wordOfA hP (by omega) hWi.1, cll_s]
        obtain ⟨m1, w1, w2⟩ := wish_s hG g (i : Int) (m 52 7) (m 52 8) (m 5 i - m 53 i) (nxW (m 5) (m 6) (m 53) i)
        rw [w1, cll_s, nmv_s]
        by_cases hc : wsh G g (i : Int) (m 52 7) (m 52 8) (m 5 i - m 53 i) (nxW (m 5) (m 6) (m 53) i) ≤ most
        · rw [if_pos hc, if_pos hc]
          exact hnx m1 best most w2
        · rw [if_neg hc, if_neg hc, nmv_s, nmv_s]
          exact hnx m1 _ _ w2
theorem nextOf_s {m : Mm} {i : Nat} (hi : i < 8) (hW : 0 ≤ m 90 i ∧ m 90 i ≤ 4) (hL : 0 ≤ m 59 i ∧ m 59 i ≤ 4) : F_X12_nextOf (i : Int) m = some (nxW (m 59) (m 60) (m 90) i, m) := by
  unfold F_X12_nextOf nxW
  rw [ald_s (by omega), ald_s (by omega), Int.toNat_natCast]
  by_cases h : m 90 i < m 59 i
  · rw [if_neg (by omega), if_pos h, ald_s (by omega), Int.toNat_natCast, wr_s (x := 4 * (i : Int)) (by omega), wr_s (by omega), ald_s (by omega), show (4 * (i : Int) + m 90 i).toNat = 4 * i + (m 90 i).toNat by omega]
  · rw [if_pos (by omega), if_neg h]
theorem wishB {m : Mm} {G : Tg} (hG : GB m G) {i : Nat} (hi : i < 8) (hW : 0 ≤ m 90 i ∧ m 90 i ≤ 4) (hL : 0 ≤ m 59 i ∧ m 59 i ≤ 4) (g l p : Int) : ∃ m', F_X12_wish (i : Int) g l p m = some (if m 90 i = m 59 i then 0 else wsh G g (i : Int) l p (m 59 i - m 90 i) (nxW (m 59) (m 60) (m 90) i), m') ∧ Fr sN m m' := by
  unfold F_X12_wish
  rw [ald_s (by omega), ald_s (by omega), Int.toNat_natCast]
  by_cases h : m 90 i = m 59 i
  · rw [if_neg (fun z => z h), if_pos h]
    exact ⟨m, rfl, Fr.refl _ _⟩
  · rw [if_pos h, if_neg h]
    obtain ⟨m1, w1, w2, w3⟩ := means_s hG (i : Int) g (i : Int) l p 0
    have r90 : m1 90 = m 90 := w2.row 90 (fun _ => rfl)
    have r59 : m1 59 = m 59 := w2.row 59 (fun _ => rfl)
    have r60 : m1 60 = m 60 := w2.row 60 (fun _ => rfl)
    rw [w1, cll_s, nmv_s, ald_s (by omega), ald_s (by omega), Int.toNat_natCast, stf_s, r90, r59, wr_s (by omega)]
    have hn : F_X12_nextOf (i : Int) (upd2 m1 54 43 (m 59 i - m 90 i)) = some (nxW (m 59) (m 60) (m 90) i, upd2 m1 54 43 (m 59 i - m 90 i)) := by
      have := nextOf_s (m := upd2 m1 54 43 (m 59 i - m 90 i)) hi (by rw [u2r (by decide), r90]; exact hW) (by rw [u2r (by decide), r59]; exact hL)
      rw [u2r (by decide), u2r (by decide), u2r (by decide), r59, r60, r90] at this
      exact this
    rw [hn, cll_s, stf_s, u2s]
    have key : ∀ f : Int, f = (if mn G g (i : Int) l p (i : Int) 0 = nxW (m 59) (m 60) (m 90) i then 1 else 0) → ∃ m', J_X12_wish_74 (upd2 (upd2 (upd2 m1 54 43 (m 59 i - m 90 i)) 54 44 (nxW (m 59) (m 60) (m 90) i)) 54 45 f) = some (wsh G g (i : Int) l p (m 59 i - m 90 i) (nxW (m 59) (m 60) (m 90) i), m') ∧ Fr sN m m' := by
      intro f hf
      have hfr : Fr sN m (upd2 (upd2 (upd2 m1 54 43 (m 59 i - m 90 i)) 54 44 (nxW (m 59) (m 60) (m 90) i)) 54 45 f) := Fr.upd (Fr.upd (Fr.upd w2 _ rfl) _ rfl) _ rfl
      obtain ⟨m2, t1, t2⟩ := tells_s (l := 114) (most := 1000) (by decide) (hG.frN hfr)
      have he : evB (upd2 (upd2 (upd2 m1 54 43 (m 59 i - m 90 i)) 54 44 (nxW (m 59) (m 60) (m 90) i)) 54 45 f) = ev g (i : Int) l p (i : Int) 0 (m 59 i - m 90 i) (nxW (m 59) (m 60) (m 90) i) f := by
        funext j
        unfold evB ev
        simp (disch := decide) only [u2n, u2s]
        rw [w3.1, w3.2.1, w3.2.2.1, w3.2.2.2.1, w3.2.2.2.2.1, w3.2.2.2.2.2]
      rw [he, hf] at t1
      refine ⟨m2, ?_, hfr.trans (frFN t2)⟩
      unfold J_X12_wish_74
      rw [hf, t1, cll_s]
      rfl
    by_cases hc : mn G g (i : Int) l p (i : Int) 0 = nxW (m 59) (m 60) (m 90) i
    · rw [if_neg (fun z => z hc), stf_s]
      exact key 1 (if_pos hc).symm
    · rw [if_pos hc, stf_s]
      exact key 0 (if_neg hc).symm

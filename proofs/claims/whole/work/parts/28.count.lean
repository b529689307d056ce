/-! count -/
theorem wordsBy_s {m : Mm} (h : m 1 5 ≤ 8) (w : Int) : F_X4_wordsBy w m = some (if 0 ≤ w ∧ w < m 1 5 then m 5 w.toNat else 0, m) := by
  unfold F_X4_wordsBy
  rw [has_s, cll_s, ib0]
  by_cases e : 0 ≤ w ∧ w < m 1 5
  · rw [if_pos e, if_pos e, ald_s (by omega)]
  · rw [if_neg e, if_neg e]
theorem wordOf_s {m : Mm} (h : PpA m) {w : Int} (hw : 0 ≤ w ∧ w < m 1 5) {i : Int} (hi : 0 ≤ i) : F_X4_wordOf w i m = some (if i < m 5 w.toNat then m 6 (4 * w + i).toNat else 0, m) := by
  have hn := h.1
  have h5 := h.2 w.toNat (by omega)
  unfold F_X4_wordOf
  rw [if_neg (by omega), wordsBy_s (by omega), cll_s, if_pos hw]
  by_cases e : i < m 5 w.toNat
  · rw [if_neg (by omega), if_pos e, wr_s (x := w * 4) (by omega), wr_s (by omega), ald_s (by omega), show w * 4 + i = 4 * w + i by omega]
  · rw [if_pos (by omega), if_neg e]
theorem count_s {a b : Mm} (hP : InvP a b) (hT : InvT a b) (hS : InvS a b) (hG : isCd (a 17 3).toNat ∧ b 54 14 = a (a 17 3).toNat 6) (w : Int) (hw : inR w) : ∃ r, F_X11_count w a = some (r, a) ∧ F_X12_count w b = some (r, b) := by
  unfold inR at hw
  have hn := hP.A.1
  have en := hP.n
  unfold F_X11_count F_X12_count
  rw [en, wr_s (x := 9 + a 1 5) (by omega), lies_s, cll_s, ib0]
  by_cases c1 : 10 ≤ w ∧ w ≤ 9 + a 1 5
  · have h5 := hP.2.1 (w - 10).toNat (by omega)
    refine ⟨a 5 (w - 10).toNat, ?_, ?_⟩
    · rw [if_neg (by omega), if_neg (by omega), if_neg (by omega), if_neg (by omega), if_neg (by omega), if_neg (by omega), if_neg (by omega)]
      unfold F_X11_countWords
      rw [wr_s (x := w - 10) (by omega), has_s, cll_s, ib0, if_pos (by omega), wordsBy_s (by omega), cll_s, cll_s, if_pos (by omega)]
    · rw [if_pos c1, wr_s (by omega), ald_s (by omega), h5.1.2.2.2]
  · rw [if_neg c1, en, wr_s (x := 4 * a 1 5) (by omega), wr_s (x := 19 + 4 * a 1 5) (by omega), lies_s, cll_s, ib0]
    by_cases c2 : 20 ≤ w ∧ w ≤ 19 + 4 * a 1 5
    · have h5 := hP.2.1 ((w - 20) / 4).toNat (by omega)
      have e1 : wr ((w - 20).tdiv 4) = (w - 20) / 4 := by rw [tdiv_p (by omega), wr_s (by omega)]
      have e2 : wr ((w - 20).tmod 4) = (w - 20) % 4 := by rw [tmod_p (by omega), wr_s (by omega)]
      have e3 : (w - 20).toNat = 4 * ((w - 20) / 4).toNat + ((w - 20) % 4).toNat := by omega
      refine ⟨if (w - 20) % 4 < a 5 ((w - 20) / 4).toNat then a 6 (w - 20).toNat else -1, ?_, ?_⟩
      · rw [if_neg (by omega), if_neg (by omega), if_neg (by omega), if_neg (by omega), if_neg (by omega), if_neg (by omega), if_neg (by omega)]
        unfold F_X11_countWords
        rw [wr_s (x := w - 10) (by omega), has_s, cll_s, ib0, if_neg (by omega), wr_s (x := w - 20) (by omega), nmv_s, if_neg (by omega), dvn_s (by decide), e1, e2, has_s, cll_s, ibn, if_pos (by omega), dvn_s (by decide), dvn_s (by decide), wordOf_s hP.A (by omega) (by omega), cll_s, nmv_s]
        by_cases c3 : (w - 20) % 4 < a 5 ((w - 20) / 4).toNat
        · have h6 := hP.2.2.2 ((w - 20) / 4).toNat ((w - 20) % 4).toNat (by omega) (by omega)
          rw [← e3] at h6
          rw [if_pos c3, if_pos c3, show (4 * ((w - 20) / 4) + (w - 20) % 4).toNat = (w - 20).toNat by omega, if_pos (by omega), cll_s]
        · rw [if_neg c3, if_neg c3, if_neg (by decide), cll_s]
      · rw [if_pos c2, dvn_s (by decide), dvn_s (by decide), wr_s (x := w - 20) (by omega), e1, e2, ald_s (by omega), h5.1.2.2.2]
        by_cases c3 : (w - 20) % 4 < a 5 ((w - 20) / 4).toNat
        · have h6 := hP.2.2.2 ((w - 20) / 4).toNat ((w - 20) % 4).toNat (by omega) (by omega)
          rw [← e3] at h6
          rw [if_neg (by omega), if_pos c3, ald_s (by omega), h6.1]
        · rw [if_pos (by omega), if_neg c3]
    · rw [if_neg c2]
      by_cases z0 : w = 0
      · rw [if_pos z0, if_pos z0, en]; exact ⟨_, rfl, rfl⟩
      rw [if_neg z0, if_neg z0]
      by_cases z1 : w = 1
      · rw [if_pos z1, if_pos z1, hS.1.1]; exact ⟨_, rfl, rfl⟩
      rw [if_neg z1, if_neg z1]
      by_cases z2 : w = 2
      · rw [if_pos z2, if_pos z2, hG.2]
        unfold F_X7_clauses
        rw [grd_s hG.1, cll_s]
        exact ⟨_, rfl, rfl⟩
      rw [if_neg z2, if_neg z2]
      by_cases z3 : w = 3
      · rw [if_pos z3, if_pos z3, hT.1.1]; exact ⟨_, rfl, rfl⟩
      rw [if_neg z3, if_neg z3]
      by_cases z4 : w = 4
      · rw [if_pos z4, if_pos z4, hS.1.2.1]; exact ⟨_, rfl, rfl⟩
      rw [if_neg z4, if_neg z4]
      by_cases z5 : w = 5
      · rw [if_pos z5, if_pos z5, hP.1.2.1]; exact ⟨_, rfl, rfl⟩
      rw [if_neg z5, if_neg z5]
      by_cases z6 : w = 6
      · rw [if_pos z6, if_pos z6, hP.1.2.2.1]; exact ⟨_, rfl, rfl⟩
      rw [if_neg z6, if_neg z6]
      refine ⟨-1, ?_, rfl⟩
      unfold F_X11_countWords
      have ew : ¬ (0 ≤ wr (w - 10) ∧ wr (w - 10) < a 1 5) := by unfold wr; omega
      rw [has_s, cll_s, ib0, if_neg ew, nmv_s]
      by_cases c4 : w < 20
      · rw [if_pos c4, cll_s]
      · rw [if_neg c4, dvn_s (by decide), wr_s (x := w - 20) (by omega), tdiv_p (by omega), wr_s (x := (w - 20) / 4) (by omega), has_s, cll_s, ibn, if_neg (by omega), cll_s]

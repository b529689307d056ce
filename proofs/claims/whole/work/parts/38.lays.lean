/-! hearings, reference -/
def mvB (m : Mm) (N k : Nat) : Mm := rowS (rowS m 78 (shf (m 78) N k)) 79 (shf (m 79) N k)
theorem mvB_step (m : Mm) {N k : Nat} (h : k < N) : upd2 (upd2 (mvB m N (k + 1)) 78 (k + 1) (mvB m N (k + 1) 78 k)) 79 (k + 1) (mvB m N (k + 1) 79 k) = mvB m N k := by
  unfold mvB
  rw [rowS_n (show 78 ≠ 79 by decide), rowS_c, rowS_c, upd_rowS_comm (by decide), rowS_upd, rowS_upd, shf_step _ h, shf_step _ h]
theorem co110 {m : Mm} {N q : Nat} {t w : Int} (hN : m 54 48 = N) (h150 : N < 150) : ∀ d k : Nat, k = q + d → k ≤ N → ∀ f, d < f → L_X12_comes_110 f w t (q : Int) (k : Int) (mvB m N k) = some (0, upd2 (upd2 (upd2 (mvB m N q) 78 q t) 79 q w) 54 48 ((N : Int) + 1)) := by
  intro d
  induction d with
  | zero =>
    intro k hk hkN f hf
    obtain ⟨f', rfl⟩ : ∃ f', f = f' + 1 := ⟨f - 1, by omega⟩
    show LB_X12_comes_110 (L_X12_comes_110 f') _ _ _ _ _ = _
    unfold LB_X12_comes_110
    rw [show k = q by omega, if_pos (by omega), ast_s (by omega), ast_s (by omega), stf_s, Int.toNat_natCast, u2r (by decide), u2r (by decide)]
    have e : mvB m N q 54 48 = N := by unfold mvB; rw [rowS_n (by decide), rowS_n (by decide), hN]
    rw [e, wr_s (by omega)]
  | succ d ih =>
    intro k hk hkN f hf
    obtain ⟨f', rfl⟩ : ∃ f', f = f' + 1 := ⟨f - 1, by omega⟩
    obtain ⟨k', rfl⟩ : ∃ k', k = k' + 1 := ⟨k - 1, by omega⟩
    show LB_X12_comes_110 (L_X12_comes_110 f') _ _ _ _ _ = _
    unfold LB_X12_comes_110
    have e := ih k' (by omega) (by omega) f' (by omega)
    rw [if_neg (by omega), wr_s (x := ((k' + 1 : Nat) : Int) - 1) (by omega), ald_s (by omega), ast_s (by omega), ald_s (by omega), ast_s (by omega), nmv_s, wr_s (by omega), u2r (by decide), Int.toNat_natCast, show (((k' + 1 : Nat) : Int) - 1).toNat = k' by omega, show ((k' + 1 : Nat) : Int) + -1 = (k' : Int) by omega, mvB_step m (by omega)]
    exact e
def sHb (k i : Nat) : Bool := k == 78 || k == 79 || (k == 54 && i == 48)
theorem mvB_fr (m : Mm) (N k : Nat) : Fr sHb m (mvB m N k) := Fr.rowS (Fr.rowS (Fr.refl _ _) _ (fun _ => rfl)) _ (fun _ => rfl)
theorem co30 {m : Mm} {h : Hs} {ear t w : Int} (hI : HsIn (m 54 48) (m 78) (m 79) h) (h150 : h.1 < 150) : ∀ k i : Nat, i + k = h.1 → ∀ f, k < f → L_X12_comes_30 f ear w t (i : Int) m = J_X12_comes_57 ear w t ((psN h.2.1 t k i : Nat) : Int) m := by
  intro k
  induction k with
  | zero =>
    intro i hi f hf
    obtain ⟨f', rfl⟩ : ∃ f', f = f' + 1 := ⟨f - 1, by omega⟩
    show LB_X12_comes_30 (L_X12_comes_30 f') _ _ _ _ _ = _
    unfold LB_X12_comes_30
    have := hI.1
    rw [if_pos (by omega)]
    rfl
  | succ k ih =>
    intro i hi f hf
    obtain ⟨f', rfl⟩ : ∃ f', f = f' + 1 := ⟨f - 1, by omega⟩
    show LB_X12_comes_30 (L_X12_comes_30 f') _ _ _ _ _ = _
    unfold LB_X12_comes_30
    have e := ih (i + 1) (by omega) f' (by omega)
    have := hI.1
    rw [if_neg (by omega), ald_s (by omega), Int.toNat_natCast, (hI.2 i (by omega)).1, psN_s, nmv_s, wr_s (by omega)]
    by_cases c : h.2.1 i < t
    · rw [if_neg (by omega), if_pos c]; exact e
    · rw [if_pos (by omega), if_neg c]
theorem isBefore_s {a b : Mm} (h : InvP a b) {e w v : Int} (he : 0 ≤ e ∧ e < a 1 5) (hw : 0 ≤ w ∧ w < a 1 5) (hv : 0 ≤ v ∧ v < a 1 5) : F_X12_isBefore e w v b = some (b2i (nearR (a 2) (a 3) e w v), b) := by
  unfold F_X12_isBefore
  rw [wayOf_s h he hw, cll_s, nmv_s, wayOf_s h he hv, cll_s, nmv_s, wayA_R, wayA_R]
  unfold b2i
  by_cases c1 : wayR (a 2) (a 3) e w < wayR (a 2) (a 3) e v
  · rw [if_pos c1, if_pos (Or.inl c1)]
  · rw [if_neg c1]
    by_cases c2 : wayR (a 2) (a 3) e w = wayR (a 2) (a 3) e v
    · rw [if_neg (by simp [c2])]
      by_cases c3 : v ≤ w
      · rw [if_pos c3, if_neg (by omega)]
      · rw [if_neg c3, if_pos (by omega)]
    · rw [if_pos c2, if_neg (by omega)]
theorem comesB {a b : Mm} (hP : InvP a b) (hS : InvS a b) {h : Hs} {ear lo hi : Int} {i : Nat} (hI : HsIn (b 54 48) (b 78) (b 79) h) (ho : HsOk (a 1 5) lo hi i h) (hi : (i : Int) < a 9 4) (he : 0 ≤ ear ∧ ear < a 1 5) : ∃ b', F_X12_comes ear (i : Int) b = some (0, b') ∧ HsIn (b' 54 48) (b' 78) (b' 79) (plc (a 2) (a 3) ear (arA a ear i) (a 10 i) h) ∧ Fr sHb b b' := by
  obtain ⟨h1, h2, h3⟩ := ho
  have hs := hS.1
  have hw := hS.2 i hi
  have hPA := hP.A.1
  have hway := wayA_in hP.A he hw.2.1
  have hdiv := div_b (x := wayA a ear (a 10 i)) (y := a 1 7) (by omega) (by omega)
  obtain ⟨g1, g2, g3, g4⟩ := psN_r (T := h.2.1) (t := arA a ear i) h.1 0
  unfold F_X12_comes plc
  have et : a 11 i + wayA a ear (a 10 i) / a 1 7 = arA a ear i := rfl
  rw [ald_s (by omega), Int.toNat_natCast, hw.1.1, nmv_s, ald_s (by omega), Int.toNat_natCast, hw.1.2, wayOf_s hP he hw.2.1, cll_s, hP.1.2.2.1, dvn_s (by omega), nmv_s, nmv_s, tdiv_p hway.1, wr_s (x := wayA a ear (a 10 i) / a 1 7) (by omega), wr_s (by omega), et]
  have s := co30 (m := b) (h := h) (ear := ear) (t := arA a ear i) (w := a 10 i) hI (by omega) h.1 0 (by omega) 100000 (by omega)
  rw [show ((0 : Nat) : Int) = 0 from rfl] at s
  rw [s]
  generalize psN h.2.1 (arA a ear i) h.1 0 = q at g1 g2 g3 g4
  generalize arA a ear i = t at *
  unfold J_X12_comes_57 J_X12_comes_104
  rw [hI.1]
  have s2 := co110 (m := b) (N := h.1) (q := q) (t := t) (w := a 10 i) hI.1 (by omega) (h.1 - q) h.1 (by omega) (by omega) 100000 (by omega)
  have e0 : mvB b h.1 h.1 = b := by unfold mvB; rw [shf_0, shf_0, rowS_id, rowS_id]
  rw [e0] at s2
  have fin : ∃ b', some ((0 : Int), upd2 (upd2 (upd2 (mvB b h.1 q) 78 q t) 79 q (a 10 i)) 54 48 ((h.1 : Int) + 1)) = some (0, b') ∧ HsIn (b' 54 48) (b' 78) (b' 79) (h.1 + 1, insR h.2.1 q t, insR h.2.2 q (a 10 i)) ∧ Fr sHb b b' := by
    refine ⟨_, rfl, ⟨?_, ?_⟩, Fr.upd (Fr.upd (Fr.upd (mvB_fr _ _ _) _ rfl) _ rfl) _ rfl⟩
    · rw [u2s]; show (h.1 : Int) + 1 = ((h.1 + 1 : Nat) : Int); omega
    · intro j hj
      have hj' : j < h.1 + 1 := hj
      rw [u2r (by decide), u2r (by decide), u2_row, u2r (by decide), u2_row, u2r (by decide)]
      have r1 : mvB b h.1 q 78 = shf (b 78) h.1 q := by unfold mvB; rw [rowS_n (by decide), rowS_c]
      have r2 : mvB b h.1 q 79 = shf (b 79) h.1 q := by unfold mvB; rw [rowS_c]
      rw [r1, r2]
      exact ⟨shf_ins (fun j hj => (hI.2 j hj).1) (by omega) t j hj', shf_ins (fun j hj => (hI.2 j hj).2) (by omega) (a 10 i) j hj'⟩
  by_cases c0 : q < h.1
  · rw [if_neg (by omega), ald_s (by omega), Int.toNat_natCast, (hI.2 q c0).1]
    by_cases c1 : h.2.1 q = t
    · have hq := h3 q c0
      rw [if_neg (by simp [c1]), if_pos ⟨c0, c1⟩, ald_s (by omega), Int.toNat_natCast, (hI.2 q c0).2, isBefore_s hP he hw.2.1 hq.1, cll_s, ibn]
      by_cases c2 : nearR (a 2) (a 3) ear (a 10 i) (h.2.2 q)
      · rw [if_pos c2, if_pos c2, ast_s (by omega), Int.toNat_natCast]
        refine ⟨_, rfl, ⟨?_, ?_⟩, Fr.upd (Fr.refl _ _) _ rfl⟩
        · rw [u2r (by decide)]; exact hI.1
        · intro j hj
          rw [u2r (by decide), u2_row]
          refine ⟨(hI.2 j hj).1, ?_⟩
          show upr (b 79) q (a 10 i) j = upr h.2.2 q (a 10 i) j
          by_cases e : j = q
          · subst e; rw [upr_s, upr_s]
          · rw [upr_n e, upr_n e]; exact (hI.2 j hj).2
      · rw [if_neg c2, if_neg c2]
        exact ⟨b, rfl, hI, Fr.refl _ _⟩
    · rw [if_pos c1, if_neg (fun z => c1 z.2), nmv_s, s2]
      exact fin
  · rw [if_pos (by omega), if_neg (fun z => c0 z.1), nmv_s, s2]
    exact fin
theorem isNear_s {a b : Mm} (h : InvP a b) {e w : Int} (he : 0 ≤ e ∧ e < a 1 5) (hw : 0 ≤ w ∧ w < a 1 5) : F_X12_isNear e w b = some (b2i (wayR (a 2) (a 3) e w ≤ a 1 6), b) := by
  unfold F_X12_isNear
  rw [wayOf_s h he hw, cll_s, wayA_R, h.1.2.1]
  unfold b2i
  by_cases c : wayR (a 2) (a 3) e w ≤ a 1 6
  · rw [if_neg (by omega), if_pos c]
  · rw [if_pos (by omega), if_neg c]
theorem lays_l {a : Mm} {ear : Int} {s : Nat} (he : 0 ≤ ear ∧ ear < a 1 5) (hs : a 9 4 = s) : ∀ (k i : Nat) (b : Mm) (f : Nat), i + k = s → InvP a b → InvS a b → HsIn (b 54 48) (b 78) (b 79) (hrA a ear i) → k < f → ∃ b', L_X12_laysHearings_7 f ear (i : Int) b = some (0, b') ∧ HsIn (b' 54 48) (b' 78) (b' 79) (hrA a ear s) ∧ Fr sHb b b' := by
  intro k
  induction k with
  | zero =>
    intro i b f hi hP hS hI hf
    obtain ⟨f', rfl⟩ : ∃ f', f = f' + 1 := ⟨f - 1, by omega⟩
    refine ⟨b, ?_, by rw [← show i = s by omega]; exact hI, Fr.refl _ _⟩
    show LB_X12_laysHearings_7 (L_X12_laysHearings_7 f') _ _ _ = _
    unfold LB_X12_laysHearings_7
    have := hS.1
    rw [if_pos (by omega)]
  | succ k ih =>
    intro i b f hi hP hS hI hf
    obtain ⟨f', rfl⟩ : ∃ f', f = f' + 1 := ⟨f - 1, by omega⟩
    have hw := hS.2 i (by omega)
    have h0 := hS.1
    show ∃ b', LB_X12_laysHearings_7 (L_X12_laysHearings_7 f') _ _ _ = _ ∧ _
    unfold LB_X12_laysHearings_7 J_X12_laysHearings_35
    simp only [nmv_s]
    rw [if_neg (by omega), ald_s (by omega), Int.toNat_natCast, hw.1.1, isNear_s hP he hw.2.1, cll_s, ib0, wr_s (by omega)]
    by_cases c : wayR (a 2) (a 3) ear (a 10 i) ≤ a 1 6
    · obtain ⟨b1, p1, p2, p3⟩ := comesB hP hS hI (hrA_ok hP.A hS.A he i (by omega)) (by omega) he
      rw [if_pos c, p1, cll_s]
      rw [← show hrA a ear (i + 1) = plc (a 2) (a 3) ear (arA a ear i) (a 10 i) (hrA a ear i) by rw [hrA_s, if_pos c]] at p2
      obtain ⟨b', e1, e2, e3⟩ := ih (i + 1) b1 f' (by omega) (hP.fr (Fr.refl (fun _ _ => false) _) p3) (hS.fr (Fr.refl (fun _ _ => false) _) p3) p2 (by omega)
      exact ⟨b', e1, e2, p3.trans e3⟩
    · rw [if_neg c]
      exact ih (i + 1) b f' (by omega) hP hS (by rw [hrA_s, if_neg c]; exact hI) (by omega)
theorem laysB_s {a b : Mm} (hP : InvP a b) (hS : InvS a b) {ear : Int} (he : 0 ≤ ear ∧ ear < a 1 5) : ∃ b', F_X12_laysHearings ear b = some (0, b') ∧ HsIn (b' 54 48) (b' 78) (b' 79) (hrA a ear (a 9 4).toNat) ∧ Fr sHb b b' := by
  have h0 := hS.1
  have f0 : Fr sHb b (upd2 b 54 48 0) := Fr.upd (Fr.refl _ _) _ rfl
  have v : upd2 b 54 48 0 54 48 = 0 := u2s _ _ _ _
  unfold F_X12_laysHearings
  rw [stf_s, nmv_s]
  generalize upd2 b 54 48 0 = b1 at f0 v
  obtain ⟨b', e1, e2, e3⟩ := lays_l (a := a) (ear := ear) (s := (a 9 4).toNat) he (by omega) (a 9 4).toNat 0 b1 100000 (by omega) (hP.fr (Fr.refl (fun _ _ => false) _) f0) (hS.fr (Fr.refl (fun _ _ => false) _) f0) ⟨v, fun j hj => absurd hj (Nat.not_lt_zero _)⟩ (by omega)
  rw [show ((0 : Nat) : Int) = 0 from rfl] at e1
  exact ⟨b', e1, e2, f0.trans e3⟩

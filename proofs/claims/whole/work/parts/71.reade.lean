/-! read: what is taken from the tape; where it begins -/
theorem as35 {mm : Nat} (hm : mm ≤ 12) : ∀ (k i : Nat) (m : Mm) (f : Nat), i + k = mm → k < f → ((∀ j, i ≤ j → j < mm → 0 ≤ m 36 j ∧ m 36 j ≤ 32) ∧ L_X5_allSuch_35 f (mm : Int) (i : Int) m = some (1, m)) ∨ ((∃ j, j < mm ∧ ¬ (0 ≤ m 36 j ∧ m 36 j ≤ 32)) ∧ L_X5_allSuch_35 f (mm : Int) (i : Int) m = some (0, m)) := by
  intro k
  induction k with
  | zero =>
    intro i m f hi hf
    obtain ⟨f', rfl⟩ : ∃ f', f = f' + 1 := ⟨f - 1, by omega⟩
    refine Or.inl ⟨fun j h1 h2 => absurd h1 (by omega), ?_⟩
    show LB_X5_allSuch_35 (L_X5_allSuch_35 f') _ _ _ = _
    unfold LB_X5_allSuch_35
    rw [if_pos (by omega)]
  | succ k ih =>
    intro i m f hi hf
    obtain ⟨f', rfl⟩ : ∃ f', f = f' + 1 := ⟨f - 1, by omega⟩
    have hst : L_X5_allSuch_35 (f' + 1) (mm : Int) (i : Int) m = if 0 ≤ m 36 i ∧ m 36 i ≤ 32 then L_X5_allSuch_35 f' (mm : Int) ((i + 1 : Nat) : Int) m else some (0, m) := by
      show LB_X5_allSuch_35 (L_X5_allSuch_35 f') _ _ _ = _
      unfold LB_X5_allSuch_35
      rw [if_neg (by omega), if_neg (by omega), ald_s (by omega), Int.toNat_natCast, within_s, cll_s, ibn, nmv_s, wr_s (by omega)]
      rfl
    rw [hst]
    by_cases hc : 0 ≤ m 36 i ∧ m 36 i ≤ 32
    · rw [if_pos hc]
      rcases ih (i + 1) m f' (by omega) (by omega) with ⟨z1, z2⟩ | z
      · refine Or.inl ⟨fun j h1 h2 => ?_, z2⟩
        by_cases e : j = i
        · subst e; exact hc
        · exact z1 j (by omega) h2
      · exact Or.inr z
    · rw [if_neg hc]
      exact Or.inr ⟨⟨i, by omega, hc⟩, rfl⟩
theorem as2 {mm sz : Nat} (hm : mm ≤ 12) (hs : sz ≤ 12) : ∀ (k i : Nat) (m : Mm) (f : Nat), i + k = sz → m 34 10 = (sz : Int) → k < f → ((∀ j, i ≤ j → j < sz → 1 ≤ m 35 j ∧ m 35 j ≤ 63) ∧ L_X5_allSuch_2 f (mm : Int) (i : Int) m = L_X5_allSuch_35 100000 (mm : Int) ((0 : Nat) : Int) m) ∨ ((∃ j, j < sz ∧ ¬ (1 ≤ m 35 j ∧ m 35 j ≤ 63)) ∧ L_X5_allSuch_2 f (mm : Int) (i : Int) m = some (0, m)) := by
  intro k
  induction k with
  | zero =>
    intro i m f hi h10 hf
    obtain ⟨f', rfl⟩ : ∃ f', f = f' + 1 := ⟨f - 1, by omega⟩
    refine Or.inl ⟨fun j h1 h2 => absurd h1 (by omega), ?_⟩
    show LB_X5_allSuch_2 (L_X5_allSuch_2 f') _ _ _ = _
    unfold LB_X5_allSuch_2
    rw [if_pos (by omega), nmv_s]
    rfl
  | succ k ih =>
    intro i m f hi h10 hf
    obtain ⟨f', rfl⟩ : ∃ f', f = f' + 1 := ⟨f - 1, by omega⟩
    have hst : L_X5_allSuch_2 (f' + 1) (mm : Int) (i : Int) m = if 1 ≤ m 35 i ∧ m 35 i ≤ 63 then L_X5_allSuch_2 f' (mm : Int) ((i + 1 : Nat) : Int) m else some (0, m) := by
      show LB_X5_allSuch_2 (L_X5_allSuch_2 f') _ _ _ = _
      unfold LB_X5_allSuch_2
      rw [if_neg (by omega), ald_s (by omega), Int.toNat_natCast, within_s, cll_s, ibn, nmv_s, wr_s (by omega)]
      rfl
    rw [hst]
    by_cases hc : 1 ≤ m 35 i ∧ m 35 i ≤ 63
    · rw [if_pos hc]
      rcases ih (i + 1) m f' (by omega) h10 (by omega) with ⟨z1, z2⟩ | z
      · refine Or.inl ⟨fun j h1 h2 => ?_, z2⟩
        by_cases e : j = i
        · subst e; exact hc
        · exact z1 j (by omega) h2
      · exact Or.inr z
    · rw [if_neg hc]
      exact Or.inr ⟨⟨i, by omega, hc⟩, rfl⟩
def Such (sz mm : Nat) (gp tl : Nat → Int) : Prop := (∀ j, j < sz → 1 ≤ gp j ∧ gp j ≤ 63) ∧ ∀ j, j < mm → 0 ≤ tl j ∧ tl j ≤ 32
theorem such_s {mm sz : Nat} (hm : mm ≤ 12) (hs : sz ≤ 12) {m : Mm} (h10 : m 34 10 = (sz : Int)) : (Such sz mm (m 35) (m 36) ∧ F_X5_allSuch (mm : Int) m = some (1, m)) ∨ (¬ Such sz mm (m 35) (m 36) ∧ F_X5_allSuch (mm : Int) m = some (0, m)) := by
  have h0 : F_X5_allSuch (mm : Int) m = L_X5_allSuch_2 100000 (mm : Int) ((0 : Nat) : Int) m := by
    unfold F_X5_allSuch
    rw [nmv_s]
    rfl
  rw [h0]
  rcases as2 (mm := mm) hm hs sz 0 m 100000 (by omega) h10 (by omega) with ⟨z1, z2⟩ | ⟨⟨j, z1, z2⟩, z3⟩
  · rw [z2]
    rcases as35 (mm := mm) hm mm 0 m 100000 (by omega) (by omega) with ⟨y1, y2⟩ | ⟨⟨j, y1, y2⟩, y3⟩
    · exact Or.inl ⟨⟨fun j hj => z1 j (by omega) hj, fun j hj => y1 j (by omega) hj⟩, y2⟩
    · exact Or.inr ⟨fun z => y2 (z.2 j y1), y3⟩
  · exact Or.inr ⟨fun z => z2 (z.1 j z1), z3⟩
theorem tp_l {n : Nat} {T : Nat → Int} (hn : n ≤ 12) : ∀ (k i : Nat) (m : Mm) (f : Nat), i + k = n → m 34 10 = (n : Int) → (2 * (n : Int) ≤ m 7 1 ∧ m 7 1 ≤ 220) → (∀ j, j < 2 * n → m 8 j = T j) → (∀ j, j < i → m 35 j = T (2 * j) ∧ m 36 j = T (2 * j + 1)) → k < f → ∃ m', L_X5_takePairs_12 f (i : Int) m = cll (F_X5_allSuch (n : Int) m') (fun r2 m3 => some (r2, m3)) ∧ (∀ j, j < n → m' 35 j = T (2 * j) ∧ m' 36 j = T (2 * j + 1)) ∧ (∀ c, c ≠ 35 → c ≠ 36 → m' c = m c) := by
  intro k
  induction k with
  | zero =>
    intro i m f hi h10 h7 h8 hj hf
    obtain ⟨f', rfl⟩ : ∃ f', f = f' + 1 := ⟨f - 1, by omega⟩
    refine ⟨m, ?_, fun j h => hj j (by omega), fun _ _ _ => rfl⟩
    show LB_X5_takePairs_12 (L_X5_takePairs_12 f') _ _ = _
    unfold LB_X5_takePairs_12
    rw [if_pos (by omega), h10]
  | succ k ih =>
    intro i m f hi h10 h7 h8 hj hf
    obtain ⟨f', rfl⟩ : ∃ f', f = f' + 1 := ⟨f - 1, by omega⟩
    obtain ⟨m', r1, r2, r3⟩ := ih (i + 1) (upd2 (upd2 m 35 i (T (2 * i))) 36 i (T (2 * i + 1))) f' (by omega) (by rw [u2r (by decide), u2r (by decide)]; exact h10) (by rw [u2r (by decide), u2r (by decide)]; exact h7) (by rw [u2r (by decide), u2r (by decide)]; exact h8) (fun j h => by
      rw [u2r (show 35 ≠ 36 by decide)]
      by_cases e : j = i
      · subst e; rw [u2s, u2s]; exact ⟨rfl, rfl⟩
      · rw [u2n e, u2n e, u2r (by decide)]; exact hj j (by omega)) (by omega)
    refine ⟨m', ?_, r2, fun c h1 h2 => (r3 c h1 h2).trans ((u2r h2).trans (u2r h1))⟩
    rw [← r1]
    show LB_X5_takePairs_12 (L_X5_takePairs_12 f') _ _ = _
    unfold LB_X5_takePairs_12 F_X10_byteAt
    rw [if_neg (by omega), wr_s (x := 2 * (i : Int)) (by omega), if_neg (by omega), if_neg (by omega), ald_s (by omega), cll_s, ast_s (by omega), wr_s (x := 2 * (i : Int) + 1) (by omega), if_neg (by omega), u2r (by decide), if_neg (by omega), ald_s (by omega), cll_s, ast_s (by omega), nmv_s, Int.toNat_natCast, wr_s (by omega), u2r (by decide), show (2 * (i : Int)).toNat = 2 * i by omega, show (2 * (i : Int) + 1).toNat = 2 * i + 1 by omega, h8 _ (by omega), h8 _ (by omega)]
    rfl
def lwH (h : Hs) : Nat := if h.1 = 0 then 8 else (h.2.2 (h.1 - 1)).toNat
def lgH (h : Hs) : Int := if h.1 = 0 then 63 else gpH h (h.1 - 1)
theorem lwH_in {h : Hs} {N : Int} {lo hi : Int} {k : Nat} (ho : HsOk N lo hi k h) (hN : N ≤ 8) : lwH h < 9 ∧ (h.1 ≠ 0 → ((lwH h : Nat) : Int) = h.2.2 (h.1 - 1)) := by
  unfold lwH
  by_cases h0 : h.1 = 0
  · rw [if_pos h0]; exact ⟨by decide, fun z => absurd h0 z⟩
  · have := (ho.2.2 (h.1 - 1) (by omega)).1
    rw [if_neg h0]
    exact ⟨by omega, fun _ => by omega⟩
theorem beg_l {cr L0 : Nat} (hcr : isRw cr) : ∀ (k w : Nat) (m : Mm) (f : Nat), w + k = 9 → m 34 8 = (cr : Int) → m 34 12 = (L0 : Int) → (∀ v, v < w → m cr v = if v = L0 then 1 else 0) → k < f → ∃ m', L_X5_beginBehind_35 f (w : Int) m = some (0, m') ∧ (∀ v, v < 9 → m' cr v = if v = L0 then 1 else 0) ∧ (∀ c, c ≠ cr → m' c = m c) := by
  intro k
  induction k with
  | zero =>
    intro w m f hw h8 h12 hv hf
    obtain ⟨f', rfl⟩ : ∃ f', f = f' + 1 := ⟨f - 1, by omega⟩
    refine ⟨m, ?_, fun v h => hv v (by omega), fun _ _ => rfl⟩
    show LB_X5_beginBehind_35 (L_X5_beginBehind_35 f') _ _ = _
    unfold LB_X5_beginBehind_35
    rw [if_pos (by omega)]
  | succ k ih =>
    intro w m f hw h8 h12 hv hf
    obtain ⟨f', rfl⟩ : ∃ f', f = f' + 1 := ⟨f - 1, by omega⟩
    have hst : L_X5_beginBehind_35 (f' + 1) (w : Int) m = L_X5_beginBehind_35 f' ((w + 1 : Nat) : Int) (upd2 m cr w (if w = L0 then 1 else 0)) := by
      show LB_X5_beginBehind_35 (L_X5_beginBehind_35 f') _ _ = _
      unfold LB_X5_beginBehind_35 J_X5_beginBehind_60
      rw [if_neg (by omega), h8, h12, Int.toNat_natCast]
      by_cases e : w = L0
      · rw [if_neg (by omega), grd_s hcr, ast_s (by omega), nmv_s, wr_s (by omega), Int.toNat_natCast, if_pos e]
        rfl
      · rw [if_pos (by omega), grd_s hcr, ast_s (by omega), nmv_s, wr_s (by omega), Int.toNat_natCast, if_neg e]
        rfl
    obtain ⟨m', r1, r2, r3⟩ := ih (w + 1) (upd2 m cr w (if w = L0 then 1 else 0)) f' (by omega) (by rw [u2r (by omega)]; exact h8) (by rw [u2r (by omega)]; exact h12) (fun v h => by
      by_cases e : v = w
      · subst e; rw [u2s]
      · rw [u2n e]; exact hv v (by omega)) (by omega)
    exact ⟨m', hst.trans r1, r2, fun c hc => (r3 c hc).trans (u2r hc)⟩
def sBg (k i : Nat) : Bool := k == 41 || k == 42 || (k == 34 && (i == 11 || i == 12 || i == 13))
theorem beg_s {m : Mm} {h : Hs} {cr : Nat} {ear N : Int} {k : Nat} (hcr : isRw cr) (h8 : m 34 8 = (cr : Int)) (hI : HsIn (m 14 4) (m 16) (m 15) h) (ho : HsOk N 0 10199 k h) (h150 : k ≤ 150) (hN : N ≤ 8) : ∃ m', F_X5_beginBehind ear m = some (0, m') ∧ Fr sBg m m' ∧ m' 34 11 = ear ∧ m' 34 12 = ((lwH h : Nat) : Int) ∧ m' 34 13 = lgH h ∧ (∀ v, v < 9 → m' cr v = if v = lwH h then 1 else 0) := by
  have hk := ho.1
  have hI1 := hI.1
  have hr : ∀ j, j < h.1 → 0 ≤ h.2.1 j ∧ h.2.1 j ≤ 10199 := fun j hj => (ho.2.2 j hj).2
  have hl := lwH_in ho hN
  have hfr1 : ∀ (m1 : Mm), m1 14 = m 14 → m1 15 = m 15 → m1 16 = m 16 → F_X3_whoOf (wr (m1 14 4 - 1)) m1 = some (((lwH h : Nat) : Int), m1) ∧ F_X3_gapOf (wr (m1 14 4 - 1)) m1 = some (lgH h, m1) := by
    intro m1 e1 e2 e3
    have hI' : HsIn (m1 14 4) (m1 16) (m1 15) h := by rw [e1, e2, e3]; exact hI
    by_cases h0 : h.1 = 0
    · have : wr (m1 14 4 - 1) = -1 := by rw [e1, hI1, h0]; decide
      rw [this]
      unfold F_X3_whoOf F_X3_gapOf lwH lgH
      rw [if_pos (show (-1 : Int) < 0 by decide), if_pos h0, if_pos h0, if_pos (show (-1 : Int) ≤ 0 by decide)]
      exact ⟨rfl, rfl⟩
    · have : wr (m1 14 4 - 1) = ((h.1 - 1 : Nat) : Int) := by rw [e1, hI1, wr_s (by omega)]; omega
      rw [this, hl.2 h0]
      unfold lgH
      rw [if_neg h0]
      exact ⟨hWho_s hI' (by omega) (by omega), hGap_s hI' (by omega) hr (by omega)⟩
  obtain ⟨m', r1, r2, r3⟩ := beg_l (L0 := lwH h) hcr 9 0 (upd2 (upd2 (upd2 m 34 11 ear) 34 12 ((lwH h : Nat) : Int)) 34 13 (lgH h)) 100000 (by omega) (by rw [u2n (by decide), u2n (by decide), u2n (by decide)]; exact h8) (by rw [u2n (by decide), u2s]) (fun v hv => absurd hv (by omega)) (by omega)
  have e34 : m' 34 = (upd2 (upd2 (upd2 m 34 11 ear) 34 12 ((lwH h : Nat) : Int)) 34 13 (lgH h)) 34 := r3 34 (by omega)
  refine ⟨m', ?_, ?_, ?_, ?_, ?_, r2⟩
  · unfold F_X5_beginBehind
    rw [stf_s, (hfr1 _ (u2r (by decide)) (u2r (by decide)) (u2r (by decide))).1, cll_s, stf_s, (hfr1 _ ((u2r (by decide)).trans (u2r (by decide))) ((u2r (by decide)).trans (u2r (by decide))) ((u2r (by decide)).trans (u2r (by decide)))).2, cll_s, stf_s, nmv_s]
    exact r1
  · intro c j hc
    have n : c ≠ cr := fun z => by
      subst z
      rcases hcr with e | e <;> subst e <;> exact (nomatch (show true = false from hc))
    rw [r3 c n]
    exact (Fr.upd (Fr.upd (Fr.upd (Fr.refl sBg _) _ rfl) _ rfl) _ rfl) c j hc
  · rw [e34, u2n (by decide), u2n (by decide), u2s]
  · rw [e34, u2n (by decide), u2s]
  · rw [e34, u2s]
def sLl (k i : Nat) : Bool := sHb k i || (k == 54 && (i == 55 || i == 56))
theorem last_s {a b : Mm} (hP : InvP a b) (hS : InvS a b) {ear : Int} (he : 0 ≤ ear ∧ ear < a 1 5) : ∃ b', F_X12_laysLast ear b = some (0, b') ∧ Fr sLl b b' ∧ b' 54 55 = ((lwH (hrA a ear (a 9 4).toNat) : Nat) : Int) ∧ b' 54 56 = lgH (hrA a ear (a 9 4).toNat) := by
  obtain ⟨b1, e1, e2, e3⟩ := laysB_s hP hS he
  have h9 := hS.A.1
  have ho := hrA_ok hP.A hS.A he (a 9 4).toNat (by omega)
  generalize hrA a ear (a 9 4).toNat = h at e2 ho
  have hk := ho.1
  have hr : ∀ j, j < h.1 → 0 ≤ h.2.1 j ∧ h.2.1 j ≤ 10199 := fun j hj => (ho.2.2 j hj).2
  have hl := lwH_in ho (by have := hP.A.1; omega)
  have hI1 := e2.1
  have hfr : Fr sLl b b1 := e3.mono fun k i e => by
    unfold sLl at e
    cases hs : sHb k i with
    | false => rfl
    | true => rw [hs] at e; exact (nomatch e)
  unfold F_X12_laysLast J_X12_laysLast_32
  rw [e1, cll_s]
  by_cases h0 : h.1 = 0
  · rw [if_neg (by omega), stf_s, u2n (by decide), if_neg (by omega), stf_s]
    refine ⟨_, rfl, Fr.upd (Fr.upd hfr _ rfl) _ rfl, ?_, ?_⟩
    · rw [u2n (by decide), u2s]; unfold lwH; rw [if_pos h0]; rfl
    · rw [u2s]; unfold lgH; rw [if_pos h0]
  · rw [if_pos (by omega), wr_s (by omega), ald_s (by omega), stf_s, u2n (by decide), if_pos (by omega), wr_s (by omega), show (b1 54 48 - 1) = ((h.1 - 1 : Nat) : Int) by omega, Int.toNat_natCast, (e2.2 (h.1 - 1) (by omega)).2]
    have hg := gapAt_s (m := upd2 b1 54 55 (h.2.2 (h.1 - 1))) (h := h) (by rw [u2n (by decide), u2r (by decide), u2r (by decide)]; exact e2) (by omega) hr (show h.1 - 1 < h.1 by omega)
    rw [hg, cll_s, stf_s]
    refine ⟨_, rfl, Fr.upd (Fr.upd hfr _ rfl) _ rfl, ?_, ?_⟩
    · rw [u2n (by decide), u2s]; exact (hl.2 h0).symm
    · rw [u2s]; unfold lgH; rw [if_neg h0]

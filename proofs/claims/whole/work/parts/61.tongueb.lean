/-! tongue, whole -/
def InC (a : Mm) : Prop := ∃ c c' : Nat, isCd c ∧ isCd c' ∧ c ≠ c' ∧ a 17 3 = (c : Int) ∧ a 17 4 = (c' : Int)
def sTx (c k i : Nat) : Bool := sPc c k i || k == 32 || k == 33
theorem frTx {a a' : Mm} {c : Nat} (h : Fr (sPc c) a a') : Fr (sTx c) a a' := h.mono fun k i e => by
  unfold sTx at e
  cases hs : sPc c k i with
  | false => rfl
  | true => rw [hs] at e; exact (nomatch e)
theorem sTx_32 (c i : Nat) : sTx c 32 i = true := by unfold sTx; simp
theorem sTx_33 (c i : Nat) : sTx c 33 i = true := by unfold sTx; simp
theorem sTx_c {c : Nat} (i : Nat) (h : i = 5 ∨ i = 6 ∨ i = 7) : sTx c c i = true := by unfold sTx sPc sP; rcases h with e | e | e <;> subst e <;> simp
theorem txt_l {c n : Nat} {T : Nat → Int} (hc : isCd c) (hT : TxOk n T) : ∀ (j i : Nat) (m : Mm) (f : Nat), i + j = n → m 32 2 = (n : Int) → ((n : Int) ≤ m 7 1 ∧ m 7 1 ≤ 220) → (∀ l, l < n → m 8 l = T l) → (∀ l, l < i → m 33 l = T l) → j < f →
    ∃ m', L_X2_translate_14 c f (i : Int) m = L_X2_translate_72 c 100000 ((0 : Nat) : Int) m' ∧ CS m' c n T 0 0 0 ∧ m' c 6 = 0 ∧ m' c 7 = 0 ∧ Fr (sTx c) m m' := by
  intro j
  induction j with
  | zero =>
    intro i m f hij h2 h7 h8 h33 hf
    obtain ⟨f', rfl⟩ : ∃ f', f = f' + 1 := ⟨f - 1, by omega⟩
    refine ⟨upd2 (upd2 (upd2 (upd2 (upd2 (upd2 (upd2 m 32 1 (c : Int)) c 5 0) c 6 0) c 7 0) 32 3 0) 32 4 0) 32 5 0, ?_, ⟨⟨hc, ?_, ?_⟩, fun l hl => ?_, ?_, by omega, ?_, ?_, ?_, by omega⟩, ?_, ?_, ?_⟩
    · show LB_X2_translate_14 c (L_X2_translate_14 c f') _ _ = _
      unfold LB_X2_translate_14 F_X0_clear
      rw [if_pos (by omega), stf_s, u2s, Int.toNat_natCast, grd_s hc, stf_s, stf_s, stf_s, cll_s, stf_s, stf_s, stf_s, nmv_s]
      rfl
    · rw [u2n (by decide), u2n (by decide), u2n (by decide), u2r (by omega), u2r (by omega), u2r (by omega), u2s]
    · rw [u2n (by decide), u2n (by decide), u2n (by decide), u2r (by omega), u2r (by omega), u2r (by omega), u2n (by decide)]; exact h2
    · rw [u2r (by decide), u2r (by decide), u2r (by decide), u2r (by omega), u2r (by omega), u2r (by omega), u2r (by decide)]; exact h33 l (by omega)
    · rw [u2n (by decide), u2n (by decide), u2s]; rfl
    · rw [u2n (by decide), u2s]; rfl
    · rw [u2s]
    · rw [u2r (by omega), u2r (by omega), u2r (by omega), u2n (by decide), u2n (by decide), u2s]; rfl
    · rw [u2r (by omega), u2r (by omega), u2r (by omega), u2n (by decide), u2s]
    · rw [u2r (by omega), u2r (by omega), u2r (by omega), u2s]
    · exact Fr.upd (Fr.upd (Fr.upd (Fr.upd (Fr.upd (Fr.upd (Fr.upd (Fr.refl _ _) _ (sTx_32 c _)) _ (sTx_c _ (by omega))) _ (sTx_c _ (by omega))) _ (sTx_c _ (by omega))) _ (sTx_32 c _)) _ (sTx_32 c _)) _ (sTx_32 c _)
  | succ j ih =>
    intro i m f hij h2 h7 h8 h33 hf
    obtain ⟨f', rfl⟩ : ∃ f', f = f' + 1 := ⟨f - 1, by omega⟩
    have hn := hT.1
    obtain ⟨m', r1, r2, r3, r4, r5⟩ := ih (i + 1) (upd2 m 33 i (T i)) f' (by omega) (by rw [u2r (by decide)]; exact h2) (by rw [u2r (by decide)]; exact h7) (by rw [u2r (by decide)]; exact h8)
      (by
        intro l hl
        by_cases e : l = i
        · subst e; rw [u2s]
        · rw [u2n e]; exact h33 l (by omega)) (by omega)
    refine ⟨m', ?_, r2, r3, r4, (Fr.upd (Fr.refl _ _) _ (sTx_33 c _)).trans r5⟩
    rw [← r1]
    show LB_X2_translate_14 c (L_X2_translate_14 c f') _ _ = _
    unfold LB_X2_translate_14 F_X10_byteAt
    rw [if_neg (by omega), if_neg (by omega), if_neg (by omega), ald_s (by omega), cll_s, ast_s (by omega), nmv_s, wr_s (by omega), Int.toNat_natCast, h8 i (by omega)]
    rfl
def sC1 (k _ : Nat) : Bool := k == 63 || k == 64 || k == 65 || k == 66
theorem cp142 {mm : Nat} (hm : mm ≤ 14) : ∀ (j i : Nat) (b : Mm) (f : Nat), i + j = mm → b 54 30 = (mm : Int) → (∀ l, l < i → b 63 l = b 69 l ∧ b 64 l = b 70 l ∧ b 65 l = b 71 l ∧ b 66 l = b 72 l) → j < f → ∃ b', L_X12_tongue_142 f (i : Int) b = L_X12_tongue_206 100000 ((0 : Nat) : Int) b' ∧ (∀ l, l < mm → b' 63 l = b 69 l ∧ b' 64 l = b 70 l ∧ b' 65 l = b 71 l ∧ b' 66 l = b 72 l) ∧ Fr sC1 b b' := by
  intro j
  induction j with
  | zero =>
    intro i b f hij h30 hl hf
    obtain ⟨f', rfl⟩ : ∃ f', f = f' + 1 := ⟨f - 1, by omega⟩
    refine ⟨b, ?_, fun l hlm => hl l (by omega), Fr.refl _ _⟩
    show LB_X12_tongue_142 (L_X12_tongue_142 f') _ _ = _
    unfold LB_X12_tongue_142
    rw [if_pos (by omega), nmv_s]
    rfl
  | succ j ih =>
    intro i b f hij h30 hl hf
    obtain ⟨f', rfl⟩ : ∃ f', f = f' + 1 := ⟨f - 1, by omega⟩
    have r : ∀ k, k ≠ 63 → k ≠ 64 → k ≠ 65 → k ≠ 66 → (upd2 (upd2 (upd2 (upd2 b 63 i (b 69 i)) 64 i (b 70 i)) 65 i (b 71 i)) 66 i (b 72 i)) k = b k := fun k h1 h2 h3 h4 => by rw [u2r h4, u2r h3, u2r h2, u2r h1]
    have r63 : (upd2 (upd2 (upd2 (upd2 b 63 i (b 69 i)) 64 i (b 70 i)) 65 i (b 71 i)) 66 i (b 72 i)) 63 = upr (b 63) i (b 69 i) := by rw [u2r (by decide), u2r (by decide), u2r (by decide), u2_row]
    have r64 : (upd2 (upd2 (upd2 (upd2 b 63 i (b 69 i)) 64 i (b 70 i)) 65 i (b 71 i)) 66 i (b 72 i)) 64 = upr (b 64) i (b 70 i) := by rw [u2r (by decide), u2r (by decide), u2_row, u2r (by decide)]
    have r65 : (upd2 (upd2 (upd2 (upd2 b 63 i (b 69 i)) 64 i (b 70 i)) 65 i (b 71 i)) 66 i (b 72 i)) 65 = upr (b 65) i (b 71 i) := by rw [u2r (by decide), u2_row, u2r (by decide), u2r (by decide)]
    have r66 : (upd2 (upd2 (upd2 (upd2 b 63 i (b 69 i)) 64 i (b 70 i)) 65 i (b 71 i)) 66 i (b 72 i)) 66 = upr (b 66) i (b 72 i) := by rw [u2_row, u2r (by decide), u2r (by decide), u2r (by decide)]
    obtain ⟨b', e1, e2, e3⟩ := ih (i + 1) (upd2 (upd2 (upd2 (upd2 b 63 i (b 69 i)) 64 i (b 70 i)) 65 i (b 71 i)) 66 i (b 72 i)) f' (by omega) (by rw [r 54 (by decide) (by decide) (by decide) (by decide)]; exact h30)
      (by
        intro l hl2
        rw [r63, r64, r65, r66, r 69 (by decide) (by decide) (by decide) (by decide), r 70 (by decide) (by decide) (by decide) (by decide), r 71 (by decide) (by decide) (by decide) (by decide), r 72 (by decide) (by decide) (by decide) (by decide)]
        by_cases e : l = i
        · subst e; rw [upr_s, upr_s, upr_s, upr_s]; exact ⟨rfl, rfl, rfl, rfl⟩
        · rw [upr_n e, upr_n e, upr_n e, upr_n e]; exact hl l (by omega)) (by omega)
    rw [r 69 (by decide) (by decide) (by decide) (by decide), r 70 (by decide) (by decide) (by decide) (by decide), r 71 (by decide) (by decide) (by decide) (by decide), r 72 (by decide) (by decide) (by decide) (by decide)] at e2
    refine ⟨b', ?_, e2, (Fr.upd (Fr.upd (Fr.upd (Fr.upd (Fr.refl _ _) _ rfl) _ rfl) _ rfl) _ rfl).trans e3⟩
    rw [← e1]
    show LB_X12_tongue_142 (L_X12_tongue_142 f') _ _ = _
    unfold LB_X12_tongue_142
    rw [if_neg (by omega), ald_s (by omega), ast_s (by omega), ald_s (by omega), ast_s (by omega), ald_s (by omega), ast_s (by omega), ald_s (by omega), ast_s (by omega), nmv_s, wr_s (by omega), Int.toNat_natCast, u2r (show 70 ≠ 63 by decide), u2r (show 71 ≠ 64 by decide), u2r (show 71 ≠ 63 by decide), u2r (show 72 ≠ 65 by decide), u2r (show 72 ≠ 64 by decide), u2r (show 72 ≠ 63 by decide)]
    rfl
def sC2 (k i : Nat) : Bool := k == 67 || k == 68 || (k == 54 && i == 14)
theorem cp206 {kk mm : Nat} (hk : kk ≤ 200) : ∀ (j i : Nat) (b : Mm) (f : Nat), i + j = kk → b 54 31 = (kk : Int) → b 54 30 = (mm : Int) → (∀ l, l < i → b 67 l = b 73 l ∧ b 68 l = b 74 l) → j < f → ∃ b', L_X12_tongue_206 f (i : Int) b = some ((mm : Int), b') ∧ (∀ l, l < kk → b' 67 l = b 73 l ∧ b' 68 l = b 74 l) ∧ b' 54 14 = (mm : Int) ∧ Fr sC2 b b' := by
  intro j
  induction j with
  | zero =>
    intro i b f hij h31 h30 hl hf
    obtain ⟨f', rfl⟩ : ∃ f', f = f' + 1 := ⟨f - 1, by omega⟩
    refine ⟨upd2 b 54 14 (mm : Int), ?_, fun l hlm => ?_, u2s _ _ _ _, Fr.upd (Fr.refl _ _) _ rfl⟩
    · show LB_X12_tongue_206 (L_X12_tongue_206 f') _ _ = _
      unfold LB_X12_tongue_206
      rw [if_pos (by omega), stf_s, u2s, h30]
    · rw [u2r (by decide), u2r (by decide)]; exact hl l (by omega)
  | succ j ih =>
    intro i b f hij h31 h30 hl hf
    obtain ⟨f', rfl⟩ : ∃ f', f = f' + 1 := ⟨f - 1, by omega⟩
    have r : ∀ k, k ≠ 67 → k ≠ 68 → (upd2 (upd2 b 67 i (b 73 i)) 68 i (b 74 i)) k = b k := fun k h1 h2 => by rw [u2r h2, u2r h1]
    have r67 : (upd2 (upd2 b 67 i (b 73 i)) 68 i (b 74 i)) 67 = upr (b 67) i (b 73 i) := by rw [u2r (by decide), u2_row]
    have r68 : (upd2 (upd2 b 67 i (b 73 i)) 68 i (b 74 i)) 68 = upr (b 68) i (b 74 i) := by rw [u2_row, u2r (by decide)]
    obtain ⟨b', e1, e2, e3, e4⟩ := ih (i + 1) (upd2 (upd2 b 67 i (b 73 i)) 68 i (b 74 i)) f' (by omega) (by rw [r 54 (by decide) (by decide)]; exact h31) (by rw [r 54 (by decide) (by decide)]; exact h30)
      (by
        intro l hl2
        rw [r67, r68, r 73 (by decide) (by decide), r 74 (by decide) (by decide)]
        by_cases e : l = i
        · subst e; rw [upr_s, upr_s]; exact ⟨rfl, rfl⟩
        · rw [upr_n e, upr_n e]; exact hl l (by omega)) (by omega)
    rw [r 73 (by decide) (by decide), r 74 (by decide) (by decide)] at e2
    refine ⟨b', ?_, e2, e3, (Fr.upd (Fr.upd (Fr.refl _ _) _ rfl) _ rfl).trans e4⟩
    rw [← e1]
    show LB_X12_tongue_206 (L_X12_tongue_206 f') _ _ = _
    unfold LB_X12_tongue_206
    rw [if_neg (by omega), ald_s (by omega), ast_s (by omega), ald_s (by omega), ast_s (by omega), nmv_s, wr_s (by omega), Int.toNat_natCast, u2r (show 74 ≠ 67 by decide)]
    rfl
def sTg (k i : Nat) : Bool := (decide (20 ≤ k) && decide (k ≤ 33)) || (k == 17 && (i == 3 || i == 4)) || (k == 7 && i == 1) || (k == 43 && i == 10)
def sTgb (k i : Nat) : Bool := (k == 54 && (i == 1 || i == 14 || (decide (27 ≤ i) && decide (i ≤ 35)))) || (decide (63 ≤ k) && decide (k ≤ 75))
theorem sTx_Tg {c k i : Nat} (hc : isCd c) (h : sTg k i = false) : sTx c k i = false := by
  unfold sTg at h
  simp only [Bool.or_eq_false_iff, Bool.and_eq_false_iff, decide_eq_false_iff_not, beq_eq_false_iff_ne] at h
  unfold sTx sPc sP
  simp only [Bool.or_eq_false_iff, Bool.and_eq_false_iff, beq_eq_false_iff_ne]
  rcases hc with e | e <;> subst e <;> omega
theorem sQc_Tgb {k i : Nat} (h : sTgb k i = false) : sQc k i = false := by
  unfold sTgb at h
  simp only [Bool.or_eq_false_iff, Bool.and_eq_false_iff, decide_eq_false_iff_not, beq_eq_false_iff_ne] at h
  unfold sQc sQ
  simp only [Bool.or_eq_false_iff, Bool.and_eq_false_iff, beq_eq_false_iff_ne]
  omega
theorem sTx_other {c c' k i : Nat} (hc : isCd c) (hc' : isCd c') (hne : c' ≠ c) (h1 : c' ≤ k) (h2 : k ≤ c' + 5) : sTx c k i = false := by
  unfold sTx sPc sP
  simp only [Bool.or_eq_false_iff, Bool.and_eq_false_iff, beq_eq_false_iff_ne]
  rcases hc with e | e <;> subst e <;> rcases hc' with e | e <;> subst e <;> omega
theorem GA.rows {m m' : Mm} {G : Tg} {c : Nat} (h : GA m G) (hc : m 17 3 = (c : Int)) (e3 : m' 17 3 = (c : Int)) (he : ∀ j i, j ≤ 5 → m' (c + j) i = m (c + j) i) : GA m' G := by
  obtain ⟨c', h1, h2, h3, h4, h5, h6⟩ := h
  have : c' = c := by omega
  subst this
  have r : ∀ j, j ≤ 5 → m' (c' + j) = m (c' + j) := fun j hj => funext fun i => he j i hj
  have r0 : m' c' = m c' := r 0 (by omega)
  refine ⟨c', h1, e3, by rw [r0]; exact h3, h4, ?_, by rw [r0]; exact h6⟩
  rw [r 1 (by omega), r 2 (by omega), r 3 (by omega), r 4 (by omega), r 5 (by omega), r0]
  exact h5
theorem tongue_s {a b : Mm} {G : Tg} (hTt : InvT a b) (hA : GA a G) (hB : GB b G) (hC : InC a) (nn : Int) :
    ∃ r a' b' G', F_X11_tongue nn a = some (r, a') ∧ F_X12_tongue nn b = some (r, b') ∧ GA a' G' ∧ GB b' G' ∧ InC a' ∧ InvT a' b' ∧ Fr sTg a a' ∧ Fr sTgb b b' ∧ (a' 43 10 = 0 ∨ (G' = G ∧ a' 43 10 = a 43 10)) := by
  have t0 := hTt.1
  unfold F_X11_tongue F_X12_tongue
  rw [within_s, cll_s, ib0, lies_s, cll_s, ib0]
  by_cases h1 : 1 ≤ nn ∧ nn ≤ 200
  · rw [if_pos h1, if_pos h1]
    unfold F_X10_has
    by_cases h2 : nn ≤ a 7 1
    · rw [if_neg (by omega), cll_s, if_pos (by decide), if_pos (by omega)]
      obtain ⟨n, rfl⟩ : ∃ n : Nat, nn = (n : Int) := ⟨nn.toNat, by omega⟩
      obtain ⟨c, c', hc, hc', hne, k1, k2⟩ := hC
      have hT : TxOk n (a 8) := ⟨by omega, fun i hi => (hTt.2 i (by omega)).2⟩
      rw [k2, Int.toNat_natCast, grd_s hc']
      -- the class
      obtain ⟨a1, x1, x2, x3, x4, x5⟩ := txt_l (n := n) (T := a 8) hc' hT n 0 (upd2 a 32 2 (n : Int)) 100000 (by omega) (u2s _ _ _ _) (by rw [u2r (by decide)]; omega) (fun l _ => by rw [u2r (by decide)]) (fun l hl => absurd hl (by omega)) (by omega)
      have ht : F_X2_translate (n : Int) c' a = L_X2_translate_72 c' 100000 ((0 : Nat) : Int) a1 := by
        unfold F_X2_translate
        rw [min_s, cll_s, Int.min_eq_left (by omega), stf_s, nmv_s, ← x1]
        rfl
      -- the reference
      have hb0 : RS0 (upd2 (upd2 (upd2 (upd2 (upd2 (upd2 b 54 1 0) 54 27 0) 54 28 (n : Int)) 54 29 0) 54 30 0) 54 31 0) n (a 8) 0 0 := by
        refine ⟨⟨?_, fun i hi => ?_⟩, ?_, by omega, ?_, ?_, by omega⟩
        · rw [u2n (by decide), u2n (by decide), u2n (by decide), u2s]
        · rw [u2r (by decide), u2r (by decide), u2r (by decide), u2r (by decide), u2r (by decide), u2r (by decide)]; exact (hTt.2 i (by omega)).1.symm
        · rw [u2n (by decide), u2n (by decide), u2n (by decide), u2n (by decide), u2s]; rfl
        · rw [u2n (by decide), u2n (by decide), u2s]
        · rw [u2s]; rfl
      have hfb0 : Fr sTgb b (upd2 (upd2 (upd2 (upd2 (upd2 (upd2 b 54 1 0) 54 27 0) 54 28 (n : Int)) 54 29 0) 54 30 0) 54 31 0) := Fr.upd (Fr.upd (Fr.upd (Fr.upd (Fr.upd (Fr.upd (Fr.refl _ _) _ rfl) _ rfl) _ rfl) _ rfl) _ rfl) _ rfl
      have hb1 : (upd2 (upd2 (upd2 (upd2 (upd2 (upd2 b 54 1 0) 54 27 0) 54 28 (n : Int)) 54 29 0) 54 30 0) 54 31 0) 54 1 = 0 := by
        rw [u2n (by decide), u2n (by decide), u2n (by decide), u2n (by decide), u2n (by decide), u2s]
      obtain ⟨a2, b2, y1, y2, y3⟩ := tng_l hT 14 0 a1 _ 0 0 0 G 100000 100000 (by omega) x2 hb0 x3 (by rw [u2n (by decide), u2s]; rfl) (fun i hi => absurd hi (by omega)) (fun i hi => absurd hi (by omega)) (by omega) (by omega)
      rw [ht]
      simp only [stf_s, nmv_s]
      have hfa2 : Fr (sTx c') a a2 := ((Fr.upd (Fr.refl _ _) _ (sTx_32 c' _)).trans x5).trans (frTx y1)
      have hfa3 : Fr sTg a (upd2 a2 7 1 0) := Fr.upd (hfa2.mono fun k i e => sTx_Tg hc' e) _ rfl
      have hfb2 : Fr sTgb b b2 := hfb0.trans (y2.mono fun k i e => sQc_Tgb e)
      have hb21 : b2 54 1 = 0 := (y2 54 1 rfl).trans hb1
      have hiT : ∀ (a' b' : Mm), a' 7 1 = 0 → b' 54 1 = 0 → InvT a' b' := fun a' b' z1 z2 => by
        unfold InvT
        rw [z1, z2]
        exact ⟨⟨rfl, by decide, by decide⟩, fun i hi => absurd hi (by omega)⟩
      have e173 : a2 17 3 = (c : Int) := (hfa2 17 3 (by unfold sTx sPc sP; rcases hc' with e | e <;> subst e <;> rfl)).trans k1
      have e174 : a2 17 4 = (c' : Int) := (hfa2 17 4 (by unfold sTx sPc sP; rcases hc' with e | e <;> subst e <;> rfl)).trans k2
      have e4310 : a2 43 10 = a 43 10 := hfa2 43 10 (by unfold sTx sPc sP; rcases hc' with e | e <;> subst e <;> rfl)
      unfold F_X10_empty
      rcases y3 with ⟨r, z1, z2, z3⟩ | ⟨m', s', k', G', z0, z00, z1, z2, z3, z4, z5, z6, z7, z8⟩
      · rw [z2, z3, cll_s, stf_s, cll_s, if_pos (by omega)]
        refine ⟨r, upd2 a2 7 1 0, b2, G, rfl, rfl, ?_, ?_, ⟨c, c', hc, hc', hne, ?_, ?_⟩, hiT _ _ (u2s _ _ _ _) hb21, hfa3, hfb2, Or.inr ⟨rfl, ?_⟩⟩
        · refine hA.rows k1 (by rw [u2r (by decide)]; exact e173) (fun j i hj => ?_)
          rw [u2r (by unfold isCd at hc; omega)]
          exact hfa2 _ _ (sTx_other hc' hc hne (by omega) (by omega))
        · refine hB.fr ?_ (fun k i g1 g2 => ?_)
          · rw [y2 54 14 rfl, u2n (by decide), u2n (by decide), u2n (by decide), u2n (by decide), u2n (by decide), u2n (by decide)]
          · have : sQc k i = false := by
              unfold sQc sQ
              simp only [Bool.or_eq_false_iff, Bool.and_eq_false_iff, beq_eq_false_iff_ne]
              omega
            rw [y2 k i this, u2r (by omega), u2r (by omega), u2r (by omega), u2r (by omega), u2r (by omega), u2r (by omega)]
        · rw [u2r (by decide)]; exact e173
        · rw [u2r (by decide)]; exact e174
        · rw [u2r (by decide)]; exact e4310
      · have hg2 : b2 54 29 = 0 := z4.2.2.2.1
        obtain ⟨b3, v1, v2, v3⟩ := cp142 z00 m' 0 b2 100000 (by omega) z6 (fun l hl => absurd hl (by omega)) (by omega)
        obtain ⟨b4, w1, w2, w3, w4⟩ := cp206 (mm := m') (kk := k') (by have := z4.2.2.2.2.2; have := hT.1; omega) k' 0 b3 100000 (by omega) ((v3 54 31 rfl).trans z4.2.2.2.2.1) ((v3 54 30 rfl).trans z6) (fun l hl => absurd hl (by omega)) (by have := z4.2.2.2.2.2; have := hT.1; omega)
        have hB128 : J_X12_tongue_128 b2 = some ((m' : Int), b4) := by
          unfold J_X12_tongue_128
          rw [if_pos (by omega), nmv_s, ← w1, ← v1]
          rfl
        rw [z1, z2, hB128, cll_s, stf_s, cll_s, if_neg (by omega)]
        unfold F_X7_takeSpare F_X1_forget
        rw [stf_s, stf_s, cll_s, stf_s, cll_s, u2r (show 17 ≠ 7 by decide), e173, e174, Int.toNat_natCast, Int.toNat_natCast]
        have q73 : b3 73 = b2 73 := v3.row 73 (fun _ => rfl)
        have q74 : b3 74 = b2 74 := v3.row 74 (fun _ => rfl)
        have hcc := hc'
        have rows : ∀ j, j ≤ 5 → (upd2 (upd2 (upd2 (upd2 a2 7 1 0) 17 3 (c' : Int)) 17 4 (c : Int)) 43 10 0) (c' + j) = a2 (c' + j) := fun j hj => by rw [u2r (by omega), u2r (by omega), u2r (by omega), u2r (by omega)]
        have rows0 : (upd2 (upd2 (upd2 (upd2 a2 7 1 0) 17 3 (c' : Int)) 17 4 (c : Int)) 43 10 0) c' = a2 c' := rows 0 (by omega)
        have e3' : (upd2 (upd2 (upd2 (upd2 a2 7 1 0) 17 3 (c' : Int)) 17 4 (c : Int)) 43 10 0) 17 3 = (c' : Int) := by rw [u2r (by decide), u2n (by decide), u2s]
        refine ⟨(m' : Int), _, b4, (m', G'.2), rfl, rfl, ⟨c', hc', e3', by rw [rows0]; exact z5, z00, ?_, ?_⟩, ⟨w3, z00, ?_⟩, ⟨c', c, hc', hc, fun z => hne z.symm, e3', by rw [u2r (by decide), u2s]⟩, hiT _ _ ?_ ?_, ?_, ?_, Or.inl (u2s _ _ _ _)⟩
        · intro i hi
          rw [rows 1 (by omega), rows 2 (by omega), rows 3 (by omega), rows 4 (by omega), rows 5 (by omega), rows0]
          obtain ⟨u1, u2, u3, p, q, r, u4, u5, u6, u7, u8, u9⟩ := z7 i hi
          refine ⟨u1, u2, p, q, r, u4, u5, ?_, by have := z3.2.2.2.2.2.2.2; have := hT.1; omega, u8, u9⟩
          have hi' : i < m' := hi
          by_cases h : i + 1 < m'
          · rw [if_pos h] at u6
            rw [if_pos h]; exact u6
          · rw [if_neg h] at u6
            rw [if_neg h, u6]; exact z3.2.2.2.2.2.2.1
        · rw [rows0]
          intro z i hi
          exact (z7 i hi).2.2.1 z
        · intro i hi
          obtain ⟨u1, p, q, r, u4, u5, u6, u7, u8, u9⟩ := z8 i hi
          obtain ⟨o1, o2, o3, o4⟩ := v2 i hi
          have l1 := u8.1
          have l2 := u9.1
          rw [w4.row 63 (fun _ => rfl), w4.row 64 (fun _ => rfl), w4.row 65 (fun _ => rfl), w4.row 66 (fun _ => rfl), o1, o2, o3, o4]
          rw [q73, q74] at w2
          exact ⟨u1, p, q, r, u4, u5, u6, by have := z4.2.2.2.2.2; have := hT.1; omega, u8.ext fun l _ hl => w2 l (by omega), u9.ext fun l _ hl => w2 l (by omega)⟩
        · rw [u2r (by decide), u2r (by decide), u2r (by decide), u2s]
        · rw [w4 54 1 rfl, v3 54 1 rfl]; exact hb21
        · exact Fr.upd (Fr.upd (Fr.upd hfa3 _ rfl) _ rfl) _ rfl
        · refine (hfb2.trans (v3.mono fun k i e => ?_)).trans (w4.mono fun k i e => ?_)
          · unfold sTgb at e
            simp only [Bool.or_eq_false_iff, Bool.and_eq_false_iff, decide_eq_false_iff_not, beq_eq_false_iff_ne] at e
            unfold sC1
            simp only [Bool.or_eq_false_iff, beq_eq_false_iff_ne]
            omega
          · unfold sTgb at e
            simp only [Bool.or_eq_false_iff, Bool.and_eq_false_iff, decide_eq_false_iff_not, beq_eq_false_iff_ne] at e
            unfold sC2
            simp only [Bool.or_eq_false_iff, Bool.and_eq_false_iff, beq_eq_false_iff_ne]
            omega
    · rw [if_pos (by omega), cll_s, if_neg (by decide), if_neg (by omega)]
      exact ⟨_, a, b, G, rfl, rfl, hA, hB, hC, hTt, Fr.refl _ _, Fr.refl _ _, Or.inr ⟨rfl, rfl⟩⟩
  · rw [if_neg h1, if_neg h1]
    exact ⟨_, a, b, G, rfl, rfl, hA, hB, hC, hTt, Fr.refl _ _, Fr.refl _ _, Or.inr ⟨rfl, rfl⟩⟩

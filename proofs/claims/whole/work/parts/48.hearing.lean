/-! meaning, hearing, check -/
def orS (S T : Nat → Nat → Bool) (k i : Nat) : Bool := S k i || T k i
theorem Fr.inl {S T : Nat → Nat → Bool} {m m' : Mm} (h : Fr S m m') : Fr (orS S T) m m' := h.mono fun _ _ e => (Bool.or_eq_false_iff.mp e).1
theorem Fr.inr {S T : Nat → Nat → Bool} {m m' : Mm} (h : Fr T m m') : Fr (orS S T) m m' := h.mono fun _ _ e => (Bool.or_eq_false_iff.mp e).2
theorem Fr.both {S T : Nat → Nat → Bool} {m m1 m2 : Mm} (h : Fr S m m1) (h2 : Fr T m1 m2) : Fr (orS S T) m m2 := h.inl.trans h2.inr
theorem InvH.fr {m m' : Mm} {S : Nat → Nat → Bool} (h : InvH m) (f : Fr S m m') (a1 : ∀ i, S 1 i = false := by intro i; rfl) (a2 : ∀ i, S 2 i = false := by intro i; rfl) (a3 : ∀ i, S 3 i = false := by intro i; rfl) (a4 : ∀ i, S 10 i = false := by intro i; rfl) (a5 : ∀ i, S 11 i = false := by intro i; rfl) (a6 : S 9 4 = false := by decide) (a7 : S 14 4 = false ∧ S 14 5 = false := by decide) (a8 : ∀ i, S 15 i = false := by intro i; rfl) (a9 : ∀ i, S 16 i = false := by intro i; rfl) : InvH m' := by
  unfold InvH
  rw [f _ _ a7.1, f _ _ a7.2, f.row 15 a8, f.row 16 a9, f.row 1 a1, f _ _ a6, hrA_fr f _ _ a1 a2 a3 a4 a5]
  exact h
theorem meaning_s {a b : Mm} {G : Tg} (hP : InvP a b) (hA : GA a G) (hB : GB b G) (ear g w l p : Int) : ∃ r a' b', F_X11_meaning ear g w l p a = some (r, a') ∧ F_X12_meaning ear g w l p b = some (r, b') ∧ Fr sM a a' ∧ Fr sN b b' := by
  have hn := hP.A.1
  have en := hP.n
  unfold F_X11_meaning F_X12_meaning
  simp only [has_s, cll_s, within_s, lies_s, ib0, ibn]
  rw [isMouth_s _ _ (by omega)]
  simp only [cll_s, ib0, en]
  by_cases h1 : 0 ≤ ear ∧ ear < a 1 5
  · rw [if_pos h1, if_pos h1]
    by_cases h2 : 1 ≤ g ∧ g ≤ 63
    · rw [if_pos h2, if_pos h2]
      rw [isMouth_s _ _ (by omega)]
      simp only [cll_s, ib0, en]
      by_cases h3 : 0 ≤ w ∧ w < a 1 5
      · rw [if_pos h3, if_pos h3]
        by_cases h4 : 0 ≤ l ∧ l ≤ 8
        · rw [if_pos h4, if_pos h4]
          by_cases h5 : 0 ≤ p ∧ p ≤ 63
          · rw [if_pos h5, if_pos h5]
            obtain ⟨a', e1, e2⟩ := byEar_s hA hP.A g l p h1 h3
            obtain ⟨b', d1, d2, d3⟩ := means_s hB ear g w l p (wayA a ear w)
            rw [e1, cll_s, wayOf_s hP h1 h3, cll_s, d1, cll_s]
            exact ⟨_, a', b', rfl, rfl, e2, d2⟩
          · rw [if_neg h5, if_neg h5]; exact ⟨_, a, b, rfl, rfl, Fr.refl _ _, Fr.refl _ _⟩
        · rw [if_neg h4, if_neg h4]; exact ⟨_, a, b, rfl, rfl, Fr.refl _ _, Fr.refl _ _⟩
      · rw [if_neg h3, if_neg h3]; exact ⟨_, a, b, rfl, rfl, Fr.refl _ _, Fr.refl _ _⟩
    · rw [if_neg h2, if_neg h2]
      by_cases h3 : 0 ≤ w ∧ w < a 1 5
      · rw [if_pos h3]; exact ⟨_, a, b, rfl, rfl, Fr.refl _ _, Fr.refl _ _⟩
      · rw [if_neg h3]; exact ⟨_, a, b, rfl, rfl, Fr.refl _ _, Fr.refl _ _⟩
  · rw [if_neg h1, if_neg h1]; exact ⟨_, a, b, rfl, rfl, Fr.refl _ _, Fr.refl _ _⟩
def mnH (G : Tg) (a : Mm) (ear : Int) (h : Hs) (i : Nat) : Int := mn G (gpH h i) (h.2.2 i) (if i = 0 then 8 else h.2.2 (i - 1)) (if i = 0 then 63 else gpH h (i - 1)) ear (wayA a ear (h.2.2 i))
theorem mnA_s {m : Mm} {G : Tg} {h : Hs} {ear : Int} (hA : GA m G) (hP : PpA m) (hI : HsIn (m 14 4) (m 16) (m 15) h) {k : Nat} (ho : HsOk (m 1 5) 0 10199 k h) (h150 : k ≤ 150) (he : 0 ≤ ear ∧ ear < m 1 5) {i : Nat} (hi : i < h.1) : ∃ m', F_X11_meaningOf ear (i : Int) m = some (mnH G m ear h i, m') ∧ Fr sM m m' := by
  have hk := ho.1
  have hr : ∀ j, j < h.1 → 0 ≤ h.2.1 j ∧ h.2.1 j ≤ 10199 := fun j hj => (ho.2.2 j hj).2
  have e1 := hGap_s hI (by omega) hr hi
  have e2 := hWho_s hI (by omega) hi
  have e3 : F_X3_whoOf (wr ((i : Int) - 1)) m = some (if i = 0 then 8 else h.2.2 (i - 1), m) := by
    by_cases h0 : i = 0
    · subst h0
      rw [if_pos rfl]
      unfold F_X3_whoOf
      rw [wr_s (by decide), if_pos (by decide)]
    · rw [if_neg h0, wr_s (by omega), show (i : Int) - 1 = ((i - 1 : Nat) : Int) by omega]
      exact hWho_s hI (by omega) (by omega)
  have e4 : F_X3_gapOf (wr ((i : Int) - 1)) m = some (if i = 0 then 63 else gpH h (i - 1), m) := by
    by_cases h0 : i = 0
    · subst h0
      rw [if_pos rfl]
      unfold F_X3_gapOf
      rw [wr_s (by decide), if_pos (by decide)]
    · rw [if_neg h0, wr_s (by omega), show (i : Int) - 1 = ((i - 1 : Nat) : Int) by omega]
      exact hGap_s hI (by omega) hr (by omega)
  obtain ⟨m', d1, d2⟩ := byEar_s hA hP (gpH h i) (if i = 0 then 8 else h.2.2 (i - 1)) (if i = 0 then 63 else gpH h (i - 1)) he (ho.2.2 i hi).1
  refine ⟨m', ?_, d2⟩
  unfold F_X11_meaningOf
  rw [e1, cll_s, e2, cll_s, e3, cll_s, e4, cll_s, d1, cll_s]
  rfl
theorem mnB_s {a b : Mm} {G : Tg} {h : Hs} {ear : Int} (hB : GB b G) (hP : InvP a b) (hI : HsIn (b 54 48) (b 78) (b 79) h) {k : Nat} (ho : HsOk (a 1 5) 0 10199 k h) (h150 : k ≤ 150) (he : 0 ≤ ear ∧ ear < a 1 5) {i : Nat} (hi : i < h.1) : ∃ b', F_X12_meaningAt ear (i : Int) b = some (mnH G a ear h i, b') ∧ Fr sN b b' := by
  have hk := ho.1
  have hr : ∀ j, j < h.1 → 0 ≤ h.2.1 j ∧ h.2.1 j ≤ 10199 := fun j hj => (ho.2.2 j hj).2
  have e1 := gapAt_s hI (by omega) hr hi
  have hw := (ho.2.2 i hi).1
  have e2 : b 79 i = h.2.2 i := (hI.2 i hi).2
  obtain ⟨b', d1, d2, _⟩ := means_s hB ear (gpH h i) (h.2.2 i) (if i = 0 then 8 else h.2.2 (i - 1)) (if i = 0 then 63 else gpH h (i - 1)) (wayA a ear (h.2.2 i))
  refine ⟨b', ?_, d2⟩
  unfold F_X12_meaningAt
  rw [e1, cll_s, ald_s (by omega), Int.toNat_natCast, e2]
  by_cases h0 : i = 0
  · rw [if_neg (by omega), if_neg (by omega), ald_s (by omega), Int.toNat_natCast, e2, wayOf_s hP he hw, cll_s]
    rw [if_pos h0, if_pos h0] at d1
    rw [d1, cll_s]
    unfold mnH
    rw [if_pos h0, if_pos h0]
  · have e3 : b 79 (i - 1) = h.2.2 (i - 1) := (hI.2 (i - 1) (by omega)).2
    have e4 : wr ((i : Int) - 1) = ((i - 1 : Nat) : Int) := by rw [wr_s (by omega)]; omega
    rw [if_pos (by omega), e4, ald_s (by omega), Int.toNat_natCast, e3, if_pos (by omega), gapAt_s hI (by omega) hr (show i - 1 < h.1 by omega), cll_s, ald_s (by omega), Int.toNat_natCast, e2, wayOf_s hP he hw, cll_s]
    rw [if_neg h0, if_neg h0] at d1
    rw [d1, cll_s]
    unfold mnH
    rw [if_neg h0, if_neg h0]
theorem GA.frL {m m' : Mm} {G : Tg} (h : GA m G) (hf : Fr sL m m') : GA m' G := by
  refine h.fr (hf 17 3 rfl) (fun k i h1 h2 => hf k i ?_)
  unfold sL sH
  rw [show (k == 15) = false from beq_eq_false_iff_ne.mpr (by omega), show (k == 16) = false from beq_eq_false_iff_ne.mpr (by omega), show (k == 14) = false from beq_eq_false_iff_ne.mpr (by omega)]
  rfl
theorem GB.frHb {m m' : Mm} {G : Tg} (h : GB m G) (hf : Fr sHb m m') : GB m' G := by
  refine h.fr (hf 54 14 rfl) (fun k i h1 h2 => hf k i ?_)
  unfold sHb
  rw [show (k == 78) = false from beq_eq_false_iff_ne.mpr (by omega), show (k == 79) = false from beq_eq_false_iff_ne.mpr (by omega), show (k == 54) = false from beq_eq_false_iff_ne.mpr (by omega)]
  rfl
theorem wayA_fr {m m' : Mm} {S : Nat → Nat → Bool} (f : Fr S m m') (a2 : ∀ i, S 2 i = false := by intro i; rfl) (a3 : ∀ i, S 3 i = false := by intro i; rfl) (x y : Int) : wayA m' x y = wayA m x y := by
  unfold wayA
  rw [f.row 2 a2, f.row 3 a3]
theorem listened {a b : Mm} (hP : InvP a b) (hS : InvS a b) (hH : InvH a) {ear : Int} (he : 0 ≤ ear ∧ ear < a 1 5) : ∃ (h : Hs) (a' b' : Mm), F_X3_listen ear a = some (0, a') ∧ F_X12_laysHearings ear b = some (0, b') ∧ HsIn (a' 14 4) (a' 16) (a' 15) h ∧ HsIn (b' 54 48) (b' 78) (b' 79) h ∧ HsOk (a 1 5) 0 10199 (a 9 4).toNat h ∧ (a 9 4).toNat ≤ 150 ∧ Fr sL a a' ∧ Fr sHb b b' ∧ InvH a' := by
  obtain ⟨a', e1, e2, e3, e4⟩ := listenA_s hP.A hS.A hH he
  obtain ⟨b', d1, d2, d3⟩ := laysB_s hP hS he
  have h9 := hS.A.1
  refine ⟨_, a', b', e1, d1, e3, d2, hrA_ok hP.A hS.A he _ (by omega), by omega, e4, d3, ?_⟩
  right
  rw [e2, e4 1 5 rfl, e4 9 4 rfl, hrA_fr e4]
  exact ⟨he, e3⟩
theorem hearing_s {a b : Mm} {G : Tg} (hP : InvP a b) (hS : InvS a b) (hH : InvH a) (hA : GA a G) (hB : GB b G) (ear i what : Int) : ∃ r a' b', F_X11_hearing ear i what a = some (r, a') ∧ F_X12_hearing ear i what b = some (r, b') ∧ Fr (orS sL sM) a a' ∧ Fr (orS sHb sN) b b' ∧ InvH a' := by
  have hn := hP.A.1
  have en := hP.n
  unfold F_X11_hearing F_X12_hearing
  rw [has_s, cll_s, ibn, isMouth_s _ _ (by omega), cll_s, ib0, en, lies_s, cll_s, ibn]
  by_cases h1 : 0 ≤ ear ∧ ear < a 1 5
  · obtain ⟨h, a1, b1, e1, d1, e2, d2, ho, h150, e3, d3, e4⟩ := listened hP hS hH h1
    have hk := ho.1
    rw [if_pos h1, if_pos h1, e1, cll_s, within_s, cll_s, ibn, wr_s (by rw [e2.1]; omega), e2.1]
    by_cases hw : 0 ≤ what ∧ what ≤ 3
    · rw [if_pos hw, d1, cll_s, lies_s, cll_s, ibn, wr_s (by rw [d2.1]; omega), d2.1]
      by_cases hi : 0 ≤ i ∧ i ≤ (h.1 : Int) - 1
      · rw [if_pos hi, if_pos hi]
        obtain ⟨k, rfl⟩ : ∃ k : Nat, i = (k : Int) := ⟨i.toNat, by omega⟩
        have hkk : k < h.1 := by omega
        have hr : ∀ j, j < h.1 → 0 ≤ h.2.1 j ∧ h.2.1 j ≤ 10199 := fun j hj => (ho.2.2 j hj).2
        by_cases w0 : what = 0
        · rw [if_pos w0, if_neg (fun z => z w0), hBreath_s e2 (by omega) hkk, cll_s, ald_s (by omega), Int.toNat_natCast, (d2.2 k hkk).1]
          exact ⟨_, a1, b1, rfl, rfl, e3.inl, d3.inl, e4⟩
        · rw [if_neg w0, if_pos w0]
          by_cases w1 : what = 1
          · rw [if_pos w1, if_neg (fun z => z w1), hWho_s e2 (by omega) hkk, cll_s, ald_s (by omega), Int.toNat_natCast, (d2.2 k hkk).2]
            exact ⟨_, a1, b1, rfl, rfl, e3.inl, d3.inl, e4⟩
          · rw [if_neg w1, if_pos w1]
            by_cases w2 : what = 2
            · rw [if_pos w2, if_neg (fun z => z w2), hGap_s e2 (by omega) hr hkk, cll_s, gapAt_s d2 (by omega) hr hkk, cll_s]
              exact ⟨_, a1, b1, rfl, rfl, e3.inl, d3.inl, e4⟩
            · rw [if_neg w2, if_pos w2, if_pos (show what = 3 by omega)]
              obtain ⟨a2, f1, f2⟩ := mnA_s (hA.frL e3) (hP.A.fr e3) e2 (k := (a 9 4).toNat) (by rw [e3 1 5 rfl]; exact ho) h150 (ear := ear) (by rw [e3 1 5 rfl]; exact h1) hkk
              obtain ⟨b2, g1, g2⟩ := mnB_s (hB.frHb d3) (hP.fr (Fr.refl (fun _ _ => false) a) d3) d2 ho h150 h1 hkk
              have ew : mnH G a1 ear h k = mnH G a ear h k := by unfold mnH; rw [wayA_fr e3]
              rw [f1, cll_s, g1, cll_s, ew]
              exact ⟨_, a2, b2, rfl, rfl, e3.both f2, d3.both g2, e4.fr f2⟩
      · rw [if_neg hi, if_neg hi]
        exact ⟨_, a1, b1, rfl, rfl, e3.inl, d3.inl, e4⟩
    · rw [if_neg hw]
      by_cases hi : 0 ≤ i ∧ i ≤ (h.1 : Int) - 1
      · rw [if_pos hi, if_neg (by omega), if_neg (by omega), if_neg (by omega), if_neg (by omega)]
        exact ⟨_, a1, b, rfl, rfl, e3.inl, Fr.refl _ _, e4⟩
      · rw [if_neg hi]
        exact ⟨_, a1, b, rfl, rfl, e3.inl, Fr.refl _ _, e4⟩
  · rw [if_neg h1, if_neg h1]
    exact ⟨_, a, b, rfl, rfl, Fr.refl _ _, Fr.refl _ _, hH⟩

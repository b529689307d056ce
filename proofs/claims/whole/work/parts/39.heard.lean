/-! heard; what stands in the hearings -/
def gpH (h : Hs) (i : Nat) : Int := if i = 0 then 63 else min 63 (h.2.1 i - h.2.1 (i - 1))
theorem heard_s {a b : Mm} (hP : InvP a b) (hS : InvS a b) (hH : InvH a) (ear : Int) : ∃ r a' b', F_X11_heard ear a = some (r, a') ∧ F_X12_heard ear b = some (r, b') ∧ Fr sL a a' ∧ Fr sHb b b' ∧ InvH a' := by
  have hn := hP.A.1
  unfold F_X11_heard F_X12_heard
  rw [has_s, cll_s, ibn, isMouth_s _ _ (by rw [hP.n]; omega), cll_s, ibn, hP.n]
  by_cases he : 0 ≤ ear ∧ ear < a 1 5
  · obtain ⟨a', e1, e2, e3, e4⟩ := listenA_s hP.A hS.A hH he
    obtain ⟨b', d1, d2, d3⟩ := laysB_s hP hS he
    refine ⟨a' 14 4, a', b', ?_, ?_, e4, d3, ?_⟩
    · rw [if_pos he, e1, cll_s]
    · rw [if_pos he, d1, cll_s, e3.1, d2.1]
    · right
      rw [e2, e4 1 5 rfl, e4 9 4 rfl, hrA_fr e4]
      exact ⟨he, e3⟩
  · exact ⟨-1, a, b, if_neg he, if_neg he, Fr.refl _ _, Fr.refl _ _, hH⟩
theorem hBreath_s {m : Mm} {h : Hs} (hI : HsIn (m 14 4) (m 16) (m 15) h) (h150 : h.1 ≤ 150) {i : Nat} (hi : i < h.1) : F_X3_breathOf (i : Int) m = some (h.2.1 i, m) := by
  have h1 := hI.1
  unfold F_X3_breathOf
  rw [if_neg (by omega), if_neg (by omega), ald_s (by omega), Int.toNat_natCast, (hI.2 i hi).1]
theorem hWho_s {m : Mm} {h : Hs} (hI : HsIn (m 14 4) (m 16) (m 15) h) (h150 : h.1 ≤ 150) {i : Nat} (hi : i < h.1) : F_X3_whoOf (i : Int) m = some (h.2.2 i, m) := by
  have h1 := hI.1
  unfold F_X3_whoOf
  rw [if_neg (by omega), if_neg (by omega), ald_s (by omega), Int.toNat_natCast, (hI.2 i hi).2]
theorem hGap_s {m : Mm} {h : Hs} (hI : HsIn (m 14 4) (m 16) (m 15) h) (h150 : h.1 ≤ 150) (hr : ∀ j, j < h.1 → 0 ≤ h.2.1 j ∧ h.2.1 j ≤ 10199) {i : Nat} (hi : i < h.1) : F_X3_gapOf (i : Int) m = some (gpH h i, m) := by
  have h1 := hI.1
  unfold F_X3_gapOf gpH
  by_cases c : i = 0
  · rw [if_pos (by omega), if_pos c]
  · have r1 := hr i hi
    have r2 := hr (i - 1) (by omega)
    rw [if_neg (by omega), if_pos (by omega), ald_s (by omega), wr_s (x := (i : Int) - 1) (by omega), ald_s (by omega), Int.toNat_natCast, show ((i : Int) - 1).toNat = i - 1 by omega, (hI.2 i hi).1, (hI.2 (i - 1) (by omega)).1, wr_s (by omega), min_s, cll_s, if_neg c]
theorem gapAt_s {m : Mm} {h : Hs} (hI : HsIn (m 54 48) (m 78) (m 79) h) (h150 : h.1 ≤ 150) (hr : ∀ j, j < h.1 → 0 ≤ h.2.1 j ∧ h.2.1 j ≤ 10199) {i : Nat} (hi : i < h.1) : F_X12_gapAt (i : Int) m = some (gpH h i, m) := by
  have h1 := hI.1
  unfold F_X12_gapAt gpH
  by_cases c : i = 0
  · rw [if_neg (by omega), if_pos c]
  · have r1 := hr i hi
    have r2 := hr (i - 1) (by omega)
    rw [if_pos (by omega), ald_s (by omega), wr_s (x := (i : Int) - 1) (by omega), ald_s (by omega), Int.toNat_natCast, show ((i : Int) - 1).toNat = i - 1 by omega, (hI.2 i hi).1, (hI.2 (i - 1) (by omega)).1, nmv_s, wr_s (by omega), if_neg c]
    by_cases d : h.2.1 i - h.2.1 (i - 1) ≤ 63
    · rw [if_pos d, Int.min_eq_right d]
    · rw [if_neg d, Int.min_eq_left (by omega)]
/-- heard at breath t, from w -/
def InH (h : Hs) (t w : Int) : Prop := ∃ k, k < h.1 ∧ h.2.1 k = t ∧ h.2.2 k = w
theorem InH.one {h : Hs} (hs : srt h.1 h.2.1) {t w v : Int} (h1 : InH h t w) (h2 : InH h t v) : w = v := by
  obtain ⟨k, k1, k2, k3⟩ := h1
  obtain ⟨l, l1, l2, l3⟩ := h2
  have : k = l := by
    rcases Nat.lt_trichotomy k l with z | z | z
    · have := hs k l z l1; omega
    · exact z
    · have := hs l k z k1; omega
  subst this
  omega
theorem InH_plc {X Y : Nat → Int} {ear t0 w0 : Int} {h : Hs} (hs : srt h.1 h.2.1) (t w : Int) : InH (plc X Y ear t0 w0 h) t w ↔ (t ≠ t0 ∧ InH h t w) ∨ (t = t0 ∧ ((∃ v, InH h t0 v ∧ ((nearR X Y ear w0 v ∧ w = w0) ∨ (¬ nearR X Y ear w0 v ∧ w = v))) ∨ ((∀ v, ¬ InH h t0 v) ∧ w = w0))) := by
  obtain ⟨g1, g2, g3, g4⟩ := psN_r (T := h.2.1) (t := t0) h.1 0
  unfold plc
  generalize psN h.2.1 t0 h.1 0 = q at g1 g2 g3 g4
  by_cases c1 : q < h.1 ∧ h.2.1 q = t0
  · have hq : InH h t0 (h.2.2 q) := ⟨q, c1.1, c1.2, rfl⟩
    rw [if_pos c1]
    by_cases c2 : nearR X Y ear w0 (h.2.2 q)
    · rw [if_pos c2]
      constructor
      · rintro ⟨k, k1, k2, k3⟩
        have k3' : upr h.2.2 q w0 k = w := k3
        have k2' : h.2.1 k = t := k2
        have k1' : k < h.1 := k1
        by_cases e : k = q
        · subst e
          rw [upr_s] at k3'
          exact Or.inr ⟨by omega, Or.inl ⟨_, hq, Or.inl ⟨c2, k3'.symm⟩⟩⟩
        · rw [upr_n e] at k3'
          refine Or.inl ⟨?_, k, k1', k2', k3'⟩
          intro z
          rcases Nat.lt_or_gt_of_ne e with y | y
          · have := hs k q y c1.1; omega
          · have := hs q k y k1'; omega
      · rintro (⟨z1, k, k1, k2, k3⟩ | ⟨z1, ⟨v, z2, z3⟩ | ⟨z2, _⟩⟩)
        · refine ⟨k, k1, k2, ?_⟩
          show upr h.2.2 q w0 k = w
          rw [upr_n (by intro e; subst e; omega)]; exact k3
        · have ev := InH.one hs z2 hq
          subst ev
          rcases z3 with z3 | z3
          · exact ⟨q, c1.1, by show h.2.1 q = t; omega, by show upr h.2.2 q w0 q = w; rw [upr_s]; exact z3.2.symm⟩
          · exact absurd c2 z3.1
        · exact absurd hq (z2 _)
    · rw [if_neg c2]
      constructor
      · rintro hk
        by_cases e : t = t0
        · subst e
          exact Or.inr ⟨rfl, Or.inl ⟨_, hq, Or.inr ⟨c2, InH.one hs hk hq⟩⟩⟩
        · exact Or.inl ⟨e, hk⟩
      · rintro (⟨z1, z2⟩ | ⟨z1, ⟨v, z2, z3⟩ | ⟨z2, _⟩⟩)
        · exact z2
        · have ev := InH.one hs z2 hq
          subst ev
          rcases z3 with z3 | z3
          · exact absurd z3.1 c2
          · rw [z1, z3.2]; exact hq
        · exact absurd hq (z2 _)
  · have h5 : ∀ j, q ≤ j → j < h.1 → t0 < h.2.1 j := by
      intro j hj1 hj2
      have h6 := g4 (by omega)
      by_cases e : j = q
      · subst e
        have : ¬ h.2.1 j = t0 := fun z => c1 ⟨hj2, z⟩
        omega
      · have := hs q j (by omega) hj2
        omega
    have hno : ∀ v, ¬ InH h t0 v := by
      rintro v ⟨k, k1, k2, k3⟩
      by_cases e : k < q
      · have := g3 k (by omega) e; omega
      · have := h5 k (by omega) k1; omega
    rw [if_neg c1]
    constructor
    · rintro ⟨k, k1, k2, k3⟩
      have k1' : k < h.1 + 1 := k1
      have k2' : insR h.2.1 q t0 k = t := k2
      have k3' : insR h.2.2 q w0 k = w := k3
      unfold insR at k2' k3'
      by_cases e1 : k < q
      · rw [if_pos e1] at k2' k3'
        have := g3 k (by omega) e1
        exact Or.inl ⟨by omega, k, by omega, k2', k3'⟩
      · by_cases e2 : k = q
        · rw [if_neg e1, if_pos e2] at k2' k3'
          exact Or.inr ⟨k2'.symm, Or.inr ⟨hno, k3'.symm⟩⟩
        · rw [if_neg e1, if_neg e2] at k2' k3'
          have := h5 (k - 1) (by omega) (by omega)
          exact Or.inl ⟨by omega, k - 1, by omega, k2', k3'⟩
    · rintro (⟨z1, k, k1, k2, k3⟩ | ⟨z1, ⟨v, z2, z3⟩ | ⟨z2, z3⟩⟩)
      · by_cases e : k < q
        · exact ⟨k, by show k < h.1 + 1; omega, by show insR h.2.1 q t0 k = t; unfold insR; rw [if_pos e]; exact k2, by show insR h.2.2 q w0 k = w; unfold insR; rw [if_pos e]; exact k3⟩
        · exact ⟨k + 1, by show k + 1 < h.1 + 1; omega, by show insR h.2.1 q t0 (k + 1) = t; unfold insR; rw [if_neg (by omega), if_neg (by omega)]; exact k2, by show insR h.2.2 q w0 (k + 1) = w; unfold insR; rw [if_neg (by omega), if_neg (by omega)]; exact k3⟩
      · exact absurd z2 (hno v)
      · exact ⟨q, by show q < h.1 + 1; omega, by show insR h.2.1 q t0 q = t; unfold insR; rw [if_neg (by omega), if_pos rfl]; exact z1.symm, by show insR h.2.2 q w0 q = w; unfold insR; rw [if_neg (by omega), if_pos rfl]; exact z3.symm⟩

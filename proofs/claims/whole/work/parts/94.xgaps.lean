/-! the class's gaps -/
def sFg (d k _ : Nat) : Bool := k == d || k == 49 || k == 50
theorem sD_Fg {d : Nat} {a a' : Mm} (h : Fr (sD d) a a') : Fr (sFg d) a a' := h.mono fun k i e => by
  unfold sFg at e
  simp only [Bool.or_eq_false_iff] at e
  exact e.1.1
theorem sFg_49 (d i : Nat) : sFg d 49 i = true := by unfold sFg; cases (49 == d) <;> rfl
theorem sFg_50 (d i : Nat) : sFg d 50 i = true := by unfold sFg; cases (50 == d) <;> rfl
theorem sFg_n {d k i : Nat} (h1 : k ≠ d) (h2 : k ≠ 49) (h3 : k ≠ 50) : sFg d k i = false := by
  unfold sFg
  rw [beq_eq_false_iff_ne.mpr h1, beq_eq_false_iff_ne.mpr h2, beq_eq_false_iff_ne.mpr h3]
  rfl
/-- what the row is by when dead ends go: from i on they are gone -/
def Dd (a : Mm) (sy : Syf) (Ln : Nat → Nat) (M S i : Nat) : Prop := (∀ j, j < S → a 48 j = (wqN sy M Ln j : Int) ∧ ∀ g, g < 21 → (Rq sy M Ln (j + 1)).2.2 (pG g) = true → a 46 (wqN sy M Ln j * 21 + g) = 1) ∧ (∀ j, j < i → j < S → isP (a 50 j) (fun g => (Rq sy M Ln (j + 1)).2.2 (pG g) = true)) ∧ ∀ j, i ≤ j → j < S → isP (a 50 j) (fun g => Bk sy M Ln (S - (j + 1)) (j + 1) (pG g) = true)
theorem Dd.fr {a a' : Mm} {sy : Syf} {Ln : Nat → Nat} {M S i d : Nat} (h : Dd a sy Ln M S i) (hd : d = 51 ∨ 95 ≤ d) (f : Fr (sD d) a a') : Dd a' sy Ln M S i := by
  unfold Dd
  rw [f.row 48 fun _ => sD_n (by omega), f.row 46 fun _ => sD_n (by omega), f.row 50 fun _ => sD_n (by omega)]
  exact h
theorem dg_lt' {w : Nat} : fiv w ≤ 125 := by unfold fiv; split; omega; split; omega; split <;> omega
theorem dd61 {K : Int → Int → Mm → Rs} {sy : Syf} {Ln : Nat → Nat} {M d S i : Nat} (hV : VV sy M Ln 0 4 21 < 1000000000) (hi : 1 ≤ i ∧ i < S) : ∀ (k g : Nat) (al : Int) (a : Mm) (f : Nat), g + k = 21 → KF a sy Ln M d S → Dd a sy Ln M S i → isP al (fun n => n < g ∧ Bk sy M Ln (S - i) i (pG n) = true) → k < f → ∃ a', L_X1_dropDeadEnds_61 K f ((Rq sy M Ln i).1 : Int) (i : Int) al (g : Int) a = K ((Rq sy M Ln i).1 : Int) ((i : Int) - 1) a' ∧ Fr (sFg d) a a' ∧ KF a' sy Ln M d S ∧ Dd a' sy Ln M S (i - 1) := by
  intro k
  induction k with
  | zero =>
    intro g al a f hg hK hD hP hf
    obtain ⟨f', rfl⟩ : ∃ f', f = f' + 1 := ⟨f - 1, by omega⟩
    have e : g = 21 := by omega
    subst e
    have h16 := rsm16 hK.1.1 0
    rw [hK.2.2.2.1] at h16
    refine ⟨upd2 a 50 (i - 1) al, ?_, (Fr.refl _ _).upd _ (sFg_50 d _), hK.upd 50 _ _ (by omega), ?_, ?_, ?_⟩
    · show LB_X1_dropDeadEnds_61 K (L_X1_dropDeadEnds_61 K f') _ _ _ _ _ = _
      unfold LB_X1_dropDeadEnds_61
      rw [if_pos (by decide), wr_s (x := (i : Int) - 1) (by omega), ast_s (by omega), nmv_s, wr_s (by omega), show ((i : Int) - 1).toNat = i - 1 by omega, show (i : Int) + (-1) = (i : Int) - 1 by omega]
    · intro j hj
      rw [u2r (by decide), u2r (by decide)]
      exact hD.1 j hj
    · intro j h1 h2
      rw [u2n (by omega)]
      exact hD.2.1 j (by omega) h2
    · intro j h1 h2
      by_cases e : j = i - 1
      · subst e
        rw [u2s, show i - 1 + 1 = i by omega]
        exact hP.cong fun n hn => ⟨fun z => z.2, fun z => ⟨hn, z⟩⟩
      · rw [u2n e]
        exact hD.2.2 j (by omega) h2
  | succ k ih =>
    intro g al a f hg hK hD hP hf
    obtain ⟨f', rfl⟩ : ∃ f', f = f' + 1 := ⟨f - 1, by omega⟩
    have hd := hK.1.d
    have hM := hK.1.1.1.1
    have h16 := rsm16 hK.1.1 0
    have hSS := hK.2.2.2.1
    rw [hSS] at h16
    obtain ⟨hR, hn⟩ := Rq_i hK.1.1 hV i (by rw [hSS]; omega)
    obtain ⟨w1, w2, w3⟩ := hn (by rw [hSS]; omega)
    have h0 : 0 < (Rq sy M Ln i).1 ∧ (Rq sy M Ln i).2.1 < M := by rcases hR.2.2.1 with y | y <;> omega
    have hl1 : (Rq sy M Ln i).2.1 = wqN sy M Ln (i - 1) := by
      obtain ⟨j, rfl⟩ : ∃ j, i = j + 1 := ⟨i - 1, by omega⟩
      rfl
    obtain ⟨p1, p3⟩ := hD.1 (i - 1) (by omega)
    have p2 := hD.2.1 (i - 1) (by omega) (by omega)
    rw [show i - 1 + 1 = i by omega] at p2 p3
    have p4 := hD.2.2 i (Nat.le_refl _) hi.2
    have hrs := hR.2.1
    rw [hSS] at hrs
    have hone := p2.and (isP_1 (by omega : g < 21))
    have hstep : ∀ a1 al1, Fr (sD d) a a1 → KF a1 sy Ln M d S → isP al1 (fun n => n < g + 1 ∧ Bk sy M Ln (S - i) i (pG n) = true) → ∃ a', J_X1_dropDeadEnds_146 K (L_X1_dropDeadEnds_61 K f') ((Rq sy M Ln i).1 : Int) (i : Int) al1 (g : Int) a1 = K ((Rq sy M Ln i).1 : Int) ((i : Int) - 1) a' ∧ Fr (sFg d) a a' ∧ KF a' sy Ln M d S ∧ Dd a' sy Ln M S (i - 1) := by
      intro a1 al1 g1 g2 g3
      obtain ⟨a2, e1, e2, e3⟩ := ih (g + 1) al1 a1 f' (by omega) g2 (hD.fr hd g1) g3 (by omega)
      refine ⟨a2, ?_, (sD_Fg g1).trans e2, e3⟩
      unfold J_X1_dropDeadEnds_146
      rw [nmv_s, wr_s (by omega), ← e1]
      rfl
    have hno : ∀ a1, Fr (sD d) a a1 → KF a1 sy Ln M d S → ¬ Bk sy M Ln (S - i) i (pG g) = true → ∀ one, ∃ a', J_X1_dropDeadEnds_129 K (L_X1_dropDeadEnds_61 K f') ((Rq sy M Ln i).1 : Int) (i : Int) al (g : Int) one a1 = K ((Rq sy M Ln i).1 : Int) ((i : Int) - 1) a' ∧ Fr (sFg d) a a' ∧ KF a' sy Ln M d S ∧ Dd a' sy Ln M S (i - 1) := by
      intro a1 g1 g2 g3 one
      unfold J_X1_dropDeadEnds_129 J_X1_dropDeadEnds_132
      rw [nmv_s, if_pos rfl, nmv_s]
      refine hstep a1 _ g1 g2 ((hP.or isP_0).cong fun n hn => ?_)
      constructor
      · rintro (⟨z1, z2⟩ | z)
        · exact ⟨by omega, z2⟩
        · exact z.elim
      · rintro ⟨z1, z2⟩
        by_cases e : n = g
        · subst e; exact absurd z2 g3
        · exact Or.inl ⟨by omega, z2⟩
    obtain ⟨kk, hkk⟩ : ∃ kk, S - i = kk + 1 := ⟨S - i - 1, by omega⟩
    have hkk2 : S - (i + 1) = kk := by omega
    show ∃ a', LB_X1_dropDeadEnds_61 K (L_X1_dropDeadEnds_61 K f') _ _ _ _ _ = _ ∧ _
    unfold LB_X1_dropDeadEnds_61
    rw [if_neg (by omega), wr_s (x := (i : Int) - 1) (by omega), ald_s (by omega), show ((i : Int) - 1).toNat = i - 1 by omega, nmv_s]
    by_cases hA : (Rq sy M Ln i).2.2 (pG g) = true
    · rw [if_neg (fun z => hone.z.mp z g (by omega) ⟨hA, rfl⟩), ald_s (by omega), ald_s (by omega), show ((i : Int) - 1).toNat = i - 1 by omega, Int.toNat_natCast, p1, (hD.1 i hi.2).1, hK.2.2.1, wr_s (by omega)]
      obtain ⟨v, a1, e1, e2, e3, e4⟩ := lossless_s (w := wqN sy M Ln i) (r := S - i - 1) (left := (S : Int) - (i : Int)) hK hR.1 h0.1 (by omega) (by omega) h0.2 w1 hone (by
        rintro g' hg' ⟨z1, z2⟩
        rw [hl1]
        exact p3 g' hg' z1)
      rw [hl1] at e1
      rw [e1, cll_s, ald_s (by omega), Int.toNat_natCast]
      have p5 : isP (a1 50 i) (fun g => Bk sy M Ln (S - (i + 1)) (i + 1) (pG g) = true) := by rw [e2 50 i (sD_n (by omega))]; exact p4
      have hb := e4.and p5
      have hBk : Bk sy M Ln (S - i) i (pG g) = true ↔ ¬ iand v (a1 50 i) = 0 := by
        rw [hb.z, hkk, Bk_s, hkk2]
        constructor
        · rintro ⟨_, n, n1, n2, n3, n4⟩ z
          exact z n n2 ⟨⟨n1, g, by omega, ⟨hA, rfl⟩, n4⟩, by rw [pG_n n1]; exact n3⟩
        · intro z
          by_cases hex : ∃ n, n < 21 ∧ (1 ≤ n ∧ ∃ g', g' < 21 ∧ ((Rq sy M Ln i).2.2 (pG g') = true ∧ g' = g) ∧ tT sy M Ln (Rq sy M Ln i).1 (Rq sy M Ln i).2.1 (pG g') (wqN sy M Ln i) n = true) ∧ Bk sy M Ln kk (i + 1) (pG n) = true
          · obtain ⟨n, n1, ⟨n2, g', n3, ⟨n4, n5⟩, n6⟩, n7⟩ := hex
            subst n5
            rw [pG_n n2] at n7
            exact ⟨hA, n, n2, n1, n7, n6⟩
          · exact absurd (fun n hn hx => hex ⟨n, hn, hx⟩) z
      by_cases hz : iand v (a1 50 i) = 0
      · rw [if_pos hz]
        exact hno a1 e2 e3 (fun z => hBk.mp z hz) _
      · rw [if_neg hz, nmv_s]
        unfold J_X1_dropDeadEnds_132
        rw [if_neg (by decide), nmv_s]
        refine hstep a1 _ e2 e3 ((hP.or hone).cong fun n hn => ?_)
        constructor
        · rintro (⟨z1, z2⟩ | ⟨z1, z2⟩)
          · exact ⟨by omega, z2⟩
          · subst z2
            exact ⟨by omega, hBk.mpr hz⟩
        · rintro ⟨z1, z2⟩
          by_cases e : n = g
          · subst e; exact Or.inr ⟨hA, rfl⟩
          · exact Or.inl ⟨by omega, z2⟩
    · rw [if_pos (hone.z.mpr fun n hn z => hA (by rw [← z.2]; exact z.1))]
      exact hno a (Fr.refl _ _) hK (fun z => hA (Bk_A z)) _
theorem dd38 {sy : Syf} {Ln : Nat → Nat} {M d S : Nat} (hV : VV sy M Ln 0 4 21 < 1000000000) : ∀ (i : Nat) (a : Mm) (f : Nat), i + 1 ≤ S → KF a sy Ln M d S → Dd a sy Ln M S i → i < f → ∃ a', L_X1_dropDeadEnds_38 f ((Rq sy M Ln (i + 1)).1 : Int) (i : Int) a = some (((Rq sy M Ln 1).1 : Int), a') ∧ Fr (sFg d) a a' ∧ KF a' sy Ln M d S ∧ Dd a' sy Ln M S 0 := by
  intro i
  induction i with
  | zero =>
    intro a f hi hK hD hf
    obtain ⟨f', rfl⟩ : ∃ f', f = f' + 1 := ⟨f - 1, by omega⟩
    refine ⟨a, ?_, Fr.refl _ _, hK, hD⟩
    show LB_X1_dropDeadEnds_38 (L_X1_dropDeadEnds_38 f') _ _ _ = _
    unfold LB_X1_dropDeadEnds_38
    exact if_pos (by decide)
  | succ i ih =>
    intro a f hi hK hD hf
    obtain ⟨f', rfl⟩ : ∃ f', f = f' + 1 := ⟨f - 1, by omega⟩
    have hM := hK.1.1.1.1
    have h16 := rsm16 hK.1.1 0
    have hSS := hK.2.2.2.1
    rw [hSS] at h16
    obtain ⟨hR, hn⟩ := Rq_i hK.1.1 hV (i + 1) (by rw [hSS]; omega)
    obtain ⟨w1, w2, w3⟩ := hn (by rw [hSS]; omega)
    have hlt := hR.1.1
    have hf125 := dg_lt' (w := wqN sy M Ln (i + 1))
    obtain ⟨a1, e1, e2, e3, e4⟩ := dd61 (K := L_X1_dropDeadEnds_38 f') hV (i := i + 1) ⟨by omega, by omega⟩ 21 0 0 a 100000 rfl hK hD (isP_0.cong fun n _ => ⟨fun z => z.elim, fun z => by have := z.1; omega⟩) (by decide)
    obtain ⟨a2, g1, g2, g3⟩ := ih a1 f' (by omega) e3 e4 (by omega)
    refine ⟨a2, ?_, e2.trans g2, g3⟩
    show LB_X1_dropDeadEnds_38 (L_X1_dropDeadEnds_38 f') _ _ _ = _
    unfold LB_X1_dropDeadEnds_38
    rw [show ((0 : Nat) : Int) = 0 from rfl] at e1
    rw [if_neg (by omega), ald_s (by omega), Int.toNat_natCast, (hD.1 (i + 1) (by omega)).1, onl_s (by omega), nmv_s, nmv_s, nmv_s, Rq_st sy M Ln (i + 1), wr_s (by omega), show (((Rq sy M Ln (i + 1)).1 + fiv (wqN sy M Ln (i + 1)) : Nat) : Int) - (fiv (wqN sy M Ln (i + 1)) : Int) = ((Rq sy M Ln (i + 1)).1 : Int) by omega, e1, show ((i + 1 : Nat) : Int) - 1 = (i : Int) by omega]
    exact g1
theorem dd4 {sy : Syf} {Ln : Nat → Nat} {M d S : Nat} (hV : VV sy M Ln 0 4 21 < 1000000000) (hS1 : 1 ≤ S) : ∀ (k i : Nat) (a : Mm) (f : Nat), i + k = S → KF a sy Ln M d S → Dd a sy Ln M S (S - 1) → k < f → ∃ a', L_X1_dropDeadEnds_4 f ((Rq sy M Ln i).1 : Int) (i : Int) a = some (((Rq sy M Ln 1).1 : Int), a') ∧ Fr (sFg d) a a' ∧ KF a' sy Ln M d S ∧ Dd a' sy Ln M S 0 := by
  intro k
  induction k with
  | zero =>
    intro i a f hi hK hD hf
    obtain ⟨f', rfl⟩ : ∃ f', f = f' + 1 := ⟨f - 1, by omega⟩
    have e : i = S := by omega
    subst e
    have h16 := rsm16 hK.1.1 0
    rw [hK.2.2.2.1] at h16
    obtain ⟨a1, e1, e2, e3⟩ := dd38 hV (i - 1) a 100000 (by omega) hK hD (by omega)
    refine ⟨a1, ?_, e2, e3⟩
    show LB_X1_dropDeadEnds_4 (L_X1_dropDeadEnds_4 f') _ _ _ = _
    unfold LB_X1_dropDeadEnds_4
    rw [show i - 1 + 1 = i by omega] at e1
    rw [hK.2.2.1, if_pos (Int.le_refl _), nmv_s, wr_s (by omega), show (i : Int) - 1 = ((i - 1 : Nat) : Int) by omega]
    exact e1
  | succ k ih =>
    intro i a f hi hK hD hf
    obtain ⟨f', rfl⟩ : ∃ f', f = f' + 1 := ⟨f - 1, by omega⟩
    have hM := hK.1.1.1.1
    have h16 := rsm16 hK.1.1 0
    have hSS := hK.2.2.2.1
    rw [hSS] at h16
    obtain ⟨hR, hn⟩ := Rq_i hK.1.1 hV i (by rw [hSS]; omega)
    obtain ⟨w1, w2, w3⟩ := hn (by rw [hSS]; omega)
    have hlt := hR.1.1
    have hf125 := dg_lt' (w := wqN sy M Ln i)
    obtain ⟨a1, e1, e2, e3⟩ := ih (i + 1) a f' (by omega) hK hD (by omega)
    refine ⟨a1, ?_, e2, e3⟩
    show LB_X1_dropDeadEnds_4 (L_X1_dropDeadEnds_4 f') _ _ _ = _
    unfold LB_X1_dropDeadEnds_4
    rw [Rq_st sy M Ln i] at e1
    rw [hK.2.2.1, if_neg (by omega), ald_s (by omega), Int.toNat_natCast, (hD.1 i (by omega)).1, onl_s (by omega), nmv_s, nmv_s, wr_s (by omega), wr_s (by omega), ← e1]
    rfl
theorem drop_s {a : Mm} {sy : Syf} {Ln : Nat → Nat} {M d S : Nat} (hV : VV sy M Ln 0 4 21 < 1000000000) (hS1 : 1 ≤ S) (hK : KF a sy Ln M d S) (hP : Sp a sy Ln M S) : ∃ a', F_X1_dropDeadEnds a = some (((Rq sy M Ln 1).1 : Int), a') ∧ Fr (sFg d) a a' ∧ KF a' sy Ln M d S ∧ Dd a' sy Ln M S 0 := by
  have h16 := rsm16 hK.1.1 0
  rw [hK.2.2.2.1] at h16
  obtain ⟨a1, e1, e2, e3⟩ := dd4 hV hS1 S 0 a 100000 (by omega) hK ⟨fun j hj => ⟨(hP j hj).1, (hP j hj).2.2⟩, fun j _ hj => (hP j hj).2.1, fun j h1 h2 => by
    have e : j + 1 = S := by omega
    rw [e, Nat.sub_self]
    have := (hP j h2).2.1
    rw [e] at this
    exact this⟩ (by omega)
  refine ⟨a1, ?_, e2, e3⟩
  unfold F_X1_dropDeadEnds
  have z : ((Rq sy M Ln 0).1 : Int) = 0 := by rw [Rq_0]; rfl
  rw [z, show ((0 : Nat) : Int) = 0 from rfl] at e1
  rw [nmv_s, nmv_s]
  exact e1
theorem fg32 {sy : Syf} {Ln : Nat → Nat} {M d S : Nat} (hV : VV sy M Ln 0 4 21 < 1000000000) : ∀ (k i g : Nat) (a : Mm) (f : Nat), i + k = S → 1 ≤ i → g < 21 → pG g = gqN sy M Ln S i → KF a sy Ln M d S → Dd a sy Ln M S 0 → (∀ j, j < i → a 49 j = gpO (gqN sy M Ln S (j + 1))) → k < f → ∃ a', L_X1_findGaps_32 f ((Rq sy M Ln i).1 : Int) (g : Int) (i : Int) a = some (0, a') ∧ Fr (sFg d) a a' ∧ KF a' sy Ln M d S ∧ ∀ j, j < S → a' 49 j = gpO (gqN sy M Ln S (j + 1)) := by
  intro k
  induction k with
  | zero =>
    intro i g a f hi h1 hg hgq hK hD h49 hf
    obtain ⟨f', rfl⟩ : ∃ f', f = f' + 1 := ⟨f - 1, by omega⟩
    have e : i = S := by omega
    subst e
    refine ⟨a, ?_, Fr.refl _ _, hK, h49⟩
    show LB_X1_findGaps_32 (L_X1_findGaps_32 f') _ _ _ _ = _
    unfold LB_X1_findGaps_32
    rw [hK.2.2.1, if_pos (Int.le_refl _)]
  | succ k ih =>
    intro i g a f hi h1 hg hgq hK hD h49 hf
    obtain ⟨f', rfl⟩ : ∃ f', f = f' + 1 := ⟨f - 1, by omega⟩
    have hd := hK.1.d
    have hM := hK.1.1.1.1
    have h16 := rsm16 hK.1.1 0
    have hSS := hK.2.2.2.1
    rw [hSS] at h16
    obtain ⟨hR, hn⟩ := Rq_i hK.1.1 hV i (by rw [hSS]; omega)
    obtain ⟨w1, w2, w3⟩ := hn (by rw [hSS]; omega)
    have h0 : 0 < (Rq sy M Ln i).1 ∧ (Rq sy M Ln i).2.1 < M := by rcases hR.2.2.1 with y | y <;> omega
    have hl1 : (Rq sy M Ln i).2.1 = wqN sy M Ln (i - 1) := by
      obtain ⟨j, rfl⟩ : ∃ j, i = j + 1 := ⟨i - 1, by omega⟩
      rfl
    have hG := gqN_i hK.1.1 hV i (by rw [hSS]; omega)
    have hG1 := gqN_i hK.1.1 hV (i - 1) (by rw [hSS]; omega)
    rw [hSS] at hG hG1
    rw [show i - 1 + 1 = i by omega] at hG1
    obtain ⟨⟨u1, u2⟩, _, u3⟩ := hG
    obtain ⟨u4, u5, u6⟩ := u3 (by omega)
    obtain ⟨p1, p3⟩ := hD.1 (i - 1) (by omega)
    rw [show i - 1 + 1 = i by omega] at p3
    have p4 := hD.2.2 i (Nat.zero_le _) (by omega)
    have hrs := hR.2.1
    rw [hSS] at hrs
    have hlt := hR.1.1
    have hf125 := dg_lt' (w := wqN sy M Ln i)
    obtain ⟨v, a1, e1, e2, e3, e4⟩ := lossless_s (w := wqN sy M Ln i) (r := S - i - 1) (left := (S : Int) - (i : Int)) hK hR.1 h0.1 (by omega) (by omega) h0.2 w1 (isP_1 hg) (by
      intro g' hg' z
      subst z
      rw [hl1]
      refine p3 g' hg' ?_
      rw [hgq]
      exact Bk_A hG1.1.1)
    have p5 : isP (a1 50 i) (fun g => Bk sy M Ln (S - (i + 1)) (i + 1) (pG g) = true) := by rw [e2 50 i (sD_n (by omega))]; exact p4
    have hb := e4.and p5
    generalize hgn : gqN sy M Ln S (i + 1) = gn at *
    have hntz := hb.ntz u5 ⟨⟨u4, g, hg, rfl, by rw [hgq]; exact u2⟩, by rw [pG_n u4]; exact u1⟩ (fun j hj hx => by
      obtain ⟨⟨z1, g', z2, z3, z4⟩, z5⟩ := hx
      subst z3
      rw [pG_n z1] at z5
      rw [hgq] at z4
      have := u6 j z1 hj
      rw [z5, z4] at this
      exact (nomatch this)) a1
    obtain ⟨a2, q1, q2, q3, q4⟩ := ih (i + 1) gn (upd2 a1 49 i (gn : Int)) f' (by omega) (by omega) u5 (by rw [pG_n u4]; exact hgn.symm) (e3.upd 49 i _ (by omega)) (by
      have := hD.fr hd e2
      unfold Dd at this ⊢
      rw [u2r (by decide), u2r (by decide), u2r (by decide)]
      exact this) (fun j hj => by
      by_cases e : j = i
      · subst e
        rw [u2s, hgn]
        unfold gpO
        rw [if_neg (by omega)]
      · rw [u2n e, e2 49 j (sD_n (by omega))]
        exact h49 j (by omega)) (by omega)
    refine ⟨a2, ?_, ((sD_Fg e2).upd _ (sFg_49 d i)).trans q2, q3, q4⟩
    have hD1 := hD.fr hd e2
    show LB_X1_findGaps_32 (L_X1_findGaps_32 f') _ _ _ _ = _
    unfold LB_X1_findGaps_32
    rw [hl1] at e1
    rw [hK.2.2.1, if_neg (by omega), wr_s (x := (i : Int) - 1) (by omega), ald_s (by omega), ald_s (by omega), show ((i : Int) - 1).toNat = i - 1 by omega, Int.toNat_natCast, p1, (hD.1 i (by omega)).1, wr_s (x := (S : Int) - (i : Int)) (by omega), e1, cll_s, ald_s (by omega), Int.toNat_natCast, nmv_s, hntz, cll_s, min_s, cll_s, nmv_s, show min (20 : Int) (gn : Int) = (gn : Int) by omega, ast_s (by omega), Int.toNat_natCast, ald_s (by omega), Int.toNat_natCast, u2r (by decide), (hD1.1 i (by omega)).1, onl_s (by omega), nmv_s, nmv_s, wr_s (by omega), wr_s (by omega), ← q1, Rq_st sy M Ln i]
    rfl
theorem findGaps_s {a : Mm} {sy : Syf} {Ln : Nat → Nat} {M d S : Nat} (hK : KF a sy Ln M d S) (hl : a 43 14 = min 1000000 (VV sy M Ln 0 4 21)) (hP : VV sy M Ln 0 4 21 < 1000000 → Sp a sy Ln M S) : ∃ a', F_X1_findGaps a = some (0, a') ∧ Fr (sFg d) a a' ∧ KF a' sy Ln M d S ∧ (VV sy M Ln 0 4 21 < 1000000 → ∀ j, j < S → a' 49 j = gpO (gqN sy M Ln S (j + 1))) := by
  have hd := hK.1.d
  unfold F_X1_findGaps
  rw [canBe_s hl, cll_s]
  by_cases hV : VV sy M Ln 0 4 21 < 1000000
  · rw [if_neg (show ¬ 1000000 ≤ VV sy M Ln 0 4 21 by omega), if_neg (by decide), hK.2.2.1]
    by_cases h0 : S = 0
    · rw [if_neg (fun z => z (by omega))]
      exact ⟨a, rfl, Fr.refl _ _, hK, fun _ j hj => by omega⟩
    · rw [if_pos (by omega)]
      have hSS := hK.2.2.2.1
      have h16 := rsm16 hK.1.1 0
      rw [hSS] at h16
      obtain ⟨a1, e1, e2, e3, e4⟩ := drop_s (by omega) (by omega) hK (hP hV)
      have hG := gqN_i hK.1.1 (by omega : VV sy M Ln 0 4 21 < 1000000000) 0 (by rw [hSS]; omega)
      rw [hSS] at hG
      obtain ⟨a2, q1, q2, q3, q4⟩ := fg32 (d := d) (by omega : VV sy M Ln 0 4 21 < 1000000000) (S - 1) 1 0 (upd2 a1 49 0 63) 100000 (by omega) (Nat.le_refl _) (by decide) (hG.2.1 rfl).symm (e3.upd 49 0 _ (by omega)) (by
        unfold Dd at e4 ⊢
        rw [u2r (by decide), u2r (by decide), u2r (by decide)]
        exact e4) (fun j hj => by
        have e : j = 0 := by omega
        subst e
        rw [u2s, hG.2.1 rfl]
        rfl) (by omega)
      refine ⟨a2, ?_, (e2.upd _ (sFg_49 d 0)).trans q2, q3, fun _ => q4⟩
      rw [e1, cll_s, nmv_s, nmv_s, ast_s (by decide), nmv_s, ← q1]
      rfl
  · rw [if_pos (show 1000000 ≤ VV sy M Ln 0 4 21 by omega), if_pos rfl]
    exact ⟨a, rfl, Fr.refl _ _, hK, fun z => absurd z hV⟩

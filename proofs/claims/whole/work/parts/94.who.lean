/-! the class's speakers -/
/-- every gap of the reference's is one of the class's -/
theorem pG_ex {p : Nat} (h1 : 1 ≤ p) (h2 : p < 22) : ∃ g, g < 21 ∧ pG g = p := by
  by_cases e : p = 21
  · subst e; exact ⟨0, by decide, rfl⟩
  · exact ⟨p, by omega, pG_n h1⟩
theorem pG_in {g : Nat} (h : g < 21) : 1 ≤ pG g ∧ pG g < 22 := by
  unfold pG
  split <;> omega
def sFs (d k _ : Nat) : Bool := k == d || k == 48 || k == 50
theorem sD_Fs {d : Nat} {a a' : Mm} (h : Fr (sD d) a a') : Fr (sFs d) a a' := h.mono fun k i e => by
  unfold sFs at e
  simp only [Bool.or_eq_false_iff] at e
  exact e.1.1
theorem sFs_48 (d i : Nat) : sFs d 48 i = true := by unfold sFs; cases (48 == d) <;> rfl
theorem sFs_50 (d i : Nat) : sFs d 50 i = true := by unfold sFs; cases (50 == d) <;> rfl
theorem sFs_n {d k i : Nat} (h1 : k ≠ d) (h2 : k ≠ 48) (h3 : k ≠ 50) : sFs d k i = false := by
  unfold sFs
  rw [beq_eq_false_iff_ne.mpr h1, beq_eq_false_iff_ne.mpr h2, beq_eq_false_iff_ne.mpr h3]
  rfl
/-- the row as far as it is found -/
def Sp (a : Mm) (sy : Syf) (Ln : Nat → Nat) (M i : Nat) : Prop := ∀ j, j < i → a 48 j = (wqN sy M Ln j : Int) ∧ isP (a 50 j) (fun g => (Rq sy M Ln (j + 1)).2.2 (pG g) = true) ∧ ∀ g, g < 21 → (Rq sy M Ln (j + 1)).2.2 (pG g) = true → a 46 (wqN sy M Ln j * 21 + g) = 1
/-- one who may go on -/
theorem nx_g {sy : Syf} {Ln : Nat → Nat} {M st l w n : Nat} {A : Nat → Bool} (h0 : 0 < st) (hn : n < 21) : (1 ≤ n ∧ ∃ g', g' < 21 ∧ A (pG g') = true ∧ tT sy M Ln st l (pG g') w n = true) ↔ nx sy M Ln A st l w (pG n) = true := by
  rw [nx_iff]
  unfold gLo gHi
  rw [if_neg (by omega), if_neg (by omega)]
  constructor
  · rintro ⟨z1, g', z2, z3, z4⟩
    obtain ⟨p1, p2⟩ := pG_in z2
    rw [pG_n z1]
    exact ⟨by omega, pG g', p1, p2, z3, z4⟩
  · rintro ⟨z1, p, z2, z3, z4, z5⟩
    have hn1 : 1 ≤ n := by
      by_cases e : n = 0
      · subst e
        rw [show pG 0 = 21 from rfl] at z1
        omega
      · omega
    rw [pG_n hn1] at z5
    obtain ⟨g', g1, g2⟩ := pG_ex z2 z3
    subst g2
    exact ⟨hn1, g', g1, z4, z5⟩
theorem fs106 {K : Int → Int → Int → Mm → Rs} {sy : Syf} {Ln : Nat → Nat} {M d S i : Nat} (hV : VV sy M Ln 0 4 21 < 1000000000) (hi : 1 ≤ i ∧ i < S) : ∀ (k w : Nat) (a : Mm) (f : Nat), w + k = wqN sy M Ln i → KF a sy Ln M d S → Sp a sy Ln M i → isP (a 50 i) (fun n => nx sy M Ln (Rq sy M Ln i).2.2 (Rq sy M Ln i).1 (Rq sy M Ln i).2.1 w (pG n) = true) → k < f → ∃ a', L_X1_findSpeakers_106 K f ((Rq sy M Ln i).2.1 : Int) ((Rq sy M Ln i).1 : Int) (i : Int) (w : Int) a = J_X1_findSpeakers_160 K ((Rq sy M Ln i).1 : Int) (i : Int) (wqN sy M Ln i : Int) a' ∧ Fr (sFs d) a a' ∧ KF a' sy Ln M d S ∧ Sp a' sy Ln M i ∧ isP (a' 50 i) (fun n => nx sy M Ln (Rq sy M Ln i).2.2 (Rq sy M Ln i).1 (Rq sy M Ln i).2.1 (wqN sy M Ln i) (pG n) = true) := by
  intro k
  induction k with
  | zero =>
    intro w a f hw hK hS hP hf
    obtain ⟨f', rfl⟩ : ∃ f', f = f' + 1 := ⟨f - 1, by omega⟩
    have e : w = wqN sy M Ln i := by omega
    subst e
    have hM := hK.1.1.1.1
    have h16 := rsm16 hK.1.1 0
    rw [hK.2.2.2.1] at h16
    obtain ⟨hR, hn⟩ := Rq_i hK.1.1 hV i (by rw [hK.2.2.2.1]; omega)
    obtain ⟨w1, w2, w3⟩ := hn (by rw [hK.2.2.2.1]; omega)
    refine ⟨a, ?_, Fr.refl _ _, hK, hS, hP⟩
    show LB_X1_findSpeakers_106 K (L_X1_findSpeakers_106 K f') _ _ _ _ _ = _
    unfold LB_X1_findSpeakers_106
    rw [hK.1.2.1, wr_s (by omega)]
    by_cases hl : (M : Int) - 1 ≤ (wqN sy M Ln i : Int)
    · rw [if_pos hl]
    · rw [if_neg hl, ald_s (by omega), Int.toNat_natCast, if_pos (fun z => ?_)]
      obtain ⟨g, hg⟩ := gos_iff.mp w2
      have h0 : 0 < (Rq sy M Ln i).1 := by rcases hR.2.2.1 with y | y <;> omega
      have hg2 := (nx_iff.mp hg).1
      unfold gLo gHi at hg2
      rw [if_neg (by omega), if_neg (by omega)] at hg2
      refine hP.z.mp z g hg2.2 ?_
      rw [pG_n hg2.1]
      exact hg
  | succ k ih =>
    intro w a f hw hK hS hP hf
    obtain ⟨f', rfl⟩ : ∃ f', f = f' + 1 := ⟨f - 1, by omega⟩
    have hd := hK.1.d
    have hM := hK.1.1.1.1
    have h16 := rsm16 hK.1.1 0
    have hSS := hK.2.2.2.1
    rw [hSS] at h16
    obtain ⟨hR, hn⟩ := Rq_i hK.1.1 hV i (by rw [hSS]; omega)
    obtain ⟨w1, w2, w3⟩ := hn (by rw [hSS]; omega)
    have h0 : 0 < (Rq sy M Ln i).1 ∧ (Rq sy M Ln i).2.1 < M := by rcases hR.2.2.1 with y | y <;> omega
    have hz : a 50 i = 0 := hP.z.mpr fun n hn hx => by
      have := w3 w (by omega)
      rw [gos_iff.mpr ⟨_, hx⟩] at this
      exact (nomatch this)
    have hl1 : (Rq sy M Ln i).2.1 = wqN sy M Ln (i - 1) := by
      obtain ⟨j, rfl⟩ : ∃ j, i = j + 1 := ⟨i - 1, by omega⟩
      rfl
    obtain ⟨p1, p2, p3⟩ := hS (i - 1) (by omega)
    rw [show i - 1 + 1 = i by omega] at p2 p3
    have hrs := hR.2.1
    rw [hSS] at hrs
    obtain ⟨v, a1, e1, e2, e3, e4⟩ := lossless_s (w := w + 1) (r := S - i - 1) (left := ((S - i : Nat) : Int)) hK hR.1 h0.1 (by omega) (by omega) h0.2 (by omega) p2 (by rw [hl1]; exact p3)
    have hne : Fr (sFs d) a (upd2 a1 50 i v) := (sD_Fs e2).upd _ (sFs_50 d i)
    obtain ⟨a2, q1, q2, q3, q4, q5⟩ := ih (w + 1) (upd2 a1 50 i v) f' (by omega) (e3.upd 50 i v (by omega)) (fun j hj => by
      rw [u2r (by decide), u2n (by omega), u2r (by decide), e2 48 j (sD_n (by omega)), e2 50 j (sD_n (by omega)), e2.row 46 fun _ => sD_n (by omega)]
      exact hS j hj) (by rw [u2s]; exact e4.cong fun n hn => nx_g h0.1 hn) (by omega)
    refine ⟨a2, ?_, hne.trans q2, q3, q4, q5⟩
    show LB_X1_findSpeakers_106 K (L_X1_findSpeakers_106 K f') _ _ _ _ _ = _
    unfold LB_X1_findSpeakers_106
    rw [hK.1.2.1, wr_s (x := (M : Int) - 1) (by omega), if_neg (by omega), ald_s (by omega), Int.toNat_natCast, if_neg (fun z => z hz), wr_s (x := (w : Int) + 1) (by omega), nmv_s, wr_s (x := (i : Int) - 1) (by omega), ald_s (by omega), hK.2.2.1, wr_s (by omega), show ((i : Int) - 1).toNat = i - 1 by omega, show (S : Int) - (i : Int) = ((S - i : Nat) : Int) by omega, show (w : Int) + 1 = ((w + 1 : Nat) : Int) from rfl, e1, cll_s, ast_s (by omega), Int.toNat_natCast]
    exact q1
theorem fs67 {sy : Syf} {Ln : Nat → Nat} {M d S : Nat} (hV : VV sy M Ln 0 4 21 < 1000000000) : ∀ (k i : Nat) (a : Mm) (f : Nat), i + k = S → 1 ≤ i → KF a sy Ln M d S → Sp a sy Ln M i → k < f → ∃ a', L_X1_findSpeakers_67 f ((Rq sy M Ln i).2.1 : Int) ((Rq sy M Ln i).1 : Int) (i : Int) a = some (0, a') ∧ Fr (sFs d) a a' ∧ KF a' sy Ln M d S ∧ Sp a' sy Ln M S := by
  intro k
  induction k with
  | zero =>
    intro i a f hi h1 hK hS hf
    obtain ⟨f', rfl⟩ : ∃ f', f = f' + 1 := ⟨f - 1, by omega⟩
    have e : i = S := by omega
    subst e
    refine ⟨a, ?_, Fr.refl _ _, hK, hS⟩
    show LB_X1_findSpeakers_67 (L_X1_findSpeakers_67 f') _ _ _ _ = _
    unfold LB_X1_findSpeakers_67
    rw [hK.2.2.1, if_pos (Int.le_refl _)]
  | succ k ih =>
    intro i a f hi h1 hK hS hf
    obtain ⟨f', rfl⟩ : ∃ f', f = f' + 1 := ⟨f - 1, by omega⟩
    have hd := hK.1.d
    have hy := hK.1.1
    have hM := hy.1.1
    have h16 := rsm16 hy 0
    have hSS := hK.2.2.2.1
    rw [hSS] at h16
    obtain ⟨hR, hn⟩ := Rq_i hy hV i (by rw [hSS]; omega)
    obtain ⟨w1, w2, w3⟩ := hn (by rw [hSS]; omega)
    have h0 : 0 < (Rq sy M Ln i).1 ∧ (Rq sy M Ln i).2.1 < M := by rcases hR.2.2.1 with y | y <;> omega
    have hl1 : (Rq sy M Ln i).2.1 = wqN sy M Ln (i - 1) := by
      obtain ⟨j, rfl⟩ : ∃ j, i = j + 1 := ⟨i - 1, by omega⟩
      rfl
    obtain ⟨p1, p2, p3⟩ := hS (i - 1) (by omega)
    rw [show i - 1 + 1 = i by omega] at p2 p3
    have hrs := hR.2.1
    rw [hSS] at hrs
    obtain ⟨v, a1, e1, e2, e3, e4⟩ := lossless_s (w := 0) (r := S - i - 1) (left := ((S - i : Nat) : Int)) hK hR.1 h0.1 (by omega) (by omega) h0.2 (by omega) p2 (by rw [hl1]; exact p3)
    have hne : Fr (sFs d) a (upd2 a1 50 i v) := (sD_Fs e2).upd _ (sFs_50 d i)
    obtain ⟨a2, q1, q2, q3, q4, q5⟩ := fs106 (K := L_X1_findSpeakers_67 f') hV ⟨h1, by omega⟩ (wqN sy M Ln i) 0 (upd2 a1 50 i v) 100000 (by omega) (e3.upd 50 i v (by omega)) (fun j hj => by
      rw [u2r (by decide), u2n (by omega), u2r (by decide), e2 48 j (sD_n (by omega)), e2 50 j (sD_n (by omega)), e2.row 46 fun _ => sD_n (by omega)]
      exact hS j hj) (by rw [u2s]; exact e4.cong fun n hn => nx_g h0.1 hn) (by omega)
    -- the new one
    obtain ⟨a3, r1, r2, r3, r4⟩ := ih (i + 1) (upd2 a2 48 i (wqN sy M Ln i : Int)) f' (by omega) (by omega) (q3.upd 48 i _ (by omega)) (fun j hj => by
      rw [u2r (by decide : 50 ≠ 48), u2r (by decide : 46 ≠ 48)]
      by_cases e : j = i
      · subst e
        rw [u2s]
        refine ⟨rfl, ?_, fun g hg hA => ?_⟩
        · rw [Rq_A]; exact q5
        · rw [Rq_A] at hA
          obtain ⟨z1, g', z2, z3, z4⟩ := (nx_g h0.1 hg).mpr hA
          have hl2 : a2 46 ((Rq sy M Ln j).2.1 * 21 + g') = 1 := by
            rw [q2 46 _ (sFs_n (by omega) (by decide) (by decide)), u2r (by decide), e2 46 _ (sD_n (by omega)), hl1]
            exact p3 g' z2 z3
          exact (q3.1.2.2.2.2.2.2 _ g' _ _ h0.2 z2 hl2 w1 hR.1).2 g z1 hg (tT_iff.mp z4).1
      · rw [u2n e]
        exact q4 j (by omega)) (by omega)
    refine ⟨a3, ?_, ((hne.trans q2).upd _ (sFs_48 d i)).trans r2, r3, r4⟩
    show LB_X1_findSpeakers_67 (L_X1_findSpeakers_67 f') _ _ _ _ = _
    unfold LB_X1_findSpeakers_67
    rw [show ((0 : Nat) : Int) = 0 from rfl] at e1 q1
    have hlt := hR.1.1
    have hf125 : fiv (wqN sy M Ln i) ≤ 125 := by unfold fiv; split; omega; split; omega; split <;> omega
    rw [hK.2.2.1, if_neg (by omega), nmv_s, wr_s (x := (i : Int) - 1) (by omega), ald_s (by omega), wr_s (by omega), show ((i : Int) - 1).toNat = i - 1 by omega, show (S : Int) - (i : Int) = ((S - i : Nat) : Int) by omega, e1, cll_s, ast_s (by omega), Int.toNat_natCast, q1]
    unfold J_X1_findSpeakers_160
    rw [ast_s (by omega), onl_s (by omega), nmv_s, nmv_s, nmv_s, wr_s (by omega), wr_s (by omega), Int.toNat_natCast, ← r1, Rq_st sy M Ln i, Rq_l sy M Ln i]
    rfl
/-- who may begin -/
theorem gos_0 {sy : Syf} {Ln : Nat → Nat} {M w : Nat} : gos sy M Ln (Rq sy M Ln 0).2.2 (Rq sy M Ln 0).1 (Rq sy M Ln 0).2.1 w = true ↔ tT sy M Ln 0 4 21 w 21 = true := by
  rw [gos_iff, Rq_0]
  constructor
  · rintro ⟨g, hg⟩
    obtain ⟨r1, p, p1, p2, p3, p4⟩ := nx_iff.mp hg
    have e : p = 21 := beq_iff_eq.mp p3
    have e2 : g = 21 := by
      unfold gLo gHi at r1
      rw [if_pos rfl, if_pos rfl] at r1
      omega
    subst e e2
    exact p4
  · intro h
    exact ⟨21, nx_iff.mpr ⟨⟨by decide, by decide⟩, 21, by decide, by decide, rfl, h⟩⟩
theorem cV_0 {sy : Syf} {Ln : Nat → Nat} {M w : Nat} (hV : VV sy M Ln 0 4 21 < 1000000) : min 1000000 (cV sy M Ln 0 4 21 w 21) = min 1000000 (VV sy M Ln 0 4 21) ↔ tT sy M Ln 0 4 21 w 21 = true := by
  rw [tT_iff, if_pos rfl]
  unfold cV cdV Vc
  generalize VV sy M Ln 0 4 21 = V at *
  generalize hVC : Vm sy M (rsm Ln (0 + fiv w) M 0) (0 + fiv w) w 21 = VC
  have hin := Vm_in sy M (rsm Ln (0 + fiv w) M 0) (0 + fiv w) w 21
  rw [hVC] at hin
  by_cases hc : sy 0 4 21 w 21 = true ∧ VC < 1000000000
  · rw [if_pos hc, if_pos rfl]
    constructor
    · intro z; exact ⟨hc.1, hc.2, by omega⟩
    · rintro ⟨_, _, z⟩; omega
  · rw [if_neg hc]
    constructor
    · intro z; omega
    · rintro ⟨z1, z2, _⟩; exact absurd ⟨z1, z2⟩ hc
theorem VV0_in {sy : Syf} {M : Nat} {Ln : Nat → Nat} (hy : SyL sy M Ln) (hV : VV sy M Ln 0 4 21 < 1000000000) : 0 ≤ VV sy M Ln 0 4 21 ∧ VV sy M Ln 0 4 21 ≤ 320 := by
  by_cases hd : dnB Ln 0 M 0 = true
  · have h1 : VV sy M Ln 0 4 21 = mnW (cV sy M Ln 0 4 21) 21 1 M 0 0 := by
      unfold VV
      rw [hd, if_pos rfl, if_pos rfl, if_pos rfl]
    have h2 := (mnW_le (c := cV sy M Ln 0 4 21) (g0 := 21) (gk := 1) M 0 0).1
    rcases mnW_or (c := cV sy M Ln 0 4 21) (g0 := 21) (gk := 1) M 0 0 with h | ⟨v, g, z1, z2, z3, z4, z5⟩
    · omega
    · have : 0 ≤ cV sy M Ln 0 4 21 v g := by
        unfold cV cdV
        split
        · rcases Vm_in sy M (rsm Ln (0 + fiv v) M 0) (0 + fiv v) v g with y | y
          · split <;> omega
          · split <;> omega
        · decide
      omega
  · obtain ⟨w, g, h1, h2, h3⟩ := tight (Bool.eq_false_iff.mpr hd) hV
    obtain ⟨t1, t2, t3⟩ := tT_iff.mp h3
    unfold gLo gHi at h2
    rw [if_pos rfl, if_pos rfl] at h2
    rw [if_pos (by omega)] at t3
    rcases Vc_in' hy (st := 0) (w := w) (g := g) rfl with y | y <;> omega
theorem fs17 {sy : Syf} {Ln : Nat → Nat} {M d S : Nat} (hV : VV sy M Ln 0 4 21 < 1000000) (hS1 : 1 ≤ S) : ∀ (k w : Nat) (a : Mm) (f : Nat), w + k = wqN sy M Ln 0 → KF a sy Ln M d S → a 43 14 = min 1000000 (VV sy M Ln 0 4 21) → k < f → ∃ a', L_X1_findSpeakers_17 f (w : Int) a = J_X1_findSpeakers_45 (wqN sy M Ln 0 : Int) a' ∧ Fr (sD d) a a' ∧ KF a' sy Ln M d S := by
  intro k
  induction k with
  | zero =>
    intro w a f hw hK hl hf
    obtain ⟨f', rfl⟩ : ∃ f', f = f' + 1 := ⟨f - 1, by omega⟩
    have e : w = wqN sy M Ln 0 := by omega
    subst e
    have hd := hK.1.d
    have hM := hK.1.1.1.1
    obtain ⟨hR, hn⟩ := Rq_i hK.1.1 (by omega) 0 (Nat.zero_le _)
    obtain ⟨w1, w2, w3⟩ := hn (by rw [hK.2.2.2.1]; omega)
    show ∃ a', LB_X1_findSpeakers_17 (L_X1_findSpeakers_17 f') _ _ = _ ∧ _
    unfold LB_X1_findSpeakers_17
    rw [hK.1.2.1, wr_s (by omega)]
    by_cases hm : (M : Int) - 1 ≤ (wqN sy M Ln 0 : Int)
    · rw [if_pos hm]; exact ⟨a, rfl, Fr.refl _ _, hK⟩
    · obtain ⟨a1, e1, e2, e3⟩ := begun_s hK w1
      rw [if_neg hm, e1, cll_s, if_pos (by rw [e2 43 14 (sD_n (by omega)), hl]; exact (cV_0 hV).mpr (gos_0.mp w2))]
      exact ⟨a1, rfl, e2, e3⟩
  | succ k ih =>
    intro w a f hw hK hl hf
    obtain ⟨f', rfl⟩ : ∃ f', f = f' + 1 := ⟨f - 1, by omega⟩
    have hd := hK.1.d
    have hM := hK.1.1.1.1
    obtain ⟨hR, hn⟩ := Rq_i hK.1.1 (by omega) 0 (Nat.zero_le _)
    obtain ⟨w1, w2, w3⟩ := hn (by rw [hK.2.2.2.1]; omega)
    obtain ⟨a1, e1, e2, e3⟩ := begun_s hK (by omega : w < M)
    obtain ⟨a2, g1, g2, g3⟩ := ih (w + 1) a1 f' (by omega) e3 (by rw [e2 43 14 (sD_n (by omega))]; exact hl) (by omega)
    refine ⟨a2, ?_, e2.trans g2, g3⟩
    show LB_X1_findSpeakers_17 (L_X1_findSpeakers_17 f') _ _ = _
    unfold LB_X1_findSpeakers_17
    rw [hK.1.2.1, wr_s (x := (M : Int) - 1) (by omega), if_neg (by omega), e1, cll_s, if_neg (fun z => by
      rw [e2 43 14 (sD_n (by omega)), hl] at z
      have := w3 w (by omega)
      rw [gos_0.mpr ((cV_0 hV).mp z)] at this
      exact (nomatch this)), nmv_s, wr_s (by omega), ← g1]
    rfl
theorem canBe_s {a : Mm} {V : Int} (h : a 43 14 = min 1000000 V) : F_X1_canBe a = some (if 1000000 ≤ V then 0 else 1, a) := by
  unfold F_X1_canBe
  rw [h]
  by_cases c : 1000000 ≤ V
  · rw [if_pos (by omega), if_pos c]
  · rw [if_neg (by omega), if_neg c]
theorem findSpeakers_s {a : Mm} {sy : Syf} {Ln : Nat → Nat} {M d S : Nat} (hK : KF a sy Ln M d S) (hl : a 43 14 = min 1000000 (VV sy M Ln 0 4 21)) : ∃ a', F_X1_findSpeakers a = some (0, a') ∧ Fr (sFs d) a a' ∧ KF a' sy Ln M d S ∧ (VV sy M Ln 0 4 21 < 1000000 → Sp a' sy Ln M S) := by
  have hd := hK.1.d
  have hM := hK.1.1.1.1
  unfold F_X1_findSpeakers
  rw [canBe_s hl, cll_s]
  by_cases hV : VV sy M Ln 0 4 21 < 1000000
  · rw [if_neg (show ¬ 1000000 ≤ VV sy M Ln 0 4 21 by omega), if_neg (by decide), hK.2.2.1]
    by_cases h0 : S = 0
    · rw [if_neg (fun z => z (by omega))]
      exact ⟨a, rfl, Fr.refl _ _, hK, fun _ j hj => by omega⟩
    · rw [if_pos (by omega), nmv_s]
      obtain ⟨a1, e1, e2, e3⟩ := fs17 hV (by omega : 1 ≤ S) (wqN sy M Ln 0) 0 a 100000 (by omega) hK hl (by
        have := ((Rq_i hK.1.1 (by omega) 0 (Nat.zero_le _)).2 (by rw [hK.2.2.2.1]; omega)).1
        omega)
      obtain ⟨hR, hn⟩ := Rq_i hK.1.1 (by omega : VV sy M Ln 0 4 21 < 1000000000) 0 (Nat.zero_le _)
      obtain ⟨w1, w2, w3⟩ := hn (by rw [hK.2.2.2.1]; omega)
      have hR1 := (Rq_i hK.1.1 (by omega : VV sy M Ln 0 4 21 < 1000000000) 1 (by rw [hK.2.2.2.1]; omega)).1
      have i1 : isP 1 (fun n => n = 0) := by
        have h := isP_1 (g := 0) (by decide)
        rw [show ishl 1 ((0 : Nat) : Int) = 1 by decide] at h
        exact h
      have z1 : (Rq sy M Ln 1).1 = fiv (wqN sy M Ln 0) := (Rq_st sy M Ln 0).trans (by rw [Rq_0]; exact Nat.zero_add _)
      have z2 : (Rq sy M Ln 1).2.1 = wqN sy M Ln 0 := Rq_l sy M Ln 0
      have h46 : a1 46 (wqN sy M Ln 0 * 21) = 1 := (e3.2.2.2.2 _ w1).mpr (tT_iff.mp (gos_0.mp w2)).1
      obtain ⟨a2, g1, g2, g3, g4⟩ := fs67 (sy := sy) (Ln := Ln) (M := M) (d := d) (S := S) (by omega) (S - 1) 1 (upd2 (upd2 a1 48 0 (wqN sy M Ln 0 : Int)) 50 0 1) 100000 (by omega) (Nat.le_refl _) ((e3.upd 48 0 _ (by omega)).upd 50 0 _ (by omega)) (fun j hj => by
        have e : j = 0 := by omega
        subst e
        rw [u2r (by decide : 48 ≠ 50), u2s, u2s, u2r (by decide), u2r (by decide)]
        refine ⟨rfl, i1.cong fun n hn => ?_, fun g hg hA => ?_⟩
        · constructor
          · intro z
            subst z
            obtain ⟨p, hp⟩ := hR1.2.2.2.1
            have := (Rq_1 hp).1
            subst this
            exact hp
          · intro z
            have := (Rq_1 z).1
            unfold pG at this
            by_cases c : n = 0
            · exact c
            · rw [if_neg c] at this; omega
        · have := (Rq_1 hA).1
          have hg0 : g = 0 := by
            unfold pG at this
            by_cases c : g = 0
            · exact c
            · rw [if_neg c] at this; omega
          subst hg0
          exact h46) (by have := rsm16 hK.1.1 0; rw [hK.2.2.2.1] at this; omega)
      refine ⟨a2, ?_, ((((sD_Fs e2).upd _ (sFs_48 d 0)).upd _ (sFs_50 d 0)).trans g2), g3, fun _ => g4⟩
      rw [show ((0 : Nat) : Int) = 0 from rfl] at e1
      rw [e1]
      unfold J_X1_findSpeakers_45
      rw [z1, z2] at g1
      rw [ast_s (by decide), ast_s (by decide), onl_s (by omega), nmv_s, nmv_s, ← g1]
      rfl
  · rw [if_pos (show 1000000 ≤ VV sy M Ln 0 4 21 by omega), if_pos rfl]
    exact ⟨a, rfl, Fr.refl _ _, hK, fun z => absurd z hV⟩

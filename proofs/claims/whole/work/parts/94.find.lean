/-! the class's least, and the gaps by which no breath is lost -/
def KF (a : Mm) (sy : Syf) (Ln : Nat → Nat) (M d S : Nat) : Prop := KS a sy Ln M d ∧ CI a sy Ln M d ∧ a 43 12 = (S : Int) ∧ rsm Ln 0 M 0 = S ∧ ∀ w, w < M → (a 46 (w * 21) = 1 ↔ sy 0 4 21 w 21 = true)
theorem KF.same {a a' : Mm} {sy : Syf} {Ln : Nat → Nat} {M d S : Nat} (h : KF a sy Ln M d S) (hC : CI a' sy Ln M d) (h0 : a' 0 = a 0) (h11 : a' 43 11 = a 43 11) (h9 : a' 43 9 = a 43 9) (h12 : a' 43 12 = a 43 12) (h45 : a' 45 = a 45) (h46 : a' 46 = a 46) : KF a' sy Ln M d S := by
  obtain ⟨k1, k2, k3, k4, k5⟩ := h
  exact ⟨k1.same h0 h11 h9 h45 h46, hC, h12.trans k3, k4, by rw [h46]; exact k5⟩
theorem KF.fr {a a' : Mm} {sy : Syf} {Ln : Nat → Nat} {M d S : Nat} (h : KF a sy Ln M d S) (f : Fr (sD d) a a') (hC : CI a' sy Ln M d) : KF a' sy Ln M d S := by
  have hd := h.1.d
  exact h.same hC (f.row 0 fun _ => sD_n (by omega)) (f 43 11 (sD_n (by omega))) (f 43 9 (sD_n (by omega))) (f 43 12 (sD_n (by omega))) (f.row 45 fun _ => sD_n (by omega)) (f.row 46 fun _ => sD_n (by omega))
theorem CI.same {a a' : Mm} {sy : Syf} {Ln : Nat → Nat} {M d : Nat} (h : CI a sy Ln M d) (hd : a' d = a d) (h46 : a' 46 = a 46) : CI a' sy Ln M d := by
  unfold CI
  rw [hd, h46]
  exact h
/-- a place that the least breaths don't look at -/
theorem KF.upd {a : Mm} {sy : Syf} {Ln : Nat → Nat} {M d S : Nat} (h : KF a sy Ln M d S) (k i : Nat) (v : Int) (hk : (k = 43 ∧ i = 14) ∨ k = 48 ∨ k = 49 ∨ k = 50) : KF (upd2 a k i v) sy Ln M d S := by
  have hd := h.1.d
  have e : ∀ j, j ≠ 14 → upd2 a k i v 43 j = a 43 j := fun j hj => by
    by_cases c : k = 43
    · subst c
      rw [u2n (by omega)]
    · rw [u2r (fun z => c z.symm)]
  exact h.same (h.2.1.same (u2r (by omega)) (u2r (by omega))) (u2r (by omega)) (e 11 (by decide)) (e 9 (by decide)) (e 12 (by decide)) (u2r (by omega)) (u2r (by omega))
theorem begun_s {a : Mm} {sy : Syf} {Ln : Nat → Nat} {M d S w : Nat} (h : KF a sy Ln M d S) (hw : w < M) : ∃ a', F_X1_costBegunBy (w : Int) a = some (min 1000000 (cV sy M Ln 0 4 21 w 21), a') ∧ Fr (sD d) a a' ∧ KF a' sy Ln M d S := by
  obtain ⟨hK, hC, h12, hS, h46⟩ := id h
  have hM := hK.1.1.1
  have h16 := rsm16 hK.1 0
  unfold F_X1_costBegunBy
  rw [wr_s (by omega), ald_s (by omega), show ((w : Int) * 21).toNat = w * 21 by omega]
  cases hs : sy 0 4 21 w 21 with
  | false =>
    have h0 : a 46 (w * 21) = 0 := by
      rcases hK.2.2.2.2.2.1 (w * 21) (by omega) with z | z
      · exact z
      · rw [(h46 w hw).mp z] at hs; exact (nomatch hs)
    rw [h0, if_pos rfl]
    refine ⟨a, ?_, Fr.refl _ _, h⟩
    have : cV sy M Ln 0 4 21 w 21 = 1000000000 := by
      unfold cV cdV
      rw [hs, if_neg (fun z => (nomatch z.1))]
    rw [this]
    rfl
  | true =>
    have h1 : a 46 (w * 21) = 1 := (h46 w hw).mpr hs
    obtain ⟨s1, s2⟩ := isSt_add hM hK.1.1.2 isSt0 hw (hK.1.2 _ _ _ _ _ hw hs)
    rw [Nat.zero_add] at s1 s2
    have hp := fiv_pos w
    obtain ⟨a1, e1, e2, e3⟩ := cost_s (r := S - 1) hK hC hp s1 hw (by decide : 0 < 21) h1 (by omega)
    rw [h1, if_neg (by decide), onl_s (by omega), h12, wr_s (by omega), show (S : Int) - 1 = ((S - 1 : Nat) : Int) by omega, show (0 : Int) = ((0 : Nat) : Int) from rfl, e1, cll_s]
    refine ⟨a1, ?_, e2, h.fr e2 e3⟩
    have : cV sy M Ln 0 4 21 w 21 = VV sy M Ln (fiv w) w (pG 0) := by
      rw [VV_eq hK.1 s1 (by omega)]
      unfold cV cdV
      rw [hs, Nat.zero_add, if_pos rfl, show pG 0 = 21 from rfl]
      rcases Vm_in sy M (rsm Ln (fiv w) M 0) (fiv w) w 21 with v | v
      · rw [v, if_neg (fun z => absurd z.2 (by decide))]
      · rw [if_pos ⟨rfl, by omega⟩, Int.zero_add]
    rw [this]
def sFl (d k i : Nat) : Bool := k == d || (k == 43 && i == 14)
theorem sFl_14 (d : Nat) : sFl d 43 14 = true := by unfold sFl; cases (43 == d) <;> rfl
theorem sD_Fl {d : Nat} {a a' : Mm} (h : Fr (sD d) a a') : Fr (sFl d) a a' := h.mono fun k i e => by
  unfold sFl at e
  exact (Bool.or_eq_false_iff.mp e).1
theorem mnW_1 (c : Nat → Nat → Int) (k w : Nat) (acc : Int) : mnW c 21 1 (k + 1) w acc = mnW c 21 1 k (w + 1) (min acc (c w 21)) := Eq.trans rfl rfl
theorem fl19 {sy : Syf} {Ln : Nat → Nat} {M d S : Nat} : ∀ (k w : Nat) (acc : Int) (a : Mm) (f : Nat), w + k = M → KF a sy Ln M d S → a 43 14 = min 1000000 acc → k < f → ∃ a', L_X1_findLeast_19 f (w : Int) a = some (0, a') ∧ Fr (sFl d) a a' ∧ KF a' sy Ln M d S ∧ a' 43 14 = min 1000000 (mnW (cV sy M Ln 0 4 21) 21 1 k w acc) := by
  intro k
  induction k with
  | zero =>
    intro w acc a f hw hK hl hf
    obtain ⟨f', rfl⟩ : ∃ f', f = f' + 1 := ⟨f - 1, by omega⟩
    refine ⟨a, ?_, Fr.refl _ _, hK, hl⟩
    show LB_X1_findLeast_19 (L_X1_findLeast_19 f') _ _ = _
    unfold LB_X1_findLeast_19
    rw [if_pos (by rw [hK.1.2.1]; omega)]
  | succ k ih =>
    intro w acc a f hw hK hl hf
    obtain ⟨f', rfl⟩ : ∃ f', f = f' + 1 := ⟨f - 1, by omega⟩
    have hd := hK.1.d
    have hM := hK.1.1.1.1
    obtain ⟨a1, e1, e2, e3⟩ := begun_s hK (by omega : w < M)
    obtain ⟨a2, g1, g2, g3, g4⟩ := ih (w + 1) (min acc (cV sy M Ln 0 4 21 w 21)) (upd2 a1 43 14 (min (a 43 14) (min 1000000 (cV sy M Ln 0 4 21 w 21)))) f' (by omega) (e3.upd 43 14 _ (Or.inl ⟨rfl, rfl⟩)) (by rw [u2s, hl]; omega) (by omega)
    refine ⟨a2, ?_, ((sD_Fl e2).upd _ (sFl_14 d)).trans g2, g3, ?_⟩
    · show LB_X1_findLeast_19 (L_X1_findLeast_19 f') _ _ = _
      unfold LB_X1_findLeast_19
      rw [if_neg (by rw [hK.1.2.1]; omega), e1, cll_s, min_s, cll_s, stf_s, nmv_s, wr_s (by omega), ← g1]
      rfl
    · rw [mnW_1]; exact g4
theorem findLeast_s {a : Mm} {sy : Syf} {Ln : Nat → Nat} {M d S : Nat} (h : KF a sy Ln M d S) : ∃ a', F_X1_findLeast a = some (0, a') ∧ Fr (sFl d) a a' ∧ KF a' sy Ln M d S ∧ a' 43 14 = min 1000000 (VV sy M Ln 0 4 21) := by
  have hM := h.1.1.1.1
  have hS := h.2.2.2.1
  have hd : dnB Ln 0 M 0 = true ↔ S = 0 := by rw [rsm_d h.1.1 isSt0, hS]
  have hV : VV sy M Ln 0 4 21 = mnW (cV sy M Ln 0 4 21) 21 1 M 0 (if dnB Ln 0 M 0 = true then 0 else 1000000000) := by
    unfold VV
    rw [if_pos rfl, if_pos rfl]
  have go : ∀ acc v : Int, v = min 1000000 acc → ∃ a', J_X1_findLeast_17 (upd2 a 43 14 v) = some (0, a') ∧ Fr (sFl d) a a' ∧ KF a' sy Ln M d S ∧ a' 43 14 = min 1000000 (mnW (cV sy M Ln 0 4 21) 21 1 M 0 acc) := by
    intro acc v hv
    obtain ⟨a1, e1, e2, e3, e4⟩ := fl19 M 0 acc (upd2 a 43 14 v) 100000 (by omega) (h.upd 43 14 _ (Or.inl ⟨rfl, rfl⟩)) (by rw [u2s]; exact hv) (by omega)
    refine ⟨a1, ?_, Fr.trans ((Fr.refl _ _).upd _ (sFl_14 d)) e2, e3, e4⟩
    unfold J_X1_findLeast_17
    rw [nmv_s, ← e1]
    rfl
  unfold F_X1_findLeast
  rw [hV, h.2.2.1]
  by_cases h0 : S = 0
  · rw [if_neg (fun z => z (by omega)), stf_s, if_pos (hd.mpr h0)]
    exact go 0 0 (by decide)
  · rw [if_pos (by omega), stf_s, if_neg (fun z => h0 (hd.mp z))]
    exact go 1000000000 1000000 (by decide)
/-! sets of gaps by what is in them -/
def isP (v : Int) (P : Nat → Prop) : Prop := ∃ F, isB v F ∧ ∀ n, n < 21 → (F n = true ↔ P n)
theorem isP.cong {v : Int} {P Q : Nat → Prop} (h : isP v P) (e : ∀ n, n < 21 → (P n ↔ Q n)) : isP v Q := by
  obtain ⟨F, h1, h2⟩ := h
  exact ⟨F, h1, fun n hn => (h2 n hn).trans (e n hn)⟩
theorem isP_0 : isP 0 (fun _ => False) := ⟨_, isB_0, fun n _ => ⟨fun z => (nomatch z), fun z => z.elim⟩⟩
theorem isP_1 {g : Nat} (hg : g < 21) : isP (ishl 1 (g : Int)) (fun n => n = g) := ⟨_, isB_1 hg, fun n _ => decide_eq_true_iff⟩
theorem isP.or {u v : Int} {P Q : Nat → Prop} (hu : isP u P) (hv : isP v Q) : isP (ior u v) (fun n => P n ∨ Q n) := by
  obtain ⟨F, h1, h2⟩ := hu
  obtain ⟨F', h3, h4⟩ := hv
  exact ⟨_, h1.or h3, fun n hn => by rw [Bool.or_eq_true, h2 n hn, h4 n hn]⟩
theorem isP.and {u v : Int} {P Q : Nat → Prop} (hu : isP u P) (hv : isP v Q) : isP (iand u v) (fun n => P n ∧ Q n) := by
  obtain ⟨F, h1, h2⟩ := hu
  obtain ⟨F', h3, h4⟩ := hv
  exact ⟨_, h1.and h3, fun n hn => by rw [Bool.and_eq_true, h2 n hn, h4 n hn]⟩
theorem isP.z {v : Int} {P : Nat → Prop} (h : isP v P) : v = 0 ↔ ∀ n, n < 21 → ¬ P n := by
  obtain ⟨F, h1, h2⟩ := h
  rw [h1.z]
  exact ⟨fun z n hn p => by have hp := (h2 n hn).mpr p; rw [z n hn] at hp; exact (nomatch hp), fun z n hn => by
    cases hF : F n with
    | false => rfl
    | true => exact absurd ((h2 n hn).mp hF) (z n hn)⟩
theorem isP.bit {v : Int} {P : Nat → Prop} (h : isP v P) {n : Nat} (hn : n < 21) : (bit v n = 0 ∧ ¬ P n) ∨ (bit v n = 1 ∧ P n) := by
  obtain ⟨F, h1, h2⟩ := h
  rw [h1.bit hn]
  cases hF : F n with
  | false => exact Or.inl ⟨rfl, fun p => by rw [(h2 n hn).mpr p] at hF; exact (nomatch hF)⟩
  | true => exact Or.inr ⟨rfl, (h2 n hn).mp hF⟩
theorem isP.ntz {v : Int} {P : Nat → Prop} (h : isP v P) {g : Nat} (hg : g < 21) (h1 : P g) (h0 : ∀ j, j < g → ¬ P j) (m : Mm) : F_J6_numberOfTrailingZeros_0f7a4 v m = some ((g : Int), m) := by
  obtain ⟨F, b1, b2⟩ := h
  exact ntz_s b1 hg ((b2 g hg).mpr h1) (fun j hj => by
    cases hF : F j with
    | false => rfl
    | true => exact absurd ((b2 j (by omega)).mp hF) (h0 j hj)) m
/-! lossless gaps -/
theorem Vc_in' {sy : Syf} {M : Nat} {Ln : Nat → Nat} (hy : SyL sy M Ln) {st w g r : Nat} (hr : rsm Ln (st + fiv w) M 0 = r) : Vc sy M Ln st w g = 1000000000 ∨ ((r : Int) ≤ Vc sy M Ln st w g ∧ Vc sy M Ln st w g ≤ 320) := by
  have h16 := rsm16 hy (st + fiv w)
  unfold Vc
  rw [hr]
  rcases Vm_in sy M r (st + fiv w) w g with h | h
  · exact Or.inl h
  · exact Or.inr ⟨h.1, by omega⟩
theorem lg55 {K : Int → Int → Int → Int → Int → Int → Int → Mm → Rs} {sy : Syf} {Ln : Nat → Nat} {M d S st l w g r : Nat} {beh fit : Int} (hst : isSt Ln M st) (h0 : 0 < st) (hr : rsm Ln st M 0 = r + 1) (hl : l < M) (hw : w < M) (hg : g < 21) (hfit : isB fit (fun n => decide (1 ≤ n) && sy st l (pG g) w n)) (P0 : Nat → Prop) : ∀ (k n : Nat) (found : Int) (a : Mm) (f : Nat), n + k = 21 → 1 ≤ n → KF a sy Ln M d S → a 46 (l * 21 + g) = 1 → isP found (fun n' => P0 n' ∨ (1 ≤ n' ∧ n' < n ∧ tT sy M Ln st l (pG g) w n' = true)) → k < f → ∃ v a', L_X1_losslessGaps_55 K f beh (st : Int) (l : Int) (w : Int) ((r + 1 : Nat) : Int) found (g : Int) (min 1000000 (VV sy M Ln st l (pG g))) fit (n : Int) a = K beh (st : Int) (l : Int) (w : Int) ((r + 1 : Nat) : Int) v ((g + 1 : Nat) : Int) a' ∧ Fr (sD d) a a' ∧ KF a' sy Ln M d S ∧ isP v (fun n' => P0 n' ∨ (1 ≤ n' ∧ n' < 21 ∧ tT sy M Ln st l (pG g) w n' = true)) := by
  intro k
  induction k with
  | zero =>
    intro n found a f hn h1 hK h46 hP hf
    obtain ⟨f', rfl⟩ : ∃ f', f = f' + 1 := ⟨f - 1, by omega⟩
    have e : n = 21 := by omega
    subst e
    refine ⟨found, a, ?_, Fr.refl _ _, hK, hP⟩
    show LB_X1_losslessGaps_55 K (L_X1_losslessGaps_55 K f') _ _ _ _ _ _ _ _ _ _ _ = _
    unfold LB_X1_losslessGaps_55 J_X1_losslessGaps_139
    rw [if_pos (by decide), nmv_s, wr_s (by omega)]
    rfl
  | succ k ih =>
    intro n found a f hn h1 hK h46 hP hf
    obtain ⟨f', rfl⟩ : ∃ f', f = f' + 1 := ⟨f - 1, by omega⟩
    have hy := hK.1.1
    have hM := hy.1.1
    have h16 := rsm16 hy st
    have hVe := VV_eq hy (l := l) (p := pG g) hst (by omega)
    have hVin := Vm_in sy M (rsm Ln st M 0) st l (pG g)
    rw [← hVe, hr] at hVin
    generalize hV : VV sy M Ln st l (pG g) = V at *
    show ∃ v a', LB_X1_losslessGaps_55 K (L_X1_losslessGaps_55 K f') _ _ _ _ _ _ _ _ _ _ _ = _ ∧ _
    unfold LB_X1_losslessGaps_55
    rw [if_neg (by omega), wr_s (x := (n : Int) + ((r + 1 : Nat) : Int)) (by omega), wr_s (by omega)]
    by_cases hp : min 1000000 V < (n : Int) + ((r + 1 : Nat) : Int) - 1
    · rw [if_pos hp]
      unfold J_X1_losslessGaps_139
      rw [nmv_s, wr_s (by omega)]
      refine ⟨found, a, rfl, Fr.refl _ _, hK, hP.cong fun n' hn' => ?_⟩
      constructor
      · rintro (z | ⟨z1, z2, z3⟩)
        · exact Or.inl z
        · exact Or.inr ⟨z1, hn', z3⟩
      · rintro (z | ⟨z1, z2, z3⟩)
        · exact Or.inl z
        · refine Or.inr ⟨z1, ?_, z3⟩
          obtain ⟨t1, t2, t3⟩ := tT_iff.mp z3
          obtain ⟨s1, s2⟩ := isSt_add hM hy.1.2 hst hw (hy.2 _ _ _ _ _ hw t1)
          rw [if_neg (by omega), hV] at t3
          have hin := Vc_in' hy (g := n') (show rsm Ln (st + fiv w) M 0 = r by omega)
          generalize Vc sy M Ln st w n' = VC at *
          omega
    · rw [if_neg hp, show iand (ishr fit (n : Int)) 1 = b01 (decide (1 ≤ n) && sy st l (pG g) w n) from hfit.bit (by omega), decide_eq_true h1, Bool.true_and]
      have hstep : ∀ a1 found1, Fr (sD d) a a1 → KF a1 sy Ln M d S → isP found1 (fun n' => P0 n' ∨ (1 ≤ n' ∧ n' < n + 1 ∧ tT sy M Ln st l (pG g) w n' = true)) → ∃ v a', J_X1_losslessGaps_133 K (L_X1_losslessGaps_55 K f') beh (st : Int) (l : Int) (w : Int) ((r + 1 : Nat) : Int) found1 (g : Int) (min 1000000 V) fit (n : Int) a1 = K beh (st : Int) (l : Int) (w : Int) ((r + 1 : Nat) : Int) v ((g + 1 : Nat) : Int) a' ∧ Fr (sD d) a a' ∧ KF a' sy Ln M d S ∧ isP v (fun n' => P0 n' ∨ (1 ≤ n' ∧ n' < 21 ∧ tT sy M Ln st l (pG g) w n' = true)) := by
        intro a1 found1 g1 g2 g3
        have hd := hK.1.d
        obtain ⟨v, a2, e1, e2, e3⟩ := ih (n + 1) found1 a1 f' (by omega) (by omega) g2 (by rw [g1 46 _ (sD_n (by omega))]; exact h46) g3 (by omega)
        refine ⟨v, a2, ?_, g1.trans e2, e3⟩
        unfold J_X1_losslessGaps_133
        rw [nmv_s, wr_s (by omega)]
        exact e1
      have hno : ∀ found1, found1 = found → tT sy M Ln st l (pG g) w n = false → isP found1 (fun n' => P0 n' ∨ (1 ≤ n' ∧ n' < n + 1 ∧ tT sy M Ln st l (pG g) w n' = true)) := by
        intro found1 e ht
        subst e
        refine hP.cong fun n' hn' => ?_
        constructor
        · rintro (z | ⟨z1, z2, z3⟩)
          · exact Or.inl z
          · exact Or.inr ⟨z1, by omega, z3⟩
        · rintro (z | ⟨z1, z2, z3⟩)
          · exact Or.inl z
          · refine Or.inr ⟨z1, ?_, z3⟩
            by_cases e : n' = n
            · subst e; rw [ht] at z3; exact (nomatch z3)
            · omega
      cases hs : sy st l (pG g) w n with
      | false =>
        rw [show b01 false = 0 from rfl, if_pos rfl, nmv_s]
        unfold J_X1_losslessGaps_91
        rw [if_pos rfl]
        refine hstep a found (Fr.refl _ _) hK (hno found rfl ?_)
        unfold tT
        rw [hs, Bool.false_and]
      | true =>
        rw [show b01 true = 1 from rfl, if_neg (by decide), nmv_s]
        unfold J_X1_losslessGaps_91
        rw [if_neg (by decide), onl_s (by omega)]
        obtain ⟨s1, s2⟩ := isSt_add hM hy.1.2 hst hw (hy.2 _ _ _ _ _ hw hs)
        have hst' := s1.1
        have hfp := fiv_pos w
        rw [wr_s (by omega), wr_s (by omega), show (st : Int) + (fiv w : Int) = ((st + fiv w : Nat) : Int) from rfl, show ((r + 1 : Nat) : Int) - 1 = (r : Int) by omega]
        obtain ⟨a1, d1, d2, d3⟩ := cost_s (r := r) (g := n) hK.1 hK.2.1 (by omega : 0 < st + fiv w) s1 hw (by omega) ((hK.1.2.2.2.2.2.2 l g w st hl hg h46 hw hst).2 n h1 (by omega) hs) (by omega)
        have hin := Vc_in' hy (g := n) (show rsm Ln (st + fiv w) M 0 = r by omega)
        have hVc : VV sy M Ln (st + fiv w) w (pG n) = Vc sy M Ln st w n := by
          rw [VV_eq hy s1 (by omega), pG_n h1]
          rfl
        rw [hVc] at d1
        rw [d1, cll_s]
        have hT : tT sy M Ln st l (pG g) w n = true ↔ (n : Int) + min 1000000 (Vc sy M Ln st w n) = min 1000000 V := by
          rw [tT_iff, if_neg (by omega : ¬ n = 21), hV]
          generalize Vc sy M Ln st w n = VC at *
          constructor
          · rintro ⟨_, z1, z2⟩; omega
          · intro z; exact ⟨hs, by omega, by omega⟩
        rw [wr_s (by generalize Vc sy M Ln st w n = VC at *; omega)]
        by_cases ht : (n : Int) + min 1000000 (Vc sy M Ln st w n) = min 1000000 V
        · rw [if_neg (fun z => z ht), nmv_s]
          refine hstep a1 _ d2 (hK.fr d2 d3) ((hP.or (isP_1 (by omega : n < 21))).cong fun n' hn' => ?_)
          constructor
          · rintro ((z | ⟨z1, z2, z3⟩) | z)
            · exact Or.inl z
            · exact Or.inr ⟨z1, by omega, z3⟩
            · subst z
              exact Or.inr ⟨h1, by omega, hT.mpr ht⟩
          · rintro (z | ⟨z1, z2, z3⟩)
            · exact Or.inl (Or.inl z)
            · by_cases e : n' = n
              · exact Or.inr e
              · exact Or.inl (Or.inr ⟨z1, by omega, z3⟩)
        · rw [if_pos ht]
          refine hstep a1 found d2 (hK.fr d2 d3) (hno found rfl ?_)
          cases hb : tT sy M Ln st l (pG g) w n with
          | false => rfl
          | true => exact absurd (hT.mp hb) ht
theorem lg6 {sy : Syf} {Ln : Nat → Nat} {M d S st l w r : Nat} {beh : Int} {P : Nat → Prop} (hst : isSt Ln M st) (h0 : 0 < st) (hr : rsm Ln st M 0 = r + 1) (hl : l < M) (hw : w < M) (hb : isP beh P) : ∀ (k g : Nat) (found : Int) (a : Mm) (f : Nat), g + k = 21 → KF a sy Ln M d S → (∀ g, g < 21 → P g → a 46 (l * 21 + g) = 1) → isP found (fun n => 1 ≤ n ∧ ∃ g', g' < g ∧ P g' ∧ tT sy M Ln st l (pG g') w n = true) → k < f → ∃ v a', L_X1_losslessGaps_6 f beh (st : Int) (l : Int) (w : Int) ((r + 1 : Nat) : Int) found (g : Int) a = some (v, a') ∧ Fr (sD d) a a' ∧ KF a' sy Ln M d S ∧ isP v (fun n => 1 ≤ n ∧ ∃ g', g' < 21 ∧ P g' ∧ tT sy M Ln st l (pG g') w n = true) := by
  intro k
  induction k with
  | zero =>
    intro g found a f hg hK h46 hP hf
    obtain ⟨f', rfl⟩ : ∃ f', f = f' + 1 := ⟨f - 1, by omega⟩
    have e : g = 21 := by omega
    subst e
    refine ⟨found, a, ?_, Fr.refl _ _, hK, hP⟩
    show LB_X1_losslessGaps_6 (L_X1_losslessGaps_6 f') _ _ _ _ _ _ _ _ = _
    unfold LB_X1_losslessGaps_6
    rw [if_pos (by decide)]
  | succ k ih =>
    intro g found a f hg hK h46 hP hf
    obtain ⟨f', rfl⟩ : ∃ f', f = f' + 1 := ⟨f - 1, by omega⟩
    have hd := hK.1.d
    show ∃ v a', LB_X1_losslessGaps_6 (L_X1_losslessGaps_6 f') _ _ _ _ _ _ _ _ = _ ∧ _
    unfold LB_X1_losslessGaps_6
    rw [if_neg (by omega)]
    rcases hb.bit (by omega : g < 21) with ⟨b1, b2⟩ | ⟨b1, b2⟩
    · rw [show iand (ishr beh (g : Int)) 1 = 0 from b1, if_pos rfl]
      unfold J_X1_losslessGaps_139
      rw [nmv_s, wr_s (by omega)]
      refine ih (g + 1) found a f' (by omega) hK h46 (hP.cong fun n hn => ?_) (by omega)
      constructor
      · rintro ⟨z1, g', z2, z3, z4⟩
        exact ⟨z1, g', by omega, z3, z4⟩
      · rintro ⟨z1, g', z2, z3, z4⟩
        refine ⟨z1, g', ?_, z3, z4⟩
        by_cases e : g' = g
        · subst e; exact absurd z3 b2
        · omega
    · rw [show iand (ishr beh (g : Int)) 1 = 1 from b1, if_neg (by decide)]
      have hg1 := h46 g (by omega) b2
      obtain ⟨a1, d1, d2, d3⟩ := cost_s hK.1 hK.2.1 h0 hst hl (by omega : g < 21) hg1 hr
      have hK1 := hK.fr d2 d3
      have hg2 : a1 46 (l * 21 + g) = 1 := by rw [d2 46 _ (sD_n (by omega))]; exact hg1
      obtain ⟨v, v1, v2, v3⟩ := fits_s hK1.1 hl (by omega : g < 21) hg2 hw hst
      rw [d1, cll_s, nmv_s, v1, cll_s, v2, cll_s, nmv_s, nmv_s]
      obtain ⟨v', a2, e1, e2, e3, e4⟩ := lg55 (K := L_X1_losslessGaps_6 f') (beh := beh) hst h0 hr hl hw (by omega : g < 21) v3 (fun n => 1 ≤ n ∧ ∃ g', g' < g ∧ P g' ∧ tT sy M Ln st l (pG g') w n = true) 20 1 found a1 100000 rfl (Nat.le_refl _) hK1 hg2 (hP.cong fun n hn => ⟨Or.inl, fun z => by
        rcases z with z | ⟨z1, z2, _⟩
        · exact z
        · omega⟩) (by decide)
      obtain ⟨v'', a3, q1, q2, q3, q4⟩ := ih (g + 1) v' a2 f' (by omega) e3 (fun g' h1 h2 => by rw [e2 46 _ (sD_n (by omega)), d2 46 _ (sD_n (by omega))]; exact h46 g' h1 h2) (e4.cong fun n hn => by
        constructor
        · rintro (⟨z1, g', z2, z3, z4⟩ | ⟨z1, z2, z3⟩)
          · exact ⟨z1, g', by omega, z3, z4⟩
          · exact ⟨z1, g, by omega, b2, z3⟩
        · rintro ⟨z1, g', z2, z3, z4⟩
          by_cases e : g' = g
          · subst e; exact Or.inr ⟨z1, hn, z4⟩
          · exact Or.inl ⟨z1, g', by omega, z3, z4⟩) (by omega)
      refine ⟨v'', a3, ?_, (d2.trans e2).trans q2, q3, q4⟩
      rw [← q1]
      exact e1
theorem lossless_s {a : Mm} {sy : Syf} {Ln : Nat → Nat} {M d S st l w r : Nat} {beh left : Int} {P : Nat → Prop} (hK : KF a sy Ln M d S) (hst : isSt Ln M st) (h0 : 0 < st) (hr : rsm Ln st M 0 = r + 1) (hle : left = ((r + 1 : Nat) : Int)) (hl : l < M) (hw : w < M) (hb : isP beh P) (h46 : ∀ g, g < 21 → P g → a 46 (l * 21 + g) = 1) : ∃ v a', F_X1_losslessGaps beh (st : Int) (l : Int) (w : Int) left a = some (v, a') ∧ Fr (sD d) a a' ∧ KF a' sy Ln M d S ∧ isP v (fun n => 1 ≤ n ∧ ∃ g', g' < 21 ∧ P g' ∧ tT sy M Ln st l (pG g') w n = true) := by
  obtain ⟨v, a1, e1, e2, e3, e4⟩ := lg6 hst h0 hr hl hw hb 21 0 0 a 100000 rfl hK h46 (isP_0.cong fun n _ => ⟨fun z => z.elim, fun ⟨_, g', z, _⟩ => absurd z (Nat.not_lt_zero _)⟩) (by decide)
  refine ⟨v, a1, ?_, e2, e3, e4⟩
  unfold F_X1_losslessGaps
  rw [nmv_s, nmv_s, hle, ← e1]
  rfl

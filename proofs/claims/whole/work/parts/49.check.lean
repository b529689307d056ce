/-! check -/
theorem num4 (x0 x1 x2 x3 : Int) : ior (ior (ior (ishl x0 24) (ishl x1 16)) (ishl x2 8)) x3 = ior (ishl (ior (ishl (ior (ishl (ior (ishl 0 8) x0) 8) x1) 8) x2) 8) x3 := by
  have key : ∀ X0 X1 X2 X3 : Int32, (((X0 <<< (nI 24 &&& 31)) ||| (X1 <<< (nI 16 &&& 31))) ||| (X2 <<< (nI 8 &&& 31))) ||| X3 = (((((0 <<< (nI 8 &&& 31)) ||| X0) <<< (nI 8 &&& 31) ||| X1) <<< (nI 8 &&& 31) ||| X2) <<< (nI 8 &&& 31)) ||| X3 := by
    intro X0 X1 X2 X3
    apply b_ext
    intro i hi
    rw [b_or, b_or, b_or, b_shl 24 (by decide) _ hi, b_shl 16 (by decide) _ hi, b_shl 8 (by decide) _ hi, b_or, b_shl 8 (by decide) _ hi, b_or, b_shl 8 (by decide) _ (show i - 8 < 32 by omega), b_or, b_shl 8 (by decide) _ (show i - 8 - 8 < 32 by omega), b_or, b_shl 8 (by decide) _ (show i - 8 - 8 - 8 < 32 by omega), b_0]
    rw [show i - 8 - 8 - 8 = i - 24 by omega, show i - 8 - 8 = i - 16 by omega]
    by_cases h1 : 8 ≤ i
    · by_cases h2 : 16 ≤ i
      · by_cases h3 : 24 ≤ i
        · simp [h1, h2, h3, show 8 ≤ i - 8 by omega, show 8 ≤ i - 16 by omega]
        · simp [h1, h2, h3, show 8 ≤ i - 8 by omega, show ¬ 8 ≤ i - 16 by omega]
      · simp [h1, h2, show ¬ 24 ≤ i by omega, show ¬ 8 ≤ i - 8 by omega]
    · simp [h1, show ¬ 16 ≤ i by omega, show ¬ 24 ≤ i by omega]
  unfold ior ishl
  simp only [of_tI]
  exact congrArg Int32.toInt (key _ _ _ _)
theorem numB_s {b : Mm} {i : Nat} {x : Nat → Int} (hi : 4 * i + 4 ≤ 220) (hx : ∀ j, j < 4 → iand (b 55 (4 * i + j)) 255 = x j) : F_X12_numberAt (i : Int) b = some (ior (ishl (ior (ishl (ior (ishl (ior (ishl 0 8) (x 0)) 8) (x 1)) 8) (x 2)) 8) (x 3), b) := by
  have st : ∀ (f : Nat) (v : Int) (j : Nat), j < 4 → L_X12_numberAt_4 (f + 1) (i : Int) v (j : Int) b = L_X12_numberAt_4 f (i : Int) (ior (ishl v 8) (x j)) ((j + 1 : Nat) : Int) b := by
    intro f v j hj
    show LB_X12_numberAt_4 (L_X12_numberAt_4 f) _ _ _ _ = _
    unfold LB_X12_numberAt_4
    rw [if_neg (by omega), wr_s (x := 4 * (i : Int)) (by omega), wr_s (by omega), ald_s (by omega), nmv_s, nmv_s, wr_s (by omega), show (4 * (i : Int) + (j : Int)).toNat = 4 * i + j by omega, hx j hj]
    rfl
  have en : ∀ (f : Nat) (v : Int), L_X12_numberAt_4 (f + 1) (i : Int) v ((4 : Nat) : Int) b = some (v, b) := by
    intro f v
    show LB_X12_numberAt_4 (L_X12_numberAt_4 f) _ _ _ _ = _
    unfold LB_X12_numberAt_4
    rw [if_pos (by decide)]
  have h0 : F_X12_numberAt (i : Int) b = L_X12_numberAt_4 (99995 + 1 + 1 + 1 + 1 + 1) (i : Int) 0 ((0 : Nat) : Int) b := by
    unfold F_X12_numberAt
    rw [nmv_s, nmv_s]
    rfl
  rw [h0, st _ _ 0 (by decide), st _ _ 1 (by decide), st _ _ 2 (by decide), st _ _ 3 (by decide), en]
theorem numA_s {a : Mm} {i : Nat} (h7 : a 7 1 ≤ 220) (hi : 4 * (i : Int) + 4 ≤ a 7 1) : F_X10_numberAt (i : Int) a = some (ior (ior (ior (ishl (a 8 (4 * i)) 24) (ishl (a 8 (4 * i + 1)) 16)) (ishl (a 8 (4 * i + 2)) 8)) (a 8 (4 * i + 3)), a) := by
  have hb : ∀ j : Nat, j < 4 → F_X10_byteAt (4 * (i : Int) + j) a = some (a 8 (4 * i + j), a) := by
    intro j hj
    unfold F_X10_byteAt
    rw [if_neg (by omega), if_neg (by omega), ald_s (by omega), show (4 * (i : Int) + (j : Int)).toNat = 4 * i + j by omega]
  have h0 : F_X10_byteAt (4 * (i : Int)) a = some (a 8 (4 * i), a) := by
    have := hb 0 (by decide)
    rw [show 4 * (i : Int) + ((0 : Nat) : Int) = 4 * (i : Int) by omega] at this
    exact this
  have h1 : F_X10_byteAt (4 * (i : Int) + 1) a = some (a 8 (4 * i + 1), a) := hb 1 (by decide)
  have h2 : F_X10_byteAt (4 * (i : Int) + 2) a = some (a 8 (4 * i + 2), a) := hb 2 (by decide)
  have h3 : F_X10_byteAt (4 * (i : Int) + 3) a = some (a 8 (4 * i + 3), a) := hb 3 (by decide)
  unfold F_X10_numberAt
  rw [nmv_s, wr_s (x := 4 * (i : Int)) (by omega), h0, cll_s, wr_s (by omega), h1, cll_s, wr_s (by omega), h2, cll_s, wr_s (by omega), h3, cll_s]
theorem check_l {G : Tg} {ear : Int} {h : Hs} {n q : Nat} (h150 : q ≤ 150) (hn : n ≤ 55) : ∀ (k i : Nat) (a b : Mm) (f g : Nat), i + k = h.1 → i ≤ n → GA a G → GB b G → InvP a b → HsIn (a 14 4) (a 16) (a 15) h → HsIn (b 54 48) (b 78) (b 79) h → HsOk (a 1 5) 0 10199 q h → (0 ≤ ear ∧ ear < a 1 5) → (a 7 1 ≤ 220 ∧ 4 * (n : Int) ≤ a 7 1) → (∀ j : Nat, j < 4 * n → iand (b 55 j) 255 = a 8 j) → k < f → k < g →
    ∃ r a' b', L_X11_firstWrong_2 f ear (n : Int) (i : Int) a = some (r, a') ∧ L_X12_check_37 g ear (n : Int) (i : Int) b = some (r, b') ∧ Fr sM a a' ∧ Fr sN b b' := by
  intro k
  induction k with
  | zero =>
    intro i a b f g hik hin hA hB hP iA iB ho he h7 ht hf hg
    obtain ⟨f', rfl⟩ : ∃ f', f = f' + 1 := ⟨f - 1, by omega⟩
    obtain ⟨g', rfl⟩ : ∃ g', g = g' + 1 := ⟨g - 1, by omega⟩
    have hA1 := iA.1
    have hB1 := iB.1
    have hk := ho.1
    by_cases c : i = n
    · refine ⟨-1, a, b, ?_, ?_, Fr.refl _ _, Fr.refl _ _⟩
      · show LB_X11_firstWrong_2 (L_X11_firstWrong_2 f') _ _ _ _ = _
        unfold LB_X11_firstWrong_2
        rw [if_pos (by omega), if_pos (by omega)]
      · show LB_X12_check_37 (L_X12_check_37 g') _ _ _ _ = _
        unfold LB_X12_check_37
        rw [if_pos (by omega), if_neg (by omega)]
    · refine ⟨(i : Int), a, b, ?_, ?_, Fr.refl _ _, Fr.refl _ _⟩
      · show LB_X11_firstWrong_2 (L_X11_firstWrong_2 f') _ _ _ _ = _
        unfold LB_X11_firstWrong_2
        rw [if_neg (by omega), if_pos (by omega)]
      · show LB_X12_check_37 (L_X12_check_37 g') _ _ _ _ = _
        unfold LB_X12_check_37
        rw [if_pos (by omega), if_pos (by omega), show b 54 48 = (i : Int) by omega]
  | succ k ih =>
    intro i a b f g hik hin hA hB hP iA iB ho he h7 ht hf hg
    obtain ⟨f', rfl⟩ : ∃ f', f = f' + 1 := ⟨f - 1, by omega⟩
    obtain ⟨g', rfl⟩ : ∃ g', g = g' + 1 := ⟨g - 1, by omega⟩
    have hA1 := iA.1
    have hB1 := iB.1
    have hk := ho.1
    by_cases c : i = n
    · refine ⟨(n : Int), a, b, ?_, ?_, Fr.refl _ _, Fr.refl _ _⟩
      · show LB_X11_firstWrong_2 (L_X11_firstWrong_2 f') _ _ _ _ = _
        unfold LB_X11_firstWrong_2
        rw [if_pos (by omega), if_neg (by omega)]
      · show LB_X12_check_37 (L_X12_check_37 g') _ _ _ _ = _
        unfold LB_X12_check_37
        rw [if_neg (by omega), if_neg (by omega)]
    · obtain ⟨a1, e1, e2⟩ := mnA_s hA hP.A iA ho h150 he (show i < h.1 by omega)
      obtain ⟨b1, d1, d2⟩ := mnB_s hB hP iB ho h150 he (show i < h.1 by omega)
      have nA := numA_s (a := a) (i := i) h7.1 (by omega)
      have nB := numB_s (b := b) (i := i) (x := fun j => a 8 (4 * i + j)) (by omega) (fun j hj => ht _ (by omega))
      rw [← num4] at nB
      have sA : L_X11_firstWrong_2 (f' + 1) ear (n : Int) (i : Int) a = if (ior (ior (ior (ishl (a 8 (4 * i)) 24) (ishl (a 8 (4 * i + 1)) 16)) (ishl (a 8 (4 * i + 2)) 8)) (a 8 (4 * i + 3))) = mnH G a ear h i then L_X11_firstWrong_2 f' ear (n : Int) ((i + 1 : Nat) : Int) a1 else some ((i : Int), a1) := by
        show LB_X11_firstWrong_2 (L_X11_firstWrong_2 f') _ _ _ _ = _
        unfold LB_X11_firstWrong_2
        rw [if_neg (by omega), if_neg (by omega), nA, cll_s, e1, cll_s, nmv_s, wr_s (by omega)]
        rfl
      have sB : L_X12_check_37 (g' + 1) ear (n : Int) (i : Int) b = if (ior (ior (ior (ishl (a 8 (4 * i)) 24) (ishl (a 8 (4 * i + 1)) 16)) (ishl (a 8 (4 * i + 2)) 8)) (a 8 (4 * i + 3))) = mnH G a ear h i then L_X12_check_37 g' ear (n : Int) ((i + 1 : Nat) : Int) b1 else some ((i : Int), b1) := by
        show LB_X12_check_37 (L_X12_check_37 g') _ _ _ _ = _
        unfold LB_X12_check_37
        rw [if_neg (by omega), if_pos (by omega), nB, cll_s, d1, cll_s, nmv_s, wr_s (by omega)]
        rfl
      rw [sA, sB]
      by_cases hc : (ior (ior (ior (ishl (a 8 (4 * i)) 24) (ishl (a 8 (4 * i + 1)) 16)) (ishl (a 8 (4 * i + 2)) 8)) (a 8 (4 * i + 3))) = mnH G a ear h i
      · rw [if_pos hc, if_pos hc]
        obtain ⟨r, a2, b2, r1, r2, r3, r4⟩ := ih (i + 1) a1 b1 f' g' (by omega) (by omega) (hA.frM e2) (hB.frN d2) (hP.fr e2 d2)
          (by rw [e2 14 4 rfl, e2.row 15 (fun _ => rfl), e2.row 16 (fun _ => rfl)]; exact iA) (by rw [d2 54 48 rfl, d2.row 78 (fun _ => rfl), d2.row 79 (fun _ => rfl)]; exact iB)
          (by rw [e2 1 5 rfl]; exact ho) (by rw [e2 1 5 rfl]; exact he) (by rw [e2 7 1 rfl]; exact h7) (by rw [e2.row 8 (fun _ => rfl), d2.row 55 (fun _ => rfl)]; exact ht) (by omega) (by omega)
        exact ⟨r, a2, b2, r1, r2, e2.trans r3, d2.trans r4⟩
      · rw [if_neg hc, if_neg hc]
        exact ⟨_, a1, b1, rfl, rfl, e2, d2⟩
def sO (k i : Nat) : Bool := k == 7 && i == 1
def sO' (k i : Nat) : Bool := k == 54 && i == 1
theorem check_s {a b : Mm} {G : Tg} (hP : InvP a b) (hT : InvT a b) (hS : InvS a b) (hH : InvH a) (hA : GA a G) (hB : GB b G) (ear n : Int) (hn : inR n) : ∃ r a' b', F_X11_check ear n a = some (r, a') ∧ F_X12_check ear n b = some (r, b') ∧ Fr (orS (orS sL sM) sO) a a' ∧ Fr (orS sO' (orS sHb sN)) b b' ∧ InvH a' ∧ InvT a' b' := by
  have hp := hP.A.1
  have en := hP.n
  have t0 := hT.1
  unfold F_X11_check F_X12_check
  rw [has_s, cll_s, ib0, isMouth_s _ _ (by omega), cll_s, ib0, en, within_s, cll_s, ib0]
  by_cases h1 : 0 ≤ ear ∧ ear < a 1 5
  · rw [if_pos h1, if_pos h1, dvn_s (by decide), tdiv_p (by omega)]
    by_cases h2 : (0 ≤ n ∧ n ≤ 55) ∧ 4 * n ≤ a 7 1
    · obtain ⟨n', rfl⟩ : ∃ k : Nat, n = (k : Int) := ⟨n.toNat, by omega⟩
      have hfb : Fr sO' b (upd2 b 54 1 0) := Fr.upd (Fr.refl _ _) _ rfl
      have hP1 : InvP a (upd2 b 54 1 0) := hP.fr (Fr.refl (fun _ _ => false) a) hfb
      have hS1 : InvS a (upd2 b 54 1 0) := hS.fr (Fr.refl (fun _ _ => false) a) hfb
      obtain ⟨h, a1, b1, e1, d1, e2, d2, ho, h150, e3, d3, e4⟩ := listened hP1 hS1 hH h1
      have hB1 : GB b1 G := GB.frHb (hB.fr (hfb 54 14 rfl) (fun k i g1 g2 => by rw [u2r (by omega)])) d3
      obtain ⟨r, a2, b2, r1, r2, r3, r4⟩ := check_l (G := G) (ear := ear) (h := h) (n := n') h150 (by omega) h.1 0 a1 b1 100000 100000 (by omega) (by omega) (hA.frL e3) hB1 (hP1.fr e3 d3) e2 d2
        (by rw [e3 1 5 rfl]; exact ho) (by rw [e3 1 5 rfl]; exact h1) (by rw [e3 7 1 rfl]; omega) (by rw [e3.row 8 (fun _ => rfl), d3.row 55 (fun _ => rfl), u2r (by decide)]; exact fun j hj => (hT.2 j (by omega)).1.symm) (by have := ho.1; omega) (by have := ho.1; omega)
      refine ⟨r, upd2 a2 7 1 0, b2, ?_, ?_, Fr.upd (e3.both r3).inl _ rfl, hfb.both (d3.both r4), (e4.fr r3).fr (Fr.upd (Fr.refl sO _) _ rfl), ?_⟩
      · rw [if_pos h2.1]
        unfold F_X10_has F_X11_firstWrong F_X10_empty
        rw [wr_s (by omega), if_neg (by omega), cll_s, if_pos (by decide), e1, cll_s, nmv_s]
        rw [show ((0 : Nat) : Int) = 0 from rfl] at r1
        rw [r1, cll_s, nmv_s, stf_s, cll_s]
      · rw [if_neg (by omega), wr_s (by omega), if_pos (by omega), stf_s, d1, cll_s, nmv_s]
        exact r2
      · unfold InvT
        rw [u2s, r4 54 1 rfl, d3 54 1 rfl, u2s]
        exact ⟨⟨rfl, by decide, by decide⟩, fun i hi => absurd hi (by omega)⟩
    · refine ⟨-2, a, b, ?_, ?_, Fr.refl _ _, Fr.refl _ _, hH, hT⟩
      · by_cases h3 : 0 ≤ n ∧ n ≤ 55
        · rw [if_pos h3]
          unfold F_X10_has
          rw [wr_s (by omega), if_pos (by omega), cll_s, if_neg (by decide)]
        · rw [if_neg h3]
      · by_cases h3 : n < 0
        · rw [if_pos h3]
        · rw [if_neg h3, wr_s (by omega), if_neg (by omega)]
  · rw [if_neg h1, if_neg h1]
    exact ⟨_, a, b, rfl, rfl, Fr.refl _ _, Fr.refl _ _, hH, hT⟩

/-! who speaks by rules of waiting: the play -/
abbrev K11 : Type := Int → Int → Int → Int → Int → Int → Int → Int → Int → Int → Int → Mm → Rs
def endB (K : K11) (v1 v2 v3 v4 v5 v6 v7 v8 v9 v10 v11 v12 v13 : Int) (m : Mm) : Rs := if ¬ v13 = (-1) then cll (F_X12_means v13 v12 v13 v5 v6 0 m) (fun r3 m4 => cll (F_X12_nextOf v13 m4) (fun r5 m6 => if ¬ r3 = r5 then (J_X12_byRules_271 K v1 v2 v3 v4 v8 v9 v10 v11 v12 v13 m6) else ald m6 90 8 v13 (fun x8 => ast m6 90 8 v13 (wr (x8 + 1)) (fun m9 => nmv (wr (v8 + 1)) (fun x10 => nmv (wr (v4 + (-1))) (fun x11 => nmv v11 (fun x12 => (J_X12_byRules_271 K v1 v2 v3 x11 x10 v9 x12 v11 v12 v13 m9)))))))) else (J_X12_byRules_286 K v1 v2 v3 v4 v5 v6 v7 v8 v9 v10 v11 m)
theorem eagB {G : Tg} {K : K11} {x g v2 v3 v4 l p v7 v8 v9 v10 v11 : Int} {n : Nat} (hx : 0 ≤ x ∧ x ≤ 2147483647) (h8 : n ≤ 8) : ∀ (k i : Nat) (m : Mm) (best most : Int) (f : Nat), i + k = n → m 54 2 = (n : Int) → GB m G → (∀ j, j < n → (0 ≤ m 90 j ∧ m 90 j ≤ m 59 j) ∧ m 59 j ≤ 4) → 0 ≤ most → k < f → ∃ m', L_X12_byRules_157 K f x v2 v3 v4 l p v7 v8 v9 v10 v11 g best most (i : Int) m = endB K x v2 v3 v4 l p v7 v8 v9 v10 v11 g (egN G (m 59) (m 60) (m 90) x g l p k i best most) m' ∧ Fr sN m m' := by
  intro k
  induction k with
  | zero =>
    intro i m best most f hi hn hG hW hm hf
    obtain ⟨f', rfl⟩ : ∃ f', f = f' + 1 := ⟨f - 1, by omega⟩
    refine ⟨m, ?_, Fr.refl _ _⟩
    show LB_X12_byRules_157 K (L_X12_byRules_157 K f') _ _ _ _ _ _ _ _ _ _ _ _ _ _ _ _ = _
    unfold LB_X12_byRules_157 egN endB
    rw [if_pos (by omega)]
  | succ k ih =>
    intro i m best most f hi hn hG hW hm hf
    obtain ⟨f', rfl⟩ : ∃ f', f = f' + 1 := ⟨f - 1, by omega⟩
    have hWi := hW i (by omega)
    have hnx : ∀ (m1 : Mm) (be mo : Int), Fr sN m m1 → 0 ≤ mo → ∃ m', J_X12_byRules_211 K (L_X12_byRules_157 K f') x v2 v3 v4 l p v7 v8 v9 v10 v11 g be mo (i : Int) m1 = endB K x v2 v3 v4 l p v7 v8 v9 v10 v11 g (egN G (m 59) (m 60) (m 90) x g l p k (i + 1) be mo) m' ∧ Fr sN m m' := by
      intro m1 be mo hf1 hmo
      obtain ⟨m', e1, e2⟩ := ih (i + 1) m1 be mo f' (by omega) ((hf1 54 2 rfl).trans hn) (hG.frN hf1) (by rw [hf1.row 90 (fun _ => rfl), hf1.row 59 (fun _ => rfl)]; exact hW) hmo (by omega)
      rw [hf1.row 59 (fun _ => rfl), hf1.row 60 (fun _ => rfl), hf1.row 90 (fun _ => rfl)] at e1
      refine ⟨m', ?_, hf1.trans e2⟩
      unfold J_X12_byRules_211
      rw [nmv_s, wr_s (by omega)]
      exact e1
    show ∃ m', LB_X12_byRules_157 K (L_X12_byRules_157 K f') _ _ _ _ _ _ _ _ _ _ _ _ _ _ _ _ = _ ∧ _
    unfold LB_X12_byRules_157
    rw [if_neg (by omega), has2_s hx (by omega), cll_s]
    unfold egN
    by_cases hb : bit x i = 0
    · rw [if_pos hb, if_pos (Or.inl hb), nmv_s]
      unfold J_X12_byRules_193
      rw [if_neg (by omega)]
      exact hnx m best most (Fr.refl _ _) hm
    · rw [if_neg hb]
      obtain ⟨m1, w1, w2⟩ := wishB hG (i := i) (by omega) (by omega) (by omega) g l p
      rw [w1, cll_s, nmv_s]
      unfold J_X12_byRules_193
      by_cases hl : m 90 i = m 59 i
      · rw [if_pos hl, if_pos (Or.inr (by omega)), if_neg (by omega)]
        exact hnx m1 best most w2 hm
      · rw [if_neg hl, if_neg (show ¬ (bit x i = 0 ∨ m 59 i - m 90 i ≤ 0) from fun z => by rcases z with z | z; exact hb z; omega)]
        by_cases hc : wsh G g (i : Int) l p (m 59 i - m 90 i) (nxW (m 59) (m 60) (m 90) i) ≤ most
        · rw [if_neg (by omega), if_pos hc]
          exact hnx m1 best most w2 hm
        · rw [if_pos (by omega), if_neg hc, nmv_s, nmv_s]
          exact hnx m1 _ _ w2 (by omega)
theorem egN_congr {G : Tg} {L D W L' D' W' : Nat → Int} {x g l p : Int} {n : Nat} (hL : ∀ j, j < n → L' j = L j) (hW : ∀ j, j < n → W' j = W j) (hN : ∀ j, j < n → nxW L' D' W' j = nxW L D W j) : ∀ (k i : Nat) (best most : Int), i + k = n → egN G L' D' W' x g l p k i best most = egN G L D W x g l p k i best most := by
  intro k
  induction k with
  | zero => intro i best most _; rfl
  | succ k ih =>
    intro i best most hi
    unfold egN
    rw [hL i (by omega), hW i (by omega), hN i (by omega), ih (i + 1) _ _ (by omega), ih (i + 1) _ _ (by omega)]
def gapR (last t : Int) : Int := if last = -1 then 63 else min 63 (t - last)
theorem step109 {x B what left l p last done many ld t : Int} (ht : t < B) (hl : 0 < left) (h1 : last = -1 ∨ (0 ≤ last ∧ last ≤ t)) (ht4 : 0 ≤ t ∧ t ≤ 1000) (f : Nat) (b : Mm) : L_X12_byRules_109 (f + 1) x B what left l p last done many ld t b = L_X12_byRules_157 (L_X12_byRules_109 f) 100000 x B what left l p last done many ld t (gapR last t) (-1) 0 0 b := by
  show LB_X12_byRules_109 (L_X12_byRules_109 f) _ _ _ _ _ _ _ _ _ _ _ _ = _
  unfold LB_X12_byRules_109 J_X12_byRules_136 J_X12_byRules_148 gapR
  rw [if_neg (by omega), if_neg (by omega)]
  by_cases h : last = -1
  · rw [if_pos h, if_pos h, nmv_s, nmv_s, nmv_s, nmv_s]
  · rw [if_neg h, if_neg h, wr_s (x := t - last) (by omega)]
    by_cases h2 : t - last ≤ 63
    · rw [if_pos h2, nmv_s, nmv_s, nmv_s, nmv_s, Int.min_eq_right h2]
    · rw [if_neg h2, nmv_s, nmv_s, nmv_s, nmv_s, Int.min_eq_left (by omega)]
def resR (what left done many ld : Int) : Int := if ¬ what = 0 then if ¬ what = 1 then many else done else if left ≤ 0 then ld else -2
theorem J292_s (what left done many ld : Int) (m : Mm) : J_X12_byRules_292 what left done many ld m = some (resR what left done many ld, m) := by
  unfold J_X12_byRules_292 resR
  repeat' split
  all_goals rfl
/-- nobody will ever speak any more -/
theorem idle {G : Tg} {x what left l p last done many ld : Int} {n B : Nat} (hx : 0 ≤ x ∧ x ≤ 2147483647) (h8 : n ≤ 8) (hB4 : B ≤ 400) (hl : 0 < left) : ∀ (j t : Nat) (b : Mm) (f : Nat), t + j = B → b 54 2 = (n : Int) → GB b G → (∀ j, j < n → (0 ≤ b 90 j ∧ b 90 j ≤ b 59 j) ∧ b 59 j ≤ 4) → (last = -1 ∨ (0 ≤ last ∧ last + 63 ≤ (t : Int))) → egN G (b 59) (b 60) (b 90) x 63 l p n 0 (-1) 0 = -1 → j < f → ∃ b', L_X12_byRules_109 f x (B : Int) what left l p last done many ld (t : Int) b = some (resR what left done many ld, b') ∧ Fr sN b b' := by
  intro j
  induction j with
  | zero =>
    intro t b f ht hn hG hW hla he hf
    obtain ⟨f', rfl⟩ : ∃ f', f = f' + 1 := ⟨f - 1, by omega⟩
    refine ⟨b, ?_, Fr.refl _ _⟩
    show LB_X12_byRules_109 (L_X12_byRules_109 f') _ _ _ _ _ _ _ _ _ _ _ _ = _
    unfold LB_X12_byRules_109
    rw [if_pos (by omega), J292_s]
  | succ j ih =>
    intro t b f ht hn hG hW hla he hf
    obtain ⟨f', rfl⟩ : ∃ f', f = f' + 1 := ⟨f - 1, by omega⟩
    have hg : gapR last (t : Int) = 63 := by
      unfold gapR
      by_cases h : last = -1
      · rw [if_pos h]
      · rw [if_neg h, Int.min_eq_left (by omega)]
    rw [step109 (by omega) hl (by omega) (by omega), hg]
    obtain ⟨b1, e1, e2⟩ := eagB (G := G) (K := L_X12_byRules_109 f') (x := x) (g := 63) (v2 := (B : Int)) (v3 := what) (v4 := left) (l := l) (p := p) (v7 := last) (v8 := done) (v9 := many) (v10 := ld) (v11 := (t : Int)) hx h8 n 0 b (-1) 0 100000 (by omega) hn hG hW (by omega) (by omega)
    rw [show ((0 : Nat) : Int) = 0 from rfl] at e1
    rw [e1, he]
    unfold endB J_X12_byRules_286
    rw [if_neg (by decide), nmv_s, wr_s (by omega), show (t : Int) + 1 = ((t + 1 : Nat) : Int) from rfl]
    obtain ⟨b2, r1, r2⟩ := ih (t + 1) b1 f' (by omega) ((e2 54 2 rfl).trans hn) (hG.frN e2) (by rw [e2.row 90 (fun _ => rfl), e2.row 59 (fun _ => rfl)]; exact hW) (by omega) (by rw [e2.row 59 (fun _ => rfl), e2.row 60 (fun _ => rfl), e2.row 90 (fun _ => rfl)]; exact he) (by omega)
    exact ⟨b2, r1, e2.trans r2⟩
def sRa (k i : Nat) : Bool := sM k i || k == 53 || (k == 52 && (decide (3 ≤ i) && decide (i ≤ 8)))
def sRb (k i : Nat) : Bool := sN k i || k == 90
theorem frMR {m m' : Mm} (h : Fr sM m m') : Fr sRa m m' := h.mono fun k i e => by
  unfold sRa at e
  cases hs : sM k i with
  | false => rfl
  | true => rw [hs] at e; exact (nomatch e)
theorem frNR {m m' : Mm} (h : Fr sN m m') : Fr sRb m m' := h.mono fun k i e => by
  unfold sRb at e
  cases hs : sN k i with
  | false => rfl
  | true => rw [hs] at e; exact (nomatch e)
theorem GA.frR {m m' : Mm} {G : Tg} (h : GA m G) (hf : Fr sRa m m') : GA m' G := by
  refine h.fr (hf 17 3 rfl) (fun k i h1 h2 => hf k i ?_)
  unfold sRa sM
  simp only [Bool.or_eq_false_iff, Bool.and_eq_false_iff, beq_eq_false_iff_ne, decide_eq_false_iff_not]
  omega
theorem GB.frR {m m' : Mm} {G : Tg} (h : GB m G) (hf : Fr sRb m m') : GB m' G := by
  refine h.fr (hf 54 14 rfl) (fun k i h1 h2 => hf k i ?_)
  unfold sRb sN
  simp only [Bool.or_eq_false_iff, Bool.and_eq_false_iff, beq_eq_false_iff_ne, decide_eq_false_iff_not]
  omega
theorem nxW_eq {a b : Mm} (hP : InvP a b) {i : Nat} (hi : (i : Int) < a 1 5) (hW : b 90 i = a 53 i) (h0 : 0 ≤ a 53 i) : nxW (b 59) (b 60) (b 90) i = nxW (a 5) (a 6) (a 53) i := by
  have h1 := hP.2.1 i hi
  unfold nxW
  rw [hW, h1.1.2.2.2]
  by_cases h : a 53 i < a 5 i
  · rw [if_pos h, if_pos h, (hP.2.2.2 i (a 53 i).toNat hi (by omega)).1]
  · rw [if_neg h, if_neg h]
theorem play_l {G : Tg} {x what : Int} {n B : Nat} (hx : 0 ≤ x ∧ x ≤ 2147483647) (hB4 : B ≤ 400) : ∀ (j t : Nat) (a b : Mm) (la last : Int) (f g : Nat), t + j = B → a 1 5 = (n : Int) → InvP a b → GA a G → GB b G → (∀ i, i < n → b 90 i = a 53 i ∧ 0 ≤ a 53 i ∧ a 53 i ≤ a 5 i) → (0 ≤ a 52 3 ∧ 0 ≤ a 52 4 ∧ a 52 3 + a 52 4 ≤ 32 ∧ 0 ≤ a 52 5 ∧ a 52 5 ≤ (t : Int)) → ((a 52 5 = 0 ∧ last = -1) ∨ (1 ≤ a 52 5 ∧ last = la ∧ 0 ≤ la ∧ la ≤ (t : Int))) → j < f → j < g →
    ∃ a' b', L_X6_play_10 f x (B : Int) la (t : Int) a = some (0, a') ∧ L_X12_byRules_109 g x (B : Int) what (a 52 3) (a 52 7) (a 52 8) last (a 52 4) (a 52 5) (a 52 6) (t : Int) b = some (resR what (a' 52 3) (a' 52 4) (a' 52 5) (a' 52 6), b') ∧ Fr sRa a a' ∧ Fr sRb b b' := by
  intro j
  induction j with
  | zero =>
    intro t a b la last f g ht hn hP hA hB hW h5 hla hf hg
    obtain ⟨f', rfl⟩ : ∃ f', f = f' + 1 := ⟨f - 1, by omega⟩
    obtain ⟨g', rfl⟩ : ∃ g', g = g' + 1 := ⟨g - 1, by omega⟩
    refine ⟨a, b, ?_, ?_, Fr.refl _ _, Fr.refl _ _⟩
    · show LB_X6_play_10 (L_X6_play_10 f') _ _ _ _ _ = _
      unfold LB_X6_play_10
      rw [if_pos (by omega)]
    · show LB_X12_byRules_109 (L_X12_byRules_109 g') _ _ _ _ _ _ _ _ _ _ _ _ = _
      unfold LB_X12_byRules_109
      rw [if_pos (by omega), J292_s]
  | succ j ih =>
    intro t a b la last f g ht hn hP hA hB hW h5 hla hf hg
    obtain ⟨f', rfl⟩ : ∃ f', f = f' + 1 := ⟨f - 1, by omega⟩
    obtain ⟨g', rfl⟩ : ∃ g', g = g' + 1 := ⟨g - 1, by omega⟩
    have hn8 := hP.A.1
    by_cases hl : a 52 3 ≤ 0
    · refine ⟨a, b, ?_, ?_, Fr.refl _ _, Fr.refl _ _⟩
      · show LB_X6_play_10 (L_X6_play_10 f') _ _ _ _ _ = _
        unfold LB_X6_play_10
        rw [if_neg (by omega), if_pos hl]
      · show LB_X12_byRules_109 (L_X12_byRules_109 g') _ _ _ _ _ _ _ _ _ _ _ _ = _
        unfold LB_X12_byRules_109
        rw [if_neg (by omega), if_pos hl, J292_s]
    · have hW' : ∀ j, j < n → (0 ≤ b 90 j ∧ b 90 j ≤ b 59 j) ∧ b 59 j ≤ 4 := fun j hj => by
        have h1 := hW j hj
        have h2 := hP.2.1 j (by omega)
        omega
      have hbn : b 54 2 = (n : Int) := hP.n.trans hn
      -- the class
      have stA : L_X6_play_10 (f' + 1) x (B : Int) la (t : Int) a = J_X6_play_46 (L_X6_play_10 f') x (B : Int) la (t : Int) (gapR last (t : Int)) a := by
        show LB_X6_play_10 (L_X6_play_10 f') _ _ _ _ _ = _
        unfold LB_X6_play_10 gapR
        rw [if_neg (by omega), if_neg hl]
        rcases hla with ⟨z1, z2⟩ | ⟨z1, z2, z3, z4⟩
        · rw [if_neg (fun z => z z1), if_pos z2, nmv_s]
        · rw [if_pos (by omega), if_neg (by omega), wr_s (by omega), min_s, cll_s, nmv_s, z2]
      rw [stA, step109 (by omega) (by omega) (by omega) (by omega)]
      obtain ⟨a1, e1, e2⟩ := eagA (G := G) (x := x) (g := gapR last (t : Int)) n 0 a (-1) 0 100000 (by omega) hn hP.A hA (fun j hj => by have := hW j hj; have := (hP.A.2 j (by omega)).2; omega) (by omega)
      obtain ⟨b1, d1, d2⟩ := eagB (G := G) (K := L_X12_byRules_109 g') (x := x) (g := gapR last (t : Int)) (v2 := (B : Int)) (v3 := what) (v4 := a 52 3) (l := a 52 7) (p := a 52 8) (v7 := last) (v8 := a 52 4) (v9 := a 52 5) (v10 := a 52 6) (v11 := (t : Int)) hx (by omega) n 0 b (-1) 0 100000 (by omega) hbn hB hW' (by omega) (by omega)
      have ecg := egN_congr (G := G) (x := x) (g := gapR last (t : Int)) (l := a 52 7) (p := a 52 8) (n := n) (fun j hj => (hP.2.1 j (by omega)).1.2.2.2) (fun j hj => (hW j hj).1) (fun j hj => nxW_eq hP (by omega) (hW j hj).1 (hW j hj).2.1) n 0 (-1) 0 (by omega)
      have ein := egN_in (G := G) (L := a 5) (D := a 6) (W := a 53) (x := x) (g := gapR last (t : Int)) (l := a 52 7) (p := a 52 8) (n := n) n 0 (-1) 0 (by omega) (Or.inl rfl)
      rw [ecg] at d1
      rw [show ((0 : Nat) : Int) = 0 from rfl] at e1 d1
      generalize hr : egN G (a 5) (a 6) (a 53) x (gapR last (t : Int)) (a 52 7) (a 52 8) n 0 (-1) 0 = r at e1 d1 ein
      rw [d1]
      unfold J_X6_play_46 F_X6_mostEager
      rw [nmv_s, nmv_s, nmv_s, e1, cll_s, nmv_s]
      have hP1 : InvP a1 b1 := hP.fr e2 d2
      have hA1 := hA.frM e2
      have hB1 := hB.frN d2
      have hW1 : ∀ i, i < n → b1 90 i = a1 53 i ∧ 0 ≤ a1 53 i ∧ a1 53 i ≤ a1 5 i := by
        rw [e2.row 53 (fun _ => rfl), e2.row 5 (fun _ => rfl), d2.row 90 (fun _ => rfl)]; exact hW
      have q3 := e2 52 3 rfl
      have q4 := e2 52 4 rfl
      have q5 := e2 52 5 rfl
      have q6 := e2 52 6 rfl
      have q7 := e2 52 7 rfl
      have q8 := e2 52 8 rfl
      rcases ein with er | ⟨er1, er2, er3⟩
      · rw [if_pos er]
        unfold endB
        rw [if_neg (show ¬ ¬ r = -1 from fun z => z er)]
        by_cases hg63 : gapR last (t : Int) = 63
        · rw [if_neg (show ¬ ¬ gapR last (t : Int) = 63 from fun z => z hg63)]
          have hgl : last = -1 ∨ (0 ≤ last ∧ last + 63 ≤ (t : Int)) := by
            unfold gapR at hg63
            by_cases h : last = -1
            · exact Or.inl h
            · rw [if_neg h] at hg63
              omega
          obtain ⟨b2, r1, r2⟩ := idle (G := G) (x := x) (what := what) (left := a 52 3) (l := a 52 7) (p := a 52 8) (last := last) (done := a 52 4) (many := a 52 5) (ld := a 52 6) (n := n) (B := B) hx (by omega) hB4 (by omega) j (t + 1) b1 g' (by omega) (by rw [d2 54 2 rfl]; exact hbn) hB1 (by rw [d2.row 90 (fun _ => rfl), d2.row 59 (fun _ => rfl)]; exact hW') (by omega)
            (by
              rw [d2.row 59 (fun _ => rfl), d2.row 60 (fun _ => rfl), d2.row 90 (fun _ => rfl), ← hg63, ecg, hr]
              exact er) (by omega)
          refine ⟨a1, b2, rfl, ?_, frMR e2, (frNR d2).trans (frNR r2)⟩
          unfold J_X12_byRules_286
          rw [nmv_s, wr_s (by omega), show (t : Int) + 1 = ((t + 1 : Nat) : Int) from rfl, r1, q3, q4, q5, q6]
        · rw [if_pos hg63]
          obtain ⟨a2, b2, r1, r2, r3, r4⟩ := ih (t + 1) a1 b1 la last f' g' (by omega) (by rw [e2 1 5 rfl]; exact hn) hP1 hA1 hB1 hW1 (by rw [q3, q4, q5]; omega) (by rw [q5]; omega) (by omega) (by omega)
          rw [q3, q4, q5, q6, q7, q8] at r2
          refine ⟨a2, b2, ?_, ?_, (frMR e2).trans r3, (frNR d2).trans r4⟩
          · unfold J_X6_play_85
            rw [nmv_s, wr_s (by omega)]
            exact r1
          · unfold J_X12_byRules_286
            rw [nmv_s, wr_s (by omega)]
            exact r2
      · obtain ⟨w, rfl⟩ : ∃ w : Nat, r = (w : Int) := ⟨r.toNat, by omega⟩
        rw [Int.toNat_natCast] at er3
        have hwn : w < n := by omega
        have hPw := (hP.A.2 w (by omega)).2
        have hWw := hW w hwn
        rw [if_neg (by omega)]
        unfold endB
        rw [if_pos (by omega)]
        -- the class speaks
        have hA2 : GA (upd2 a1 52 5 (a 52 5 + 1)) G := hA1.frR (Fr.upd (Fr.refl _ _) _ rfl)
        obtain ⟨a2, s1, s2⟩ := inCrowd_s hA2 (gapR last (t : Int)) (w : Int) (a 52 7) (a 52 8)
        have hfa2 : Fr sRa a a2 := ((frMR e2).trans (Fr.upd (Fr.refl _ _) _ rfl)).trans (frMR s2)
        have hfm2 : Fr sM (upd2 a1 52 5 (a 52 5 + 1)) a2 := s2
        have p3 : a2 52 3 = a 52 3 := by rw [s2 52 3 rfl, u2n (by decide)]; exact q3
        have p4 : a2 52 4 = a 52 4 := by rw [s2 52 4 rfl, u2n (by decide)]; exact q4
        have p5 : a2 52 5 = a 52 5 + 1 := by rw [s2 52 5 rfl, u2s]
        have p6 : a2 52 6 = a 52 6 := by rw [s2 52 6 rfl, u2n (by decide)]; exact q6
        have r53 : a2 53 = a 53 := by rw [s2.row 53 (fun _ => rfl), u2r (by decide)]; exact e2.row 53 (fun _ => rfl)
        have hPA2 : PpA a2 := hP.A.fr hfa2
        have r5 : a2 5 = a 5 := hfa2.row 5 (fun _ => rfl)
        have r6 : a2 6 = a 6 := hfa2.row 6 (fun _ => rfl)
        have r15 : a2 1 5 = a 1 5 := hfa2 1 5 rfl
        have hwd : F_X4_wordOf (w : Int) (a2 53 w) a2 = some (nxW (a 5) (a 6) (a 53) w, a2) := by
          have := wordOfA hPA2 (i := w) (W := a2 53) (by omega) (by rw [r53]; omega)
          rw [r5, r6, r53] at this
          rw [r53]
          exact this
        -- the reference speaks
        obtain ⟨b2, t1, t2, t3⟩ := means_s hB1 (w : Int) (gapR last (t : Int)) (w : Int) (a 52 7) (a 52 8) 0
        have hfb2 : Fr sRb b b2 := (frNR d2).trans (frNR t2)
        have u90 : b2 90 = b 90 := by rw [t2.row 90 (fun _ => rfl)]; exact d2.row 90 (fun _ => rfl)
        have u59 : b2 59 = b 59 := hfb2.row 59 (fun _ => rfl)
        have u60 : b2 60 = b 60 := hfb2.row 60 (fun _ => rfl)
        have hno : F_X12_nextOf (w : Int) b2 = some (nxW (a 5) (a 6) (a 53) w, b2) := by
          have := nextOf_s (m := b2) (i := w) (by omega) (by rw [u90]; have := hW' w hwn; omega) (by rw [u59]; have := hW' w hwn; omega)
          rw [u90, u59, u60, nxW_eq hP (by omega) hWw.1 hWw.2.1] at this
          exact this
        have hsp : F_X6_speak (w : Int) (gapR last (t : Int)) (t : Int) a1 = if ¬ mn G (gapR last (t : Int)) (w : Int) (a 52 7) (a 52 8) (w : Int) 0 = nxW (a 5) (a 6) (a 53) w then J_X6_speak_79 (w : Int) (gapR last (t : Int)) a2 else J_X6_speak_79 (w : Int) (gapR last (t : Int)) (upd2 (upd2 (upd2 (upd2 a2 53 w (a 53 w + 1)) 52 4 (a 52 4 + 1)) 52 3 (a 52 3 - 1)) 52 6 (t : Int)) := by
          unfold F_X6_speak
          rw [stf_s, u2n (by decide), u2n (by decide), q5, q7, q8, wr_s (by omega), s1, cll_s, ald_s (by omega), Int.toNat_natCast, hwd, cll_s]
          by_cases hc : mn G (gapR last (t : Int)) (w : Int) (a 52 7) (a 52 8) (w : Int) 0 = nxW (a 5) (a 6) (a 53) w
          · rw [if_neg (fun z => z hc), if_neg (fun z => z hc), ald_s (by omega), ast_s (by omega), stf_s, stf_s, stf_s, u2r (show 52 ≠ 53 by decide), u2n (show 3 ≠ 4 by decide), u2r (show 52 ≠ 53 by decide), p3, p4, Int.toNat_natCast, r53, wr_s (x := a 53 w + 1) (by omega), wr_s (x := a 52 4 + 1) (by omega), wr_s (x := a 52 3 - 1) (by omega)]
          · rw [if_pos hc, if_pos hc]
        rw [hsp, t1, cll_s, hno, cll_s]
        have hfin : ∀ (a3 b3 : Mm) (le dn ld : Int), Fr sRa a a3 → Fr sRb b b3 → a3 52 3 = le → a3 52 4 = dn → a3 52 5 = a 52 5 + 1 → a3 52 6 = ld → (∀ i, i < n → b3 90 i = a3 53 i ∧ 0 ≤ a3 53 i ∧ a3 53 i ≤ a3 5 i) → (0 ≤ le ∧ 0 ≤ dn ∧ le + dn ≤ 32) → ∃ a' b', cll (J_X6_speak_79 (w : Int) (gapR last (t : Int)) a3) (fun r6 m7 => nmv (t : Int) (fun x8 => (J_X6_play_85 (L_X6_play_10 f') x (B : Int) x8 (t : Int) m7))) = some (0, a') ∧ J_X12_byRules_271 (L_X12_byRules_109 g') x (B : Int) what le dn (a 52 5) ld (t : Int) (gapR last (t : Int)) (w : Int) b3 = some (resR what (a' 52 3) (a' 52 4) (a' 52 5) (a' 52 6), b') ∧ Fr sRa a a' ∧ Fr sRb b b' := by
          intro a3 b3 le dn ld hfa hfb z3 z4 z5 z6 zW zb
          have hfa' : Fr sRa a (upd2 (upd2 a3 52 7 (w : Int)) 52 8 (gapR last (t : Int))) := Fr.upd (Fr.upd hfa _ rfl) _ rfl
          have y3 : (upd2 (upd2 a3 52 7 (w : Int)) 52 8 (gapR last (t : Int))) 52 3 = le := by rw [u2n (by decide), u2n (by decide)]; exact z3
          have y4 : (upd2 (upd2 a3 52 7 (w : Int)) 52 8 (gapR last (t : Int))) 52 4 = dn := by rw [u2n (by decide), u2n (by decide)]; exact z4
          have y5 : (upd2 (upd2 a3 52 7 (w : Int)) 52 8 (gapR last (t : Int))) 52 5 = a 52 5 + 1 := by rw [u2n (by decide), u2n (by decide)]; exact z5
          have y6 : (upd2 (upd2 a3 52 7 (w : Int)) 52 8 (gapR last (t : Int))) 52 6 = ld := by rw [u2n (by decide), u2n (by decide)]; exact z6
          have y7 : (upd2 (upd2 a3 52 7 (w : Int)) 52 8 (gapR last (t : Int))) 52 7 = (w : Int) := by rw [u2n (by decide), u2s]
          have y8 : (upd2 (upd2 a3 52 7 (w : Int)) 52 8 (gapR last (t : Int))) 52 8 = gapR last (t : Int) := u2s _ _ _ _
          obtain ⟨a4, b4, v1, v2, v3, v4⟩ := ih (t + 1) (upd2 (upd2 a3 52 7 (w : Int)) 52 8 (gapR last (t : Int))) b3 (t : Int) (t : Int) f' g' (by omega) (by rw [hfa' 1 5 rfl]; exact hn) (hP.fr hfa' hfb) (hA.frR hfa') (hB.frR hfb) (by rw [u2r (by decide), u2r (by decide), u2r (by decide), u2r (by decide)]; exact zW) (by rw [y3, y4, y5]; omega) (Or.inr ⟨by rw [y5]; omega, rfl, by omega, by omega⟩) (by omega) (by omega)
          rw [y3, y4, y5, y6, y7, y8] at v2
          refine ⟨a4, b4, ?_, ?_, hfa'.trans v3, hfb.trans v4⟩
          · unfold J_X6_speak_79 J_X6_play_85
            rw [stf_s, stf_s, cll_s, nmv_s, nmv_s, wr_s (by omega)]
            exact v1
          · unfold J_X12_byRules_271 J_X12_byRules_286
            rw [nmv_s, nmv_s, nmv_s, nmv_s, nmv_s, wr_s (by omega), wr_s (by omega)]
            exact v2
        by_cases hc : mn G (gapR last (t : Int)) (w : Int) (a 52 7) (a 52 8) (w : Int) 0 = nxW (a 5) (a 6) (a 53) w
        · rw [if_neg (fun z => z hc), if_neg (fun z => z hc), ald_s (by omega), ast_s (by omega), nmv_s, nmv_s, nmv_s, Int.toNat_natCast, u90, hWw.1, wr_s (x := a 53 w + 1) (by omega), wr_s (x := a 52 4 + 1) (by omega), wr_s (x := a 52 3 + -1) (by omega)]
          refine hfin _ _ _ _ _ (Fr.upd (Fr.upd (Fr.upd (Fr.upd hfa2 _ rfl) _ rfl) _ rfl) _ rfl) (Fr.upd hfb2 _ rfl) (by rw [u2n (by decide), u2s]; omega) (by rw [u2n (by decide), u2n (by decide), u2s]) (by rw [u2n (by decide), u2n (by decide), u2n (by decide), u2r (by decide)]; exact p5) (u2s _ _ _ _) ?_ (by omega)
          intro i hi
          rw [u2r (show 53 ≠ 52 by decide), u2r (show 53 ≠ 52 by decide), u2r (show 53 ≠ 52 by decide), u2r (show 5 ≠ 52 by decide), u2r (show 5 ≠ 52 by decide), u2r (show 5 ≠ 52 by decide), u2r (show 5 ≠ 53 by decide), r5]
          by_cases e : i = w
          · subst e
            rw [u2s, u2s]
            omega
          · rw [u2n e, u2n e, u90, r53]
            exact hW i hi
        · rw [if_pos hc, if_pos hc]
          exact hfin a2 b2 _ _ _ hfa2 hfb2 p3 p4 p5 p6 (by rw [u90, r53, r5]; exact hW) (by omega)

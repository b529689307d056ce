/-! said, end -/
theorem said60 {a : Mm} {n s i : Nat} (hn : a 1 5 = n) (hs : a 9 4 = s) (hi : i < s) : ∀ (k e : Nat) (b : Mm) (f : Nat), e + k = n → InvP a b → InvS a b → k < f → ∃ b', L_X12_said_60 f (i : Int) (cntP (hrdP a s i) e) (e : Int) b = some (cntP (hrdP a s i) n, b') ∧ Fr sHb b b' := by
  intro k
  induction k with
  | zero =>
    intro e b f he hP hS hf
    obtain ⟨f', rfl⟩ : ∃ f', f = f' + 1 := ⟨f - 1, by omega⟩
    refine ⟨b, ?_, Fr.refl _ _⟩
    show LB_X12_said_60 (L_X12_said_60 f') _ _ _ _ = _
    unfold LB_X12_said_60
    have := hP.n
    rw [if_pos (by omega), show e = n by omega]
  | succ k ih =>
    intro e b f he hP hS hf
    obtain ⟨f', rfl⟩ : ∃ f', f = f' + 1 := ⟨f - 1, by omega⟩
    show ∃ b', LB_X12_said_60 (L_X12_said_60 f') _ _ _ _ = _ ∧ _
    unfold LB_X12_said_60
    have en := hP.n
    have h8 := hP.A.1
    have h0 := hS.1
    obtain ⟨b1, d1, d2, d3⟩ := laysB_s hP hS (ear := (e : Int)) (by omega)
    have hP1 : InvP a b1 := hP.fr (Fr.refl (fun _ _ => false) _) d3
    have hS1 : InvS a b1 := hS.fr (Fr.refl (fun _ _ => false) _) d3
    have hw := hS1.2 i (by omega)
    have hway := wayA_in hP.A (a := (e : Int)) (b := a 10 i) (by omega) hw.2.1
    have hdiv := div_b (x := wayA a (e : Int) (a 10 i)) (y := a 1 7) (by omega) (by omega)
    have et : a 11 i + wayA a (e : Int) (a 10 i) / a 1 7 = arA a (e : Int) i := rfl
    have hok := hrA_ok hP.A hS.A (ear := (e : Int)) (by omega) s (by omega)
    rw [show (a 9 4).toNat = s by omega] at d2
    rw [if_neg (by omega), d1, cll_s, ald_s (by omega), Int.toNat_natCast, hw.1.2, ald_s (by omega), Int.toNat_natCast, hw.1.1, wayOf_s hP1 (by omega) hw.2.1, cll_s, hP1.1.2.2.1, dvn_s (by omega), nmv_s, nmv_s, tdiv_p hway.1, wr_s (x := wayA a (e : Int) (a 10 i) / a 1 7) (by omega), wr_s (by omega), et]
    have hb := cntP_b (hrdP a s i) e
    have x := said104 (m := b1) (h := hrA a (e : Int) s) (t := arA a (e : Int) i) (e := (e : Int)) (i := i) (L_X12_said_60 f') d2 (by have := hok.1; omega) (by omega) (by omega) (c0 := cntP (hrdP a s i) e) (by omega) (hrA a (e : Int) s).1 0 (by omega) 100000 (by have := hok.1; omega)
    rw [show ((0 : Nat) : Int) = 0 from rfl, show cntP (eqH (hrA a (e : Int) s) (arA a (e : Int) i) (b1 61 i)) 0 = 0 from rfl, Int.add_zero, hw.1.1] at x
    rw [x]
    have hc := eqH_c hok.2.1 (arA a (e : Int) i) (a 10 i) (hrA a (e : Int) s).1 (Nat.le_refl _)
    have hin := hrd_in hP.A hS.A (e := e) (by omega) hs hi
    have es : cntP (hrdP a s i) e + cntP (eqH (hrA a (e : Int) s) (arA a (e : Int) i) (a 10 i)) (hrA a (e : Int) s).1 = cntP (hrdP a s i) (e + 1) := by
      rw [cntP_s]
      by_cases c : hrdP a s i e
      · obtain ⟨k, k1, k2, k3⟩ := hin.mp c
        rw [if_pos c, hc.1 ⟨k, k1, k3, k2⟩]
      · rw [if_neg c, hc.2 (fun ⟨k, k1, k2⟩ => c (hin.mpr ⟨k, k1, k2.2, k2.1⟩))]
    rw [es]
    obtain ⟨b', e1, e2⟩ := ih (e + 1) b1 f' (by omega) hP1 hS1 (by omega)
    rw [show ((e + 1 : Nat) : Int) = (e : Int) + 1 by omega] at e1
    exact ⟨b', e1, d3.trans e2⟩
theorem said_s {a b : Mm} (hP : InvP a b) (hS : InvS a b) (i w : Int) : ∃ r b', F_X11_said i w a = some (r, a) ∧ F_X12_said i w b = some (r, b') ∧ Fr sHb b b' := by
  have h0 := hS.1
  have h8 := hP.A.1
  unfold F_X11_said F_X12_said
  rw [h0.1, wr_s (x := a 9 4 - 1) (by omega), within_s, cll_s, ibn, lies_s, cll_s, ib0]
  by_cases c1 : 0 ≤ i ∧ i ≤ a 9 4 - 1
  · obtain ⟨k, rfl⟩ : ∃ k : Nat, i = k := ⟨i.toNat, by omega⟩
    have hw := hS.2 k (by omega)
    rw [if_pos c1, if_pos c1, lies_s, cll_s, ibn, whoA_s hS.A (by omega), brA_s hS.A (by omega), cll_s, cll_s]
    by_cases w0 : w = 0
    · refine ⟨a 10 k, b, ?_, ?_, Fr.refl _ _⟩
      · rw [if_pos w0]
      · rw [if_pos (by omega), if_neg (by omega), if_neg (by simp [w0]), ald_s (by omega), Int.toNat_natCast, hw.1.1]
    · by_cases w1 : w = 1
      · refine ⟨a 11 k, b, ?_, ?_, Fr.refl _ _⟩
        · rw [if_neg w0, if_pos w1]
        · rw [if_pos (by omega), if_neg (by omega), if_pos w0, ald_s (by omega), Int.toNat_natCast, hw.1.2]
      · by_cases w2 : w = 2
        · have x := ears_s hP.A hS.A (n := (a 1 5).toNat) (s := (a 9 4).toNat) (i := k) (by omega) (by omega) (by omega)
          obtain ⟨b', y1, y2⟩ := said60 (a := a) (n := (a 1 5).toNat) (s := (a 9 4).toNat) (i := k) (by omega) (by omega) (by omega) (a 1 5).toNat 0 b 100000 (by omega) hP hS (by omega)
          rw [show ((0 : Nat) : Int) = 0 from rfl, show cntP (hrdP a (a 9 4).toNat k) 0 = 0 from rfl] at y1
          refine ⟨cntP (hrdP a (a 9 4).toNat k) (a 1 5).toNat, b', ?_, ?_, y2⟩
          · rw [if_neg w0, if_neg w1, if_pos w2, x, cll_s]
          · rw [if_pos (by omega), if_pos (by omega), nmv_s, nmv_s, y1]
        · refine ⟨-1, b, ?_, ?_, Fr.refl _ _⟩
          · rw [if_neg w0, if_neg w1, if_neg w2]
          · rw [if_neg (by omega)]
  · exact ⟨-1, b, if_neg c1, if_neg c1, Fr.refl _ _⟩

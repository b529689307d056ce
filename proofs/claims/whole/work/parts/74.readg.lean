/-! read: the reference, and both -/
theorem readB {a b : Mm} {G : Tg} {ear what : Int} {n : Nat} (hn : 1 ≤ n ∧ n ≤ 12) (hw : -1 ≤ what ∧ what ≤ (n : Int) - 1) (hP : InvP a b) (hT : InvT a b) (hS : InvS a b) (hB : GB b G) (he : 0 ≤ ear ∧ ear < a 1 5) (ht : 2 * (n : Int) ≤ a 7 1) :
    ∃ r b', L_X12_read_57 100000 ear (n : Int) what 0 (upd2 b 54 1 0) = some (r, b') ∧ Fr sRe b b' ∧ b' 54 1 = 0 ∧
      ((¬ Such n n (fun j => a 8 (2 * j)) (fun j => a 8 (2 * j + 1)) ∧ r = -2) ∨ (Such n n (fun j => a 8 (2 * j)) (fun j => a 8 (2 * j + 1)) ∧
        ((what = -1 ∧ r = Bw (ftB G (fun w => wayA a ear (w : Int)) (a 1 6) ear (fun j => a 8 (2 * j)) (fun j => a 8 (2 * j + 1)) (lgH (hrA a ear (a 9 4).toNat))) (a 1 5).toNat n 0 (lwH (hrA a ear (a 9 4).toNat))) ∨
         (∃ w0 : Nat, what = (w0 : Int) ∧ S8 r ∧ ∀ v, v < 8 → (bit r v = 1 ↔ v < (a 1 5).toNat ∧ (0 < Aw (ftB G (fun w => wayA a ear (w : Int)) (a 1 6) ear (fun j => a 8 (2 * j)) (fun j => a 8 (2 * j + 1)) (lgH (hrA a ear (a 9 4).toNat))) (a 1 5).toNat (lwH (hrA a ear (a 9 4).toNat)) (w0 + 1) v ∧ 0 < Bw (ftB G (fun w => wayA a ear (w : Int)) (a 1 6) ear (fun j => a 8 (2 * j)) (fun j => a 8 (2 * j + 1)) (lgH (hrA a ear (a 9 4).toNat))) (a 1 5).toNat (n - (w0 + 1)) (w0 + 1) v)))))) := by
  have hN := hP.A.1
  have t0 := hT.1
  obtain ⟨b1, e1, e2, e3⟩ := cp57 (n := n) (T := a 8) (ear := ear) (what := what) hn.2 n 0 (upd2 b 54 1 0) 100000 (by omega) (fun j hj => by rw [u2r (by decide)]; exact (hT.2 j (by omega)).1.symm) (fun j hj => absurd hj (by omega)) (by omega)
  have e1' : L_X12_read_57 100000 ear (n : Int) what 0 (upd2 b 54 1 0) = L_X12_read_104 100000 ear (n : Int) what ((0 : Nat) : Int) b1 := by
    rw [← e1]
    rfl
  have f1 : Fr (fun k i => k == 80 || k == 81 || (k == 54 && i == 1)) b b1 := by
    intro c i hc
    simp only [Bool.or_eq_false_iff, Bool.and_eq_false_iff, beq_eq_false_iff_ne] at hc
    rw [e3 c (by omega) (by omega)]
    by_cases e : c = 54
    · subst e; exact u2n (by omega)
    · rw [u2r e]
  have hP1 : InvP a b1 := hP.fr (Fr.refl (fun _ _ => false) a) f1
  have hS1 : InvS a b1 := hS.fr (Fr.refl (fun _ _ => false) a) f1
  have f1' : Fr sRe b b1 := toRe f1 (fun k i e => by
    unfold sRe at e
    simp only [Bool.or_eq_false_iff, Bool.and_eq_false_iff, beq_eq_false_iff_ne, decide_eq_false_iff_not] at e ⊢
    omega)
  have h541 : b1 54 1 = 0 := by rw [e3 54 (by decide) (by decide), u2s]
  rw [e1']
  rcases ck104 (n := n) (ear := ear) (what := what) hn.2 n 0 b1 100000 (by omega) (by omega) with ⟨z1, z2⟩ | ⟨⟨j, z1, z2⟩, z3⟩
  · rw [z2]
    have hsu : Such n n (fun j => a 8 (2 * j)) (fun j => a 8 (2 * j + 1)) := ⟨fun j hj => by have := (z1 j (by omega) hj).1; rw [(e2 j hj).1] at this; exact this, fun j hj => by have := (z1 j (by omega) hj).2; rw [(e2 j hj).2] at this; exact this⟩
    obtain ⟨b2, l1, l2, l3, l4⟩ := last_s hP1 hS1 he
    have h9 := hS.A.1
    have ho := hrA_ok hP.A hS.A he (a 9 4).toNat (by omega)
    have hL9 := (lwH_in ho (by omega)).1
    generalize hL0 : lwH (hrA a ear (a 9 4).toNat) = L0 at *
    generalize hlg : lgH (hrA a ear (a 9 4).toNat) = lg at *
    rw [l1, cll_s]
    obtain ⟨b3, s1, s2, s3⟩ := zer164 (n := n) (ear := ear) (what := what) hL9 126 0 b2 100000 (by omega) l3 (fun v hv => absurd hv (by omega)) (by omega)
    have f3 : Fr sFw b2 b3 := by
      intro c i hc
      have n1 : c ≠ 82 := fun z => by subst z; exact (nomatch (show true = false from hc))
      have n2 : c ≠ 83 := fun z => by subst z; exact (nomatch (show true = false from hc))
      rw [s3 c n1 n2]
    have hB3 : GB b3 G := ((hB.frRe f1').frRe (toRe l2 (fun k i e => Re_Ll e))).frRe (toRe f3 (fun k i e => Re_Fw e))
    have hP3 : InvP a b3 := (hP1.fr (Fr.refl (fun _ _ => false) a) l2).fr (Fr.refl (fun _ _ => false) a) f3
    have hR3 : RbS a b3 G (a 1 5).toNat n ear lg (fun j => a 8 (2 * j)) (fun j => a 8 (2 * j + 1)) :=
      ⟨⟨hP3, hB3, by omega, by omega, hn.2⟩, by rw [s3 54 (by decide) (by decide)]; exact l4, fun i hi => by
        rw [s3 80 (by decide) (by decide), s3 81 (by decide) (by decide), l2.row 80 (fun _ => rfl), l2.row 81 (fun _ => rfl)]
        exact e2 i hi⟩
    obtain ⟨b4, u1, u2, u3, u4⟩ := fw206 (what := what) (L0 := L0) n 0 b3 100000 (by omega) hR3 (fun j v h1 h2 => by
      have : j = 0 := by omega
      subst this
      rw [Nat.mul_zero, Nat.zero_add]
      exact (s2 v (by omega)).1) (fun m h1 h2 => by rw [(s2 m h2).1, if_neg (by omega)]) (by omega)
    obtain ⟨b5, v1, v2, v3, v4⟩ := ones319 (n := n) (ear := ear) (what := what) hn.2 9 0 b4 100000 (by omega) (fun v hv => absurd hv (by omega)) (by omega)
    have f5 : Fr sFw b4 b5 := by
      intro c i hc
      have n2 : c ≠ 83 := fun z => by subst z; exact (nomatch (show true = false from hc))
      rw [v4 c n2]
    have hR5 := (hR3.fr u2).fr f5
    generalize hft : ftB G (fun w => wayA a ear (w : Int)) (a 1 6) ear (fun j => a 8 (2 * j)) (fun j => a 8 (2 * j + 1)) lg = ft at *
    obtain ⟨b6, w1, w2, w3, w4⟩ := bw350 (what := what) n b5 100000 (Nat.le_refl _) hR5 (fun j v h1 h2 h3 => by
      have : j = n := by omega
      subst this
      rw [hft, v2 v h3, Nat.sub_self]
      rfl) (fun m hm => by rw [v3 m hm, u4]; exact (s2 m (by omega)).2) (by omega)
    rw [hft] at w3
    have f6 : Fr sRe b b6 := ((((f1'.trans (toRe l2 (fun k i e => Re_Ll e))).trans (toRe f3 (fun k i e => Re_Fw e))).trans (toRe u2 (fun k i e => Re_Fw e))).trans (toRe f5 (fun k i e => Re_Fw e))).trans (toRe w2 (fun k i e => Re_Fw e))
    have h546 : b6 54 1 = 0 := by rw [w2 54 1 rfl, f5 54 1 rfl, u2 54 1 rfl, f3 54 1 rfl, l2 54 1 rfl]; exact h541
    have h5455 : b6 54 55 = (L0 : Int) := by rw [w2 54 55 rfl, f5 54 55 rfl, u2 54 55 rfl, f3 54 55 rfl]; exact l3
    have h542 : b6 54 2 = ((a 1 5).toNat : Int) := by rw [f6 54 2 rfl, hP.n]; omega
    rw [s1, u1, v1, w1]
    unfold rdEnd
    by_cases hw1 : what = -1
    · rw [if_neg (fun z => z hw1), h5455, ald_s (by omega), Int.toNat_natCast]
      refine ⟨_, b6, rfl, f6, h546, Or.inr ⟨hsu, Or.inl ⟨hw1, ?_⟩⟩⟩
      have := w3 0 L0 (by omega) hL9
      rw [Nat.mul_zero, Nat.zero_add, Nat.sub_zero] at this
      exact this
    · rw [if_pos hw1, nmv_s, nmv_s]
      obtain ⟨w0, hw0⟩ : ∃ w0 : Nat, what = (w0 : Int) := ⟨what.toNat, by omega⟩
      subst hw0
      have h0 : ∀ v : Nat, v < 8 → bit 0 v = 0 := by decide +kernel
      obtain ⟨z, y1, y2, y3⟩ := set462 (N := (a 1 5).toNat) (w0 := w0) (P := fun v => 0 < Aw ft (a 1 5).toNat L0 (w0 + 1) v ∧ 0 < Bw ft (a 1 5).toNat (n - (w0 + 1)) (w0 + 1) v) (by omega) (by omega) (a 1 5).toNat 0 b6 0 100000 (by omega) h542 (fun v hv => by
        have q1 := w3 (w0 + 1) v (by omega) (by omega)
        have q2 : b6 82 (9 * (w0 + 1) + v) = Aw ft (a 1 5).toNat L0 (w0 + 1) v := by
          rw [w4, v4 82 (by decide)]
          exact u3 (w0 + 1) v (by omega) (by omega)
        rw [show 9 * w0 + 9 + v = 9 * (w0 + 1) + v by omega, q1, q2]) (by decide) ⟨by decide, by decide⟩ (fun v hv => by
        rw [show ((0 : Nat) : Int) = 0 from rfl, h0 v hv]
        constructor
        · intro z; exact absurd z (by decide)
        · rintro ⟨z, _⟩; omega) (by omega)
      rw [show ((0 : Nat) : Int) = 0 from rfl] at y1
      rw [y1]
      exact ⟨z, b6, rfl, f6, h546, Or.inr ⟨hsu, Or.inr ⟨w0, rfl, y2, y3⟩⟩⟩
  · rw [z3]
    refine ⟨-2, b1, rfl, f1', h541, Or.inl ⟨fun z => z2 ?_, rfl⟩⟩
    rw [(e2 j z1).1, (e2 j z1).2]
    exact ⟨z.1 j z1, z.2 j z1⟩
theorem read_s {a b : Mm} {G : Tg} (hP : InvP a b) (hT : InvT a b) (hS : InvS a b) (hH : InvH a) (hA : GA a G) (hB : GB b G) (hD : InvD a) (ear nn what : Int) (hnn : inR nn) : ∃ r a' b', F_X11_read ear nn what a = some (r, a') ∧ F_X12_read ear nn what b = some (r, b') ∧ Fr sRd a a' ∧ Fr sRe b b' ∧ InvH a' ∧ InvT a' b' ∧ InvD a' := by
  have hN := hP.A.1
  have en := hP.n
  have t0 := hT.1
  have no : ∃ r a' b', some ((-1 : Int), a) = some (r, a') ∧ some ((-1 : Int), b) = some (r, b') ∧ Fr sRd a a' ∧ Fr sRe b b' ∧ InvH a' ∧ InvT a' b' ∧ InvD a' := ⟨-1, a, b, rfl, rfl, Fr.refl _ _, Fr.refl _ _, hH, hT, hD⟩
  unfold F_X11_read F_X12_read
  rw [has_s, cll_s, ib0, isMouth_s _ _ (by omega), cll_s, ib0, en]
  by_cases h1 : 0 ≤ ear ∧ ear < a 1 5
  · rw [if_pos h1, if_pos h1, within_s, cll_s, ib0, lies_s, cll_s, ib0]
    by_cases h2 : 1 ≤ nn ∧ nn ≤ 12
    · rw [if_pos h2, if_pos h2, within_s, cll_s, ib0, lies_s, cll_s, ib0, wr_s (x := nn - 1) (by omega)]
      by_cases h3 : -1 ≤ what ∧ what ≤ nn - 1
      · rw [if_pos h3, if_pos h3, wr_s (x := 2 * nn) (by omega)]
        unfold F_X10_has
        by_cases h4 : 2 * nn ≤ a 7 1
        · rw [if_neg (by omega), cll_s, if_pos (by decide), if_pos (by omega), stf_s, nmv_s]
          obtain ⟨n, rfl⟩ : ∃ n : Nat, nn = (n : Int) := ⟨nn.toNat, by omega⟩
          obtain ⟨r, a', x1, x2, x3, x4, x5, x6⟩ := readA (n := n) (by omega) h3 hP hT hS hH hA hD h1 h4
          obtain ⟨r', b', y1, y2, y3, y4⟩ := readB (n := n) (by omega) h3 hP hT hS hB h1 h4
          have hi : InvT a' b' := by
            unfold InvT
            rw [x5, y3]
            exact ⟨⟨rfl, by decide, by decide⟩, fun i hi => absurd hi (by omega)⟩
          have hr : r' = r := by
            rcases x6 with ⟨z1, z2⟩ | ⟨z1, z2⟩
            · rcases y4 with ⟨w1, w2⟩ | ⟨w1, w2⟩
              · omega
              · exact absurd w1 z1
            · rcases y4 with ⟨w1, w2⟩ | ⟨w1, w2⟩
              · exact absurd z1 w1
              · have h9 := hS.A.1
                have ho := hrA_ok hP.A hS.A h1 (a 9 4).toNat (by omega)
                have hL9 := (lwH_in ho (by omega)).1
                rcases z2 with ⟨p1, p2⟩ | ⟨w0, p1, p2, p3⟩
                · rcases w2 with ⟨q1, q2⟩ | ⟨w0', q1, _⟩
                  · rw [p2, q2]
                    have := allWays (ftB G (fun w => wayA a ear (w : Int)) (a 1 6) ear (fun j => a 8 (2 * j)) (fun j => a 8 (2 * j + 1)) (lgH (hrA a ear (a 9 4).toNat))) (N := (a 1 5).toNat) (by omega) hL9 (n - 1)
                    rw [show n - 1 + 1 = n by omega] at this
                    exact this
                  · omega
                · rcases w2 with ⟨q1, q2⟩ | ⟨w0', q1, q2, q3⟩
                  · omega
                  · have : w0' = w0 := by omega
                    subst this
                    refine S8_eq q2 p2 fun v hv => ?_
                    rw [q3 v hv, p3 v hv, show n - (w0' + 1) = n - 1 - w0' by omega]
                    constructor
                    · exact fun z => z.2
                    · intro z
                      exact ⟨((Aw_pos _ _ _ _ _).mp z.1).1, z⟩
          subst hr
          exact ⟨r', a', b', x1, y1, x2, y2, x3, hi, x4⟩
        · rw [if_pos (by omega), cll_s, if_neg (by decide), if_neg (by omega)]
          exact no
      · rw [if_neg h3, if_neg h3]; exact no
    · rw [if_neg h2, if_neg h2]; exact no
  · rw [if_neg h1, if_neg h1]; exact no

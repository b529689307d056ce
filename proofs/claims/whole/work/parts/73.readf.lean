/-! read: both -/
theorem sLfr {a a' : Mm} {S : Nat → Nat → Bool} (hf : Fr S a a') (h1 : ∀ c, c = 1 ∨ c = 2 ∨ c = 3 ∨ c = 5 ∨ c = 9 ∨ c = 10 ∨ c = 11 ∨ c = 14 ∨ c = 15 ∨ c = 16 → ∀ i, S c i = false) (hP : PpA a) (hS : SpA a) (hH : InvH a) : PpA a' ∧ SpA a' ∧ InvH a' :=
  ⟨hP.fr hf (h1 1 (by omega)) (h1 2 (by omega)) (h1 3 (by omega)) (h1 5 (by omega)), hS.fr hf (h1 1 (by omega) 5) (h1 9 (by omega) 4) (h1 10 (by omega)) (h1 11 (by omega)), hH.fr hf (h1 1 (by omega)) (h1 2 (by omega)) (h1 3 (by omega)) (h1 10 (by omega)) (h1 11 (by omega)) (h1 9 (by omega) 4) ⟨h1 14 (by omega) 4, h1 14 (by omega) 5⟩ (h1 15 (by omega)) (h1 16 (by omega))⟩
/-- where both begin, behind what the ear has heard -/
theorem begin_s {a m b : Mm} {G : Tg} {ear : Int} {cr ca : Nat} {sz : Int} (hP : InvP a b) (hS : InvS a b) (hH : InvH a) (hA : GA a G) (hcr : isRw cr) (hca : isRw ca) (hne : cr ≠ ca) (h8 : a 34 8 = (cr : Int)) (h9 : a 34 9 = (ca : Int)) (he : 0 ≤ ear ∧ ear < a 1 5)
    (hm : ∀ c, c ≠ 35 → c ≠ 36 → m c = (upd2 a 34 10 sz) c) :
    ∃ a', cll (F_X3_listen ear (upd2 m 7 1 0)) (fun r19 m20 => F_X5_beginBehind ear m20) = some (0, a') ∧ Fr sRd a a' ∧ InvH a' ∧ PpA a' ∧ GA a' G ∧ a' 1 5 = a 1 5 ∧ a' 1 6 = a 1 6 ∧ (∀ w : Int, wayA a' ear w = wayA a ear w) ∧ a' 34 10 = sz ∧ a' 34 11 = ear ∧ a' 34 12 = ((lwH (hrA a ear (a 9 4).toNat) : Nat) : Int) ∧ a' 34 13 = lgH (hrA a ear (a 9 4).toNat) ∧ a' 34 8 = (cr : Int) ∧ a' 34 9 = (ca : Int) ∧ a' 35 = m 35 ∧ a' 36 = m 36 ∧ a' 7 1 = 0 ∧ (∀ v, v < 9 → a' cr v = if v = lwH (hrA a ear (a 9 4).toNat) then 1 else 0) := by
  have hN := hP.A.1
  have f0 : Fr (fun k i => k == 35 || k == 36 || (k == 34 && i == 10) || (k == 7 && i == 1)) a (upd2 m 7 1 0) := by
    intro c i hc
    simp only [Bool.or_eq_false_iff, Bool.and_eq_false_iff, beq_eq_false_iff_ne] at hc
    have e1 : (upd2 m 7 1 0) c i = m c i := by
      by_cases e : c = 7
      · subst e; exact u2n (by omega)
      · rw [u2r e]
    rw [e1, hm c (by omega) (by omega)]
    by_cases e : c = 34
    · subst e; exact u2n (by omega)
    · rw [u2r e]
  obtain ⟨p1, p2, p3⟩ := sLfr f0 (fun c hc i => by rcases hc with e | e | e | e | e | e | e | e | e | e <;> subst e <;> rfl) hP.A hS.A hH
  have e15 : (upd2 m 7 1 0) 1 5 = a 1 5 := f0 1 5 rfl
  have e94 : (upd2 m 7 1 0) 9 4 = a 9 4 := f0 9 4 rfl
  obtain ⟨a1, l1, l2, l3, l4⟩ := listenA_s p1 p2 p3 (ear := ear) (by rw [e15]; exact he)
  rw [e94, hrA_fr f0] at l3
  have h9' := hS.A.1
  have ho := hrA_ok hP.A hS.A he (a 9 4).toNat (by omega)
  have g8 : a1 34 8 = (cr : Int) := by rw [l4 34 8 rfl, f0 34 8 rfl]; exact h8
  obtain ⟨a2, b1, b2, b3, b4, b5, b6⟩ := beg_s (ear := ear) hcr g8 l3 ho (by omega) (by omega)
  have hfr : Fr sRd a a2 := by
    refine ((toRd f0 ?_).trans (toRd l4 (fun k i e => Re_L e))).trans (toRd b2 (fun k i e => Re_Bg e))
    intro k i e
    unfold sRd at e
    simp only [Bool.or_eq_false_iff, Bool.and_eq_false_iff, beq_eq_false_iff_ne, decide_eq_false_iff_not] at e ⊢
    omega
  have hH1 : InvH a1 := by
    right
    rw [l2, l4 1 5 rfl, l4 9 4 rfl, hrA_fr l4, e15, e94, hrA_fr f0]
    exact ⟨he, l3⟩
  refine ⟨a2, by rw [l1, cll_s]; exact b1, hfr, hH1.fr b2, hP.A.fr hfr, hA.frRd hfr, hfr 1 5 rfl, hfr 1 6 rfl, fun w => wayA_fr hfr (fun _ => rfl) (fun _ => rfl) ear w, ?_, b3, b4, b5, ?_, ?_, ?_, ?_, ?_, b6⟩
  · rw [b2 34 10 rfl, l4 34 10 rfl, u2r (by decide), hm 34 (by decide) (by decide), u2s]
  · rw [b2 34 8 rfl]; exact g8
  · rw [b2 34 9 rfl, l4 34 9 rfl, f0 34 9 rfl]; exact h9
  · rw [b2.row 35 (fun _ => rfl), l4.row 35 (fun _ => rfl), u2r (by decide)]
  · rw [b2.row 36 (fun _ => rfl), l4.row 36 (fun _ => rfl), u2r (by decide)]
  · rw [b2 7 1 rfl, l4 7 1 rfl, u2s]
theorem readA {a b : Mm} {G : Tg} {ear what : Int} {n : Nat} (hn : 1 ≤ n ∧ n ≤ 12) (hw : -1 ≤ what ∧ what ≤ (n : Int) - 1) (hP : InvP a b) (hT : InvT a b) (hS : InvS a b) (hH : InvH a) (hA : GA a G) (hD : InvD a) (he : 0 ≤ ear ∧ ear < a 1 5) (ht : 2 * (n : Int) ≤ a 7 1) :
    ∃ r a', (cll (F_X5_takePairs (n : Int) a) (fun r13 m14 => nmv r13 (fun x15 => cll (F_X10_empty m14) (fun r16 m17 => if ¬ x15 = 0 then cll (F_X3_listen ear m17) (fun r19 m20 => cll (F_X5_beginBehind ear m20) (fun r21 m22 => nmv 0 (fun x23 => (L_X11_read_102 100000 (n : Int) what x23 m22)))) else some ((-2), m17)))) = some (r, a') ∧ Fr sRd a a' ∧ InvH a' ∧ InvD a' ∧ a' 7 1 = 0 ∧
      ((¬ Such n n (fun j => a 8 (2 * j)) (fun j => a 8 (2 * j + 1)) ∧ r = -2) ∨ (Such n n (fun j => a 8 (2 * j)) (fun j => a 8 (2 * j + 1)) ∧
        ((what = -1 ∧ r = sg 8 (Aw (ftB G (fun w => wayA a ear (w : Int)) (a 1 6) ear (fun j => a 8 (2 * j)) (fun j => a 8 (2 * j + 1)) (lgH (hrA a ear (a 9 4).toNat))) (a 1 5).toNat (lwH (hrA a ear (a 9 4).toNat)) n)) ∨
         (∃ w0 : Nat, what = (w0 : Int) ∧ S8 r ∧ ∀ v, v < 8 → (bit r v = 1 ↔ 0 < Aw (ftB G (fun w => wayA a ear (w : Int)) (a 1 6) ear (fun j => a 8 (2 * j)) (fun j => a 8 (2 * j + 1)) (lgH (hrA a ear (a 9 4).toNat))) (a 1 5).toNat (lwH (hrA a ear (a 9 4).toNat)) (w0 + 1) v ∧ 0 < Bw (ftB G (fun w => wayA a ear (w : Int)) (a 1 6) ear (fun j => a 8 (2 * j)) (fun j => a 8 (2 * j + 1)) (lgH (hrA a ear (a 9 4).toNat))) (a 1 5).toNat (n - 1 - w0) (w0 + 1) v)))))) := by
  have hN := hP.A.1
  have t0 := hT.1
  obtain ⟨cr, ca, d1, d2, d3, d4, d5⟩ := hD
  obtain ⟨m1, e1, e2, e3⟩ := tp_l (n := n) (T := a 8) hn.2 n 0 (upd2 a 34 10 (n : Int)) 100000 (by omega) (u2s _ _ _ _) (by rw [u2r (by decide)]; omega) (fun j _ => by rw [u2r (by decide)]) (fun j hj => absurd hj (by omega)) (by omega)
  have htp : F_X5_takePairs (n : Int) a = cll (F_X5_allSuch (n : Int) m1) (fun r2 m3 => some (r2, m3)) := by
    unfold F_X5_takePairs
    rw [min_s, cll_s, Int.min_eq_left (by omega), stf_s, nmv_s, ← e1]
    rfl
  have h10 : m1 34 10 = (n : Int) := by rw [e3 34 (by decide) (by decide), u2s]
  have hsu : Such n n (m1 35) (m1 36) ↔ Such n n (fun j => a 8 (2 * j)) (fun j => a 8 (2 * j + 1)) := by
    unfold Such
    constructor
    · rintro ⟨z1, z2⟩
      exact ⟨fun j hj => by have := z1 j hj; rw [(e2 j hj).1] at this; exact this, fun j hj => by have := z2 j hj; rw [(e2 j hj).2] at this; exact this⟩
    · rintro ⟨z1, z2⟩
      exact ⟨fun j hj => by rw [(e2 j hj).1]; exact z1 j hj, fun j hj => by rw [(e2 j hj).2]; exact z2 j hj⟩
  rw [htp]
  have f0 : Fr sRd a (upd2 m1 7 1 0) := by
    intro c i hc
    unfold sRd at hc
    simp only [Bool.or_eq_false_iff, Bool.and_eq_false_iff, beq_eq_false_iff_ne, decide_eq_false_iff_not] at hc
    have e1' : (upd2 m1 7 1 0) c i = m1 c i := by
      by_cases e : c = 7
      · subst e; exact u2n (by omega)
      · rw [u2r e]
    rw [e1', e3 c (by omega) (by omega), u2r (by omega)]
  rcases such_s hn.2 hn.2 h10 with ⟨z1, z2⟩ | ⟨z1, z2⟩
  · rw [z2, cll_s, cll_s, nmv_s]
    unfold F_X10_empty
    rw [stf_s, cll_s, if_pos (by decide)]
    obtain ⟨a4, r1, r2, r3, r4, r5, r6, r7, r8, r9, r10, r11, r12, r13, r14, r15, r16, r17, r18⟩ := begin_s (m := m1) (sz := (n : Int)) hP hS hH hA d1 d2 d3 d4 d5 he e3
    have hcl : cll (F_X3_listen ear (upd2 m1 7 1 0)) (fun r19 m20 => cll (F_X5_beginBehind ear m20) (fun r21 m22 => nmv 0 (fun x23 => (L_X11_read_102 100000 (n : Int) what x23 m22)))) = L_X11_read_102 100000 (n : Int) what ((0 : Nat) : Int) a4 := by
      cases hl : F_X3_listen ear (upd2 m1 7 1 0) with
      | none => rw [hl] at r1; exact (nomatch r1)
      | some q =>
        obtain ⟨q1, q2⟩ := q
        rw [hl, cll_s] at r1
        rw [cll_s, r1, cll_s, nmv_s]
        rfl
    rw [hcl]
    generalize hL0 : lwH (hrA a ear (a 9 4).toNat) = L0 at *
    generalize hlg : lgH (hrA a ear (a 9 4).toNat) = lg at *
    have hRd : RdS a4 G (a 1 5).toNat n ear lg (a 1 6) (fun w => wayA a ear (w : Int)) (fun j => a 8 (2 * j)) (fun j => a 8 (2 * j + 1)) cr ca :=
      ⟨⟨r4, r5, by rw [r6]; omega, by omega, r7, fun w => r8 _⟩, ⟨r9, r10, r12, hn.2⟩, fun i hi => by rw [r15, r16]; exact e2 i hi, d1, d2, d3, r13, r14⟩
    obtain ⟨a5, cr', ca', s1, s2, s3, s4, s5⟩ := rd102 (what := what) (L0 := L0) n 0 a4 cr ca 100000 (by omega) hRd r18 (fun j hj => absurd hj (by omega)) (by omega)
    generalize hft : ftB G (fun w => wayA a ear (w : Int)) (a 1 6) ear (fun j => a 8 (2 * j)) (fun j => a 8 (2 * j + 1)) lg = ft at *
    have h105 : a5 34 10 = (n : Int) := s2.2.1.1
    obtain ⟨a6, v1, v2, v3⟩ := keep7 (ft := ft) (N := (a 1 5).toNat) (L0 := L0) (n := n) (by omega) hn.2 (n - 1) a5 100000 (by omega) (fun j hj => (s4 j hj).2) (fun j hj => by
      refine ⟨(s4 j hj).1.1, fun v hv => ?_⟩
      rw [(s4 j hj).1.2 v hv]
      constructor
      · intro z
        refine ⟨z, fun z2 => ?_⟩
        rw [show n - 1 - j = 0 by omega]
        show (0 : Int) < 1
        decide
      · exact fun z => z.1) (by omega)
    have hkp : F_X5_keepWhatGoesOn a5 = some (0, a6) := by
      unfold F_X5_keepWhatGoesOn
      rw [nmv_s, h105, wr_s (by omega), show (n : Int) - 2 = ((n - 1 : Nat) : Int) - 1 by omega]
      exact v1
    have hfr6 : Fr sRd a a6 := by
      refine (r2.trans (toRd s5 (fun k i e => Re_Gr e))).trans (fun c i hc => ?_)
      have : c ≠ 38 := fun z => by subst z; exact (nomatch (show true = false from hc))
      rw [v3 c this]
    have hH6 : InvH a6 := by
      have hf : Fr (fun k i => sGr k i) a4 a6 := s5.trans (fun c i hc => by
        have : c ≠ 38 := fun z => by subst z; exact (nomatch (show true = false from hc))
        rw [v3 c this])
      exact r3.fr hf
    have hD6 : InvD a6 := ⟨cr', ca', s2.2.2.2.1, s2.2.2.2.2.1, s2.2.2.2.2.2.1, by rw [v3 34 (by decide)]; exact s2.2.2.2.2.2.2.1, by rw [v3 34 (by decide)]; exact s2.2.2.2.2.2.2.2⟩
    have h76 : a6 7 1 = 0 := by rw [v3 7 (by decide), s5 7 1 rfl]; exact r17
    rw [s1, hkp, cll_s]
    unfold rdA
    by_cases hw1 : what = -1
    · rw [if_neg (fun z => z hw1)]
      have hcr' : isRw cr' := s2.2.2.2.1
      have hmny := many_l (M := 282429536481) (A := Aw ft (a 1 5).toNat L0 n) hcr' (by decide) 8 0 a6 0 100000 (by omega) (by rw [v3 34 (by decide)]; exact s2.2.2.2.2.2.2.1) (fun v hv => ⟨by rw [v3 cr' (by omega)]; exact s3 v (by omega), Aw_b ft _ _ hn.2 v⟩) rfl (by omega) (by omega)
      rw [show ((0 : Nat) : Int) = 0 from rfl] at hmny
      unfold F_X5_howManyRows
      rw [nmv_s, nmv_s, hmny, cll_s]
      exact ⟨_, a6, rfl, hfr6, hH6, hD6, h76, Or.inr ⟨hsu.mp z1, Or.inl ⟨hw1, rfl⟩⟩⟩
    · rw [if_pos hw1]
      obtain ⟨w0, hw0⟩ : ∃ w0 : Nat, what = (w0 : Int) := ⟨what.toNat, by omega⟩
      subst hw0
      unfold F_X5_whoMay
      rw [if_neg (by omega), v3 34 (by decide), h105, if_neg (by omega), ald_s (by omega), cll_s, Int.toNat_natCast]
      exact ⟨_, a6, rfl, hfr6, hH6, hD6, h76, Or.inr ⟨hsu.mp z1, Or.inr ⟨w0, rfl, (v2 w0 (by omega)).1, (v2 w0 (by omega)).2⟩⟩⟩
  · rw [z2, cll_s, cll_s, nmv_s]
    unfold F_X10_empty
    rw [stf_s, cll_s, if_neg (by decide)]
    have f1 : Fr (fun k i => k == 35 || k == 36 || (k == 34 && i == 10) || (k == 7 && i == 1)) a (upd2 m1 7 1 0) := by
      intro c i hc
      simp only [Bool.or_eq_false_iff, Bool.and_eq_false_iff, beq_eq_false_iff_ne] at hc
      have e1 : (upd2 m1 7 1 0) c i = m1 c i := by
        by_cases e : c = 7
        · subst e; exact u2n (by omega)
        · rw [u2r e]
      rw [e1, e3 c (by omega) (by omega)]
      by_cases e : c = 34
      · subst e; exact u2n (by omega)
      · rw [u2r e]
    obtain ⟨p1, p2, p3⟩ := sLfr f1 (fun c hc i => by rcases hc with e | e | e | e | e | e | e | e | e | e <;> subst e <;> rfl) hP.A hS.A hH
    exact ⟨_, _, rfl, f0, p3, ⟨cr, ca, d1, d2, d3, (f1 34 8 rfl).trans d4, (f1 34 9 rfl).trans d5⟩, u2s _ _ _ _, Or.inl ⟨fun z => z1 (hsu.mpr z), rfl⟩⟩

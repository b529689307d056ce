/-! product and sum out of factor -/
theorem ff_bin {op : Int} {f g : Sem} (hf : ff f) (hg : ff g) : ff (sBin op f g) := fun e v => by unfold sBin; rw [hf e v, hg e v]
theorem GotA.mono {a a' : Mm} {c n : Nat} {T : Nat → Int} {p o s p' s' kk kk' : Nat} {g : Sem} (h : GotA a a' c n T p o s p' s' kk g) (hk : kk ≤ kk') : GotA a a' c n T p o s p' s' kk' g :=
  ⟨h.1, h.2.1, h.2.2.1, h.2.2.2.1.mono hk, h.2.2.2.2⟩
theorem GotA.bin {a a1 a3 : Mm} {c n : Nat} {T : Nat → Int} {p o s p1 s1 kk p2 s2 kf : Nat} {g1 g2 : Sem} {op : Int} (h : GotA a a1 c n T p o s p1 s1 kk g1) (h2 : GotA (upd2 a1 32 3 ((p1 + 1 : Nat) : Int)) a3 c n T (p1 + 1) o s1 p2 s2 kf g2) (ho : isOp op) (hk : kf + 1 ≤ kk) (hk1 : 1 ≤ kf) : s2 + 1 ≤ p2 ∧ GotA a (addA a3 c s2 op 0) c n T p o s p2 (s2 + 1) kk (sBin op g1 g2) := by
  obtain ⟨u1, u2, u3, u4, u5, u6, u7⟩ := h
  obtain ⟨v1, v2, v3, v4, v5, v6, v7⟩ := h2
  have hc := u1.1.1
  have hs1 := u1.2.2.2.2.2.2.2
  have l1 := u4.1
  have l2 := v4.1
  have hle : s2 + 1 ≤ p2 := by omega
  have er : ∀ j, j ≤ 2 → (upd2 a1 32 3 ((p1 + 1 : Nat) : Int)) (c + j) = a1 (c + j) := fun j hj => by rw [u2r (by omega)]
  rw [er 1 (by omega), er 2 (by omega)] at v3
  have ec : (upd2 a1 32 3 ((p1 + 1 : Nat) : Int)) c = a1 c := er 0 (by omega)
  rw [ec] at v5
  refine ⟨hle, v1.addA hle op 0, ((u2.trans (Fr.upd (Fr.refl _ _) _ rfl)).trans v2).trans (addA_fr _ _ _ _ _), fun i hi => ?_, ?_, ?_, by omega, by omega⟩
  · rw [addA_d, addA_w, upr_n (by omega), upr_n (by omega), (v3 i (by omega)).1, (v3 i (by omega)).2]
    exact u3 i hi
  · have hA : SegA (addA a3 c s2 op 0 (c + 1)) (addA a3 c s2 op 0 (c + 2)) s s1 kk g1 := u4.ext fun i _ hi => by
      rw [addA_d, addA_w, upr_n (by omega), upr_n (by omega)]
      exact v3 i hi
    have hB : SegA (addA a3 c s2 op 0 (c + 1)) (addA a3 c s2 op 0 (c + 2)) s1 s2 kf g2 := v4.ext fun i _ hi => by
      rw [addA_d, addA_w, upr_n (by omega), upr_n (by omega)]
      exact ⟨rfl, rfl⟩
    exact (A_bin hA hB (by rw [addA_d, upr_s]) ho hk1).mono (by omega)
  · rw [addA_c, upr_n (by decide)]
    intro z
    obtain ⟨z1, z2⟩ := v5 z
    obtain ⟨z3, z4⟩ := u5 z1
    exact ⟨z3, ff_bin z4 z2⟩
theorem prod_l {F : Mm → Rs} {o : Nat} (hF : FacP F o) {a b : Mm} {c n : Nat} {T : Nat → Int} {p s t k : Nat} (hT : TxOk n T) (htop : ¬ isTm (topR b t)) : ∀ (d i p1 s1 t1 k1 fv1 f : Nat) (a1 b1 : Mm) (g1 : Sem), n - p1 ≤ d → i ≤ p1 → GotA a a1 c n T p o s p1 s1 (2 * (6 - o) + 2) g1 → RS b1 n T p1 o t1 k1 → PT b1 t k t1 k1 g1 → Fr sQ b b1 → Keep b b1 t k → n - p1 + 1 < fv1 → d < f →
    ∃ a', L_X2_product_6 F f (i : Int) a1 = some (0, a') ∧ ((BadA a a' c ∧ ∃ b', Bpt fv1 b1 = some (0, b') ∧ BadB a' b b') ∨ (∃ p' s' t' k' g b' fv', GotA a a' c n T p o s p' s' (2 * (6 - o) + 2) g ∧ Bpt fv1 b1 = Bpt fv' b' ∧ RS b' n T p' o t' k' ∧ PT b' t k t' k' g ∧ Fr sQ b b' ∧ Keep b b' t k ∧ n - p' + 1 < fv' ∧ (p' < n → ¬ isTm (T p')))) := by
  intro d
  induction d with
  | zero =>
    intro i p1 s1 t1 k1 fv1 f a1 b1 g1 hd hi hG hR hP hFr hK hfv hf
    obtain ⟨f', rfl⟩ : ∃ f', f = f' + 1 := ⟨f - 1, by omega⟩
    obtain ⟨x, y, e1, e2, e3⟩ := next_s hT hG.1 hR
    unfold Nx at e3
    have hpn := hG.1.2.2.2.1
    refine ⟨a1, ?_, Or.inr ⟨p1, s1, t1, k1, g1, b1, fv1, hG, rfl, hR, hP, hFr, hK, hfv, fun z => absurd z (by omega)⟩⟩
    show LB_X2_product_6 F (L_X2_product_6 F f') _ _ = _
    unfold LB_X2_product_6
    by_cases h2 : (200 : Int) ≤ i
    · rw [if_pos h2]
    · rw [if_neg h2, if_neg (fun z => z hG.1.2.2.2.2.2.1), e1, cll_s, nmv_s, if_neg (by omega), if_neg (by omega), if_neg (by omega)]
  | succ d ih =>
    intro i p1 s1 t1 k1 fv1 f a1 b1 g1 hd hi hG hR hP hFr hK hfv hf
    obtain ⟨f', rfl⟩ : ∃ f', f = f' + 1 := ⟨f - 1, by omega⟩
    obtain ⟨fv2, rfl⟩ : ∃ f', fv1 = f' + 1 := ⟨fv1 - 1, by omega⟩
    obtain ⟨x, y, e1, e2, e3⟩ := next_s hT hG.1 hR
    unfold Nx at e3
    have hpn := hG.1.2.2.2.1
    have hn := hT.1
    by_cases hm : isTm y
    · have hp : p1 < n := by unfold isTm at hm; omega
      have hxy : x = y := by omega
      obtain ⟨b2, k2, r1, r2, r3, r4, r5, r6⟩ := B_tm hT hR hP (by rw [topR_keep hK]; exact htop) hp e2 hm fv2
      have hA2 : CS (upd2 a1 32 3 ((p1 + 1 : Nat) : Int)) c n T (p1 + 1) o s1 := hG.1.to (by omega) (by omega)
      obtain ⟨a3, q1, q2⟩ := hF _ b2 c n T (p1 + 1) s1 (t + 1) k2 100000 fv2 hT hA2 r2 (by omega) (by omega)
      have st : L_X2_product_6 F (f' + 1) (i : Int) a1 = cll (F (upd2 a1 32 3 ((p1 + 1 : Nat) : Int))) (fun r2 m3 => grd (isCd (m3 32 1).toNat) (cll (F_X0_add (m3 32 1).toNat y 0 m3) (fun r5 m6 => L_X2_product_6 F f' ((i + 1 : Nat) : Int) m6))) := by
        show LB_X2_product_6 F (L_X2_product_6 F f') _ _ = _
        unfold LB_X2_product_6 J_X2_product_44
        rw [if_neg (by omega), if_neg (fun z => z hG.1.2.2.2.2.2.1), e1, cll_s, nmv_s, hxy, stf_s, hG.1.2.2.1, wr_s (x := (p1 : Int) + 1) (by omega)]
        simp only [nmv_s]
        rw [wr_s (x := (i : Int) + 1) (by omega)]
        unfold isTm at hm
        rcases hm with z | z | z
        · rw [if_pos z]; rfl
        · rw [if_neg (by omega), if_pos z]; rfl
        · rw [if_neg (by omega), if_neg (by omega), if_pos z]; rfl
      rw [st, q1, cll_s]
      rcases q2 with ⟨q2, b', q3, q4⟩ | ⟨p2, s2, k3, g2, b3, fv3, q2, q3, q4, q5, q6, q7, q8⟩
      · obtain ⟨rr, a4, w1, w2, w3, w4⟩ := add_b (q2.pre (hG.2.1.trans (Fr.upd (Fr.refl _ _) _ rfl))) y 0
        rw [q2.1.2, Int.toNat_natCast, grd_s q2.1.1, w1, cll_s]
        obtain ⟨f2, rfl⟩ : ∃ k, f' = k + 1 := ⟨f' - 1, by omega⟩
        refine ⟨a4, ?_, Or.inl ⟨w2, b', by rw [r1, q3], (q4.of w3 w4).pre (hFr.trans r4)⟩⟩
        show LB_X2_product_6 F (L_X2_product_6 F f2) _ _ = _
        unfold LB_X2_product_6
        by_cases h2 : (200 : Int) ≤ ((i + 1 : Nat) : Int)
        · rw [if_pos h2]
        · rw [if_neg h2, if_pos w2.ne]
      · obtain ⟨z1, z2⟩ := GotA.bin hG q2 (isTm_op hm) (by omega) (by omega)
        rw [q2.1.1.2.1, Int.toNat_natCast, grd_s q2.1.1.1, cadd_s q2.1.2.2.2.2.2.2.1 (by have := q2.1.2.2.2.1; omega), cll_s]
        have hp2 := q2.2.2.2.2.2.1
        have hK3 : Keep b b3 t k := (hK.trans r5 (Nat.le_refl _) (Nat.le_refl _)).trans q7 (by omega) (by have := r3.1; omega)
        have hP3 : PT b3 t k (t + 1) k3 (sBin y g1 g2) := Or.inr ⟨y, g1, g2, k2, rfl, (q7.1 t (by omega)).trans r6, hm, r3.keep q7 (Nat.le_refl _), q5, rfl⟩
        obtain ⟨a', t1', t2'⟩ := ih (i + 1) p2 (s2 + 1) (t + 1) k3 fv3 f' (addA a3 c s2 y 0) b3 (sBin y g1 g2) (by omega) (by omega) z2 q4 hP3 ((hFr.trans r4).trans q6) hK3 q8 (by omega)
        refine ⟨a', t1', ?_⟩
        rw [r1, q3]
        exact t2'
    · refine ⟨a1, ?_, Or.inr ⟨p1, s1, t1, k1, g1, b1, fv2 + 1, hG, rfl, hR, hP, hFr, hK, hfv, fun z => ?_⟩⟩
      · show LB_X2_product_6 F (L_X2_product_6 F f') _ _ = _
        unfold LB_X2_product_6
        unfold isTm at hm
        by_cases h2 : (200 : Int) ≤ i
        · rw [if_pos h2]
        · rw [if_neg h2, if_neg (fun z => z hG.1.2.2.2.2.2.1), e1, cll_s, nmv_s, if_neg (by omega), if_neg (by omega), if_neg (by omega)]
      · rcases e3 with w | w
        · rw [← w.2.2.1]; exact hm
        · omega
theorem prod_p {F : Mm → Rs} {o : Nat} (hF : FacP F o) : ProP (O_X2_product F) o := by
  intro a b c n T p s t k fa fv hT hA hB hfa hfv htop
  obtain ⟨a1, q1, q2⟩ := hF a b c n T p s t k fa fv hT hA hB hfa hfv
  have hn := hT.1
  have h0 : O_X2_product F a = L_X2_product_6 F 100000 ((0 : Nat) : Int) a1 := by
    unfold O_X2_product
    rw [q1, cll_s, nmv_s]
    rfl
  rw [h0]
  rcases q2 with ⟨q2, b', q3, q4⟩ | ⟨p2, s2, k3, g2, b3, fv3, q2, q3, q4, q5, q6, q7, q8⟩
  · refine ⟨a1, ?_, Or.inl ⟨q2, b', q3, q4⟩⟩
    show LB_X2_product_6 F (L_X2_product_6 F 99999) _ _ = _
    unfold LB_X2_product_6
    rw [if_neg (by decide), if_pos q2.ne]
  · rw [q3]
    exact prod_l hF hT htop (n - p2) 0 p2 s2 t k3 fv3 100000 a1 b3 g2 (Nat.le_refl _) (by omega) (q2.mono (by omega)) q4 (Or.inl ⟨rfl, q5⟩) q6 q7 q8 (by omega)
theorem sum_l {F : Mm → Rs} {o : Nat} (hF : ProP F o) {a b : Mm} {c n : Nat} {T : Nat → Int} {p s t k : Nat} (hT : TxOk n T) (htop : ¬ isTm (topR b t)) (htop2 : ¬ isPl (topR b t)) : ∀ (d i p1 s1 t1 k1 fv1 f : Nat) (a1 b1 : Mm) (g1 : Sem), n - p1 ≤ d → i ≤ p1 → GotA a a1 c n T p o s p1 s1 (2 * (6 - o) + 3) g1 → RS b1 n T p1 o t1 k1 → PS b1 t k t1 k1 g1 → Fr sQ b b1 → Keep b b1 t k → n - p1 + 1 < fv1 → d < f → (p1 < n → ¬ isTm (T p1)) →
    ∃ a', L_X2_sum_6 F f (i : Int) a1 = some (0, a') ∧ ((BadA a a' c ∧ ∃ b', Bpt fv1 b1 = some (0, b') ∧ BadB a' b b') ∨ (∃ p' s' t' k' g b' fv', GotA a a' c n T p o s p' s' (2 * (6 - o) + 3) g ∧ Bpt fv1 b1 = Bpt fv' b' ∧ RS b' n T p' o t' k' ∧ PS b' t k t' k' g ∧ Fr sQ b b' ∧ Keep b b' t k ∧ n - p' + 1 < fv' ∧ (p' < n → ¬ isTm (T p') ∧ ¬ isPl (T p')))) := by
  intro d
  induction d with
  | zero =>
    intro i p1 s1 t1 k1 fv1 f a1 b1 g1 hd hi hG hR hP hFr hK hfv hf htm
    obtain ⟨f', rfl⟩ : ∃ f', f = f' + 1 := ⟨f - 1, by omega⟩
    obtain ⟨x, y, e1, e2, e3⟩ := next_s hT hG.1 hR
    unfold Nx at e3
    have hpn := hG.1.2.2.2.1
    refine ⟨a1, ?_, Or.inr ⟨p1, s1, t1, k1, g1, b1, fv1, hG, rfl, hR, hP, hFr, hK, hfv, fun z => absurd z (by omega)⟩⟩
    show LB_X2_sum_6 F (L_X2_sum_6 F f') _ _ = _
    unfold LB_X2_sum_6
    by_cases h2 : (200 : Int) ≤ i
    · rw [if_pos h2]
    · rw [if_neg h2, if_neg (fun z => z hG.1.2.2.2.2.2.1), e1, cll_s, nmv_s, if_neg (by omega), if_neg (by omega)]
  | succ d ih =>
    intro i p1 s1 t1 k1 fv1 f a1 b1 g1 hd hi hG hR hP hFr hK hfv hf htm
    obtain ⟨f', rfl⟩ : ∃ f', f = f' + 1 := ⟨f - 1, by omega⟩
    obtain ⟨fv2, rfl⟩ : ∃ f', fv1 = f' + 1 := ⟨fv1 - 1, by omega⟩
    obtain ⟨x, y, e1, e2, e3⟩ := next_s hT hG.1 hR
    unfold Nx at e3
    have hpn := hG.1.2.2.2.1
    have hn := hT.1
    by_cases hm : isPl y
    · have hp : p1 < n := by unfold isPl at hm; omega
      have hxy : x = y := by omega
      obtain ⟨b2, k2, r1, r2, r3, r4, r5, r6⟩ := B_pl hT hR hP (by rw [topR_keep hK]; exact htop) (by rw [topR_keep hK]; exact htop2) hp e2 hm fv2
      have hA2 : CS (upd2 a1 32 3 ((p1 + 1 : Nat) : Int)) c n T (p1 + 1) o s1 := hG.1.to (by omega) (by omega)
      have ht2 : topR b2 (t + 1) = y := by unfold topR; rw [if_neg (by omega)]; exact r6
      obtain ⟨a3, q1, q2⟩ := hF _ b2 c n T (p1 + 1) s1 (t + 1) k2 100000 fv2 hT hA2 r2 (by omega) (by omega) (by rw [ht2]; unfold isPl at hm; unfold isTm; omega)
      have st : L_X2_sum_6 F (f' + 1) (i : Int) a1 = cll (F (upd2 a1 32 3 ((p1 + 1 : Nat) : Int))) (fun r2 m3 => grd (isCd (m3 32 1).toNat) (cll (F_X0_add (m3 32 1).toNat y 0 m3) (fun r5 m6 => L_X2_sum_6 F f' ((i + 1 : Nat) : Int) m6))) := by
        show LB_X2_sum_6 F (L_X2_sum_6 F f') _ _ = _
        unfold LB_X2_sum_6 J_X2_sum_38
        rw [if_neg (by omega), if_neg (fun z => z hG.1.2.2.2.2.2.1), e1, cll_s, nmv_s, hxy, stf_s, hG.1.2.2.1, wr_s (x := (p1 : Int) + 1) (by omega)]
        simp only [nmv_s]
        rw [wr_s (x := (i : Int) + 1) (by omega)]
        unfold isPl at hm
        rcases hm with z | z
        · rw [if_pos z]; rfl
        · rw [if_neg (by omega), if_pos z]; rfl
      rw [st, q1, cll_s]
      rcases q2 with ⟨q2, b', q3, q4⟩ | ⟨p2, s2, t3, k3, g2, b3, fv3, q2, q3, q4, q5, q6, q7, q8, q9⟩
      · obtain ⟨rr, a4, w1, w2, w3, w4⟩ := add_b (q2.pre (hG.2.1.trans (Fr.upd (Fr.refl _ _) _ rfl))) y 0
        rw [q2.1.2, Int.toNat_natCast, grd_s q2.1.1, w1, cll_s]
        obtain ⟨f2, rfl⟩ : ∃ k, f' = k + 1 := ⟨f' - 1, by omega⟩
        refine ⟨a4, ?_, Or.inl ⟨w2, b', by rw [r1, q3], (q4.of w3 w4).pre (hFr.trans r4)⟩⟩
        show LB_X2_sum_6 F (L_X2_sum_6 F f2) _ _ = _
        unfold LB_X2_sum_6
        by_cases h2 : (200 : Int) ≤ ((i + 1 : Nat) : Int)
        · rw [if_pos h2]
        · rw [if_neg h2, if_pos w2.ne]
      · obtain ⟨z1, z2⟩ := GotA.bin hG q2 (isPl_op hm) (by omega) (by omega)
        rw [q2.1.1.2.1, Int.toNat_natCast, grd_s q2.1.1.1, cadd_s q2.1.2.2.2.2.2.2.1 (by have := q2.1.2.2.2.1; omega), cll_s]
        have hp2 := q2.2.2.2.2.2.1
        have hK3 : Keep b b3 t k := (hK.trans r5 (Nat.le_refl _) (Nat.le_refl _)).trans q7 (by omega) (by have := r3.1; omega)
        have hP3 : PS b3 t k t3 k3 (sBin y g1 g2) := Or.inr ⟨y, g1, g2, k2, (q7.1 t (by omega)).trans r6, hm, r3.keep q7 (Nat.le_refl _), q5, rfl⟩
        obtain ⟨a', t1', t2'⟩ := ih (i + 1) p2 (s2 + 1) t3 k3 fv3 f' (addA a3 c s2 y 0) b3 (sBin y g1 g2) (by omega) (by omega) z2 q4 hP3 ((hFr.trans r4).trans q6) hK3 q8 (by omega) q9
        refine ⟨a', t1', ?_⟩
        rw [r1, q3]
        exact t2'
    · refine ⟨a1, ?_, Or.inr ⟨p1, s1, t1, k1, g1, b1, fv2 + 1, hG, rfl, hR, hP, hFr, hK, hfv, fun z => ⟨htm z, ?_⟩⟩⟩
      · show LB_X2_sum_6 F (L_X2_sum_6 F f') _ _ = _
        unfold LB_X2_sum_6
        unfold isPl at hm
        by_cases h2 : (200 : Int) ≤ i
        · rw [if_pos h2]
        · rw [if_neg h2, if_neg (fun z => z hG.1.2.2.2.2.2.1), e1, cll_s, nmv_s, if_neg (by omega), if_neg (by omega)]
      · rcases e3 with w | w
        · rw [← w.2.2.1]; exact hm
        · omega
theorem sum_p {F : Mm → Rs} {o : Nat} (hF : ProP F o) : SumP (O_X2_sum F) o := by
  intro a b c n T p s t k fa fv hT hA hB hfa hfv htop htop2
  obtain ⟨a1, q1, q2⟩ := hF a b c n T p s t k fa fv hT hA hB hfa hfv htop
  have hn := hT.1
  have h0 : O_X2_sum F a = L_X2_sum_6 F 100000 ((0 : Nat) : Int) a1 := by
    unfold O_X2_sum
    rw [q1, cll_s, nmv_s]
    rfl
  rw [h0]
  rcases q2 with ⟨q2, b', q3, q4⟩ | ⟨p2, s2, t3, k3, g2, b3, fv3, q2, q3, q4, q5, q6, q7, q8, q9⟩
  · refine ⟨a1, ?_, Or.inl ⟨q2, b', q3, q4⟩⟩
    show LB_X2_sum_6 F (L_X2_sum_6 F 99999) _ _ = _
    unfold LB_X2_sum_6
    rw [if_neg (by decide), if_pos q2.ne]
  · rw [q3]
    exact sum_l hF hT htop htop2 (n - p2) 0 p2 s2 t3 k3 fv3 100000 a1 b3 g2 (Nat.le_refl _) (by omega) (q2.mono (by omega)) q4 (Or.inl q5) q6 q7 q8 (by omega) q9
theorem Gr0_b (d : Nat) {a : Mm} (h : a 32 5 ≠ 0) : Gr0 (d + 3) 0 a = some (0, a) := by
  have h2 : Gr0 (d + 1) 2 a = some (0, a) := by
    show O_X2_factor (Gr0 d 0) a = _
    unfold O_X2_factor
    rw [if_neg h]
  have h1 : Gr0 (d + 2) 1 a = some (0, a) := by
    show O_X2_product (Gr0 (d + 1) 2) a = _
    unfold O_X2_product
    rw [h2, cll_s, nmv_s]
    show LB_X2_product_6 _ (L_X2_product_6 _ 99999) _ _ = _
    unfold LB_X2_product_6
    rw [if_neg (by decide), if_pos h]
  show O_X2_sum (Gr0 (d + 2) 1) a = _
  unfold O_X2_sum
  rw [h1, cll_s, nmv_s]
  show LB_X2_sum_6 _ (L_X2_sum_6 _ 99999) _ _ = _
  unfold LB_X2_sum_6
  rw [if_neg (by decide), if_pos h]
theorem Gr0_p : ∀ (j o d : Nat), o + j = 6 → 3 * j + 6 ≤ d → SumP (Gr0 d 0) o := by
  intro j
  induction j with
  | zero =>
    intro o d ho hd
    obtain ⟨d', rfl⟩ : ∃ d', d = d' + 6 := ⟨d - 6, by omega⟩
    have h2 : FacP (Gr0 (d' + 4) 2) o := fac_p (S := Gr0 (d' + 3) 0) (by omega) (fun z => absurd z (by omega)) (fun a h => Gr0_b d' h)
    exact sum_p (prod_p h2)
  | succ j ih =>
    intro o d ho hd
    obtain ⟨d', rfl⟩ : ∃ d', d = d' + 6 := ⟨d - 6, by omega⟩
    have h2 : FacP (Gr0 (d' + 4) 2) o := fac_p (S := Gr0 (d' + 3) 0) (by omega) (fun _ => ih (o + 1) (d' + 3) (by omega) (by omega)) (fun a h => Gr0_b d' h)
    exact sum_p (prod_p h2)
theorem fsum_p {o : Nat} (ho : o ≤ 6) : SumP F_X2_sum o := Gr0_p (6 - o) o 60 (by omega) (by omega)

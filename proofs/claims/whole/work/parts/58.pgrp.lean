/-! condition out of all of; group; piece -/
theorem cnd_l {F : Mm → Rs} {o : Nat} (hF : AllP F o) {a b : Mm} {c n : Nat} {T : Nat → Int} {p s t k : Nat} (hT : TxOk n T) (htop : topR b t = 40) : ∀ (d i p1 s1 t1 k1 fc1 f : Nat) (a1 b1 : Mm) (g1 : Sem), n - p1 ≤ d → i ≤ p1 → GotA a a1 c n T p o s p1 s1 16 g1 → bl g1 → RS b1 n T p1 o t1 k1 → JS b1 t k t1 k1 g1 → Fr sQ b b1 → Keep b b1 t k → b1 54 34 = 0 → n - p1 + 1 < fc1 → d < f → (p1 < n → T p1 ≠ 38) →
    ∃ a', L_X2_condition_6 F f (i : Int) a1 = some (0, a') ∧ (BadP a a' b c (Qpt fc1 b1) ∨ LateP a a' b c n T p o s (Qpt fc1 b1) ∨
      (∃ p' s' t' k' g b' fc', GotA a a' c n T p o s p' s' 16 g ∧ bl g ∧ Qpt fc1 b1 = Qpt fc' b' ∧ RS b' n T p' o t' k' ∧ JS b' t k t' k' g ∧ Fr sQ b b' ∧ Keep b b' t k ∧ b' 54 34 = 0 ∧ n - p' + 1 < fc' ∧ (p' < n → T p' ≠ 38 ∧ T p' ≠ 124))) := by
  intro d
  induction d with
  | zero =>
    intro i p1 s1 t1 k1 fc1 f a1 b1 g1 hd hi hG hbl hR hP hFr hK h34 hfc hf h38
    obtain ⟨f', rfl⟩ : ∃ f', f = f' + 1 := ⟨f - 1, by omega⟩
    obtain ⟨x, y, e1, e2, e3⟩ := next_s hT hG.1 hR
    unfold Nx at e3
    have hpn := hG.1.2.2.2.1
    refine ⟨a1, ?_, Or.inr (Or.inr ⟨p1, s1, t1, k1, g1, b1, fc1, hG, hbl, rfl, hR, hP, hFr, hK, h34, hfc, fun z => absurd z (by omega)⟩)⟩
    show LB_X2_condition_6 F (L_X2_condition_6 F f') _ _ = _
    unfold LB_X2_condition_6
    by_cases h2 : (200 : Int) ≤ i
    · rw [if_pos h2]
    · rw [if_neg h2, if_neg (fun z => z hG.1.2.2.2.2.2.1), e1, cll_s, if_pos (by omega)]
  | succ d ih =>
    intro i p1 s1 t1 k1 fc1 f a1 b1 g1 hd hi hG hbl hR hP hFr hK h34 hfc hf h38
    obtain ⟨f', rfl⟩ : ∃ f', f = f' + 1 := ⟨f - 1, by omega⟩
    obtain ⟨fc2, rfl⟩ : ∃ f', fc1 = f' + 1 := ⟨fc1 - 1, by omega⟩
    obtain ⟨x, y, e1, e2, e3⟩ := next_s hT hG.1 hR
    unfold Nx at e3
    have hpn := hG.1.2.2.2.1
    have hn := hT.1
    have hs1 := hG.1.2.2.2.2.2.2.2
    by_cases hm : y = 124
    · have hp : p1 < n := by omega
      have hx : x = 124 := by omega
      rw [hm] at e2
      obtain ⟨b2, k2, r1, r2, r3, r4, r5, r6, r7⟩ := Q_or hT hR h34 hP (by rw [topR_keep hK]; omega) (by rw [topR_keep hK]; omega) hp e2 fc2
      have hA2 := hG.1.jo hp 4
      have ht2 : topR b2 (t + 1) = 124 := by unfold topR; rw [if_neg (by omega)]; exact r6
      obtain ⟨a4, q1, q2⟩ := hF _ b2 c n T (p1 + 1) (s1 + 1) (t + 1) k2 100000 fc2 hT hA2 r2 r7 (by omega) (by omega) (Or.inr ht2)
      have st : L_X2_condition_6 F (f' + 1) (i : Int) a1 = cll (F (joA a1 c p1 s1 4)) (fun r11 m12 => grd (isCd (m12 32 1).toNat) (cll (F_X0_landHere (m12 32 1).toNat (s1 : Int) m12) (fun r14 m15 => L_X2_condition_6 F f' ((i + 1 : Nat) : Int) m15))) := by
        have hA1 := hG.1.to (p' := p1 + 1) (by omega) (by omega)
        show LB_X2_condition_6 F (L_X2_condition_6 F f') _ _ = _
        unfold LB_X2_condition_6
        rw [if_neg (by omega), if_neg (fun z => z hG.1.2.2.2.2.2.1), e1, cll_s, if_neg (fun z => z hx), stf_s, hG.1.2.2.1, wr_s (x := (p1 : Int) + 1) (by omega), show (p1 : Int) + 1 = ((p1 + 1 : Nat) : Int) from rfl, hA1.1.2.1, Int.toNat_natCast, grd_s hA1.1.1, cadd_s hA1.2.2.2.2.2.2.1 (by omega), cll_s, nmv_s]
        simp only [nmv_s]
        rw [wr_s (x := (i : Int) + 1) (by omega)]
        rfl
      rw [st, q1, cll_s]
      have hfA : Fr (sP c) a (joA a1 c p1 s1 4) := hG.2.1.trans (joA_fr _ _ _ _ _)
      have hGl := hG.2.2.2.2.2.2
      have hGp := hG.2.2.2.2.2.1
      have hn9 : ∀ (m : Mm) (g' : Nat) (v : Int), m 32 5 ≠ 0 → L_X2_condition_6 F (g' + 1) v m = some (0, m) := by
        intro m g' v hm
        show LB_X2_condition_6 F (L_X2_condition_6 F g') _ _ = _
        unfold LB_X2_condition_6
        by_cases h2 : (200 : Int) ≤ v
        · rw [if_pos h2]
        · rw [if_neg h2, if_pos hm]
      obtain ⟨f2, rfl⟩ : ∃ k, f' = k + 1 := ⟨f' - 1, by omega⟩
      rcases q2 with ⟨q2, b', q3, q4⟩ | ⟨p2, s2, q2, b', q3, q4, q5⟩ | ⟨p2, s2, t3, k3, g2, b3, fc3, q2, q3, q4, q6, q7, q8, q9, q10, q11, q12⟩
      · obtain ⟨a5, w1, w2, w3, w4⟩ := (q2.pre hfA).land (x := s1) (by omega)
        rw [q2.1.2, Int.toNat_natCast, grd_s q2.1.1, w1, cll_s, hn9 _ _ _ w2.ne]
        exact ⟨a5, rfl, Or.inl ⟨w2, b', by rw [r1, q3], (q4.of w3 w4).pre (hFr.trans r4)⟩⟩
      · obtain ⟨a5, w1, w2, w3⟩ := q2.1.land (x := s1) (by omega)
        rw [q2.1.1.2.1, Int.toNat_natCast, grd_s q2.1.1.1, w1, cll_s]
        refine ⟨a5, ?_, Or.inr (Or.inl ⟨p2, s2, LateA.pre (a1 := joA a1 c p1 s1 4) (p1 := p1 + 1) (s1 := s1 + 1) ⟨w2, q2.2.1.trans w3, q2.2.2⟩ hfA (by omega) (by omega), b', by rw [r1, q3], q4, (hFr.trans r4).trans q5⟩)⟩
        show LB_X2_condition_6 F (L_X2_condition_6 F f2) _ _ = _
        unfold LB_X2_condition_6
        by_cases h2 : (200 : Int) ≤ ((i + 1 : Nat) : Int)
        · rw [if_pos h2]
        · rw [if_neg h2, if_neg (fun z => z w2.2.2.2.2.2.1), next93 hT w2 q2.2.2.2.2.1 q2.2.2.2.2.2, cll_s, if_pos (by decide)]
      · obtain ⟨z1, z2⟩ := GotA.jo (h := sOr g1 g2) hG hp q2 (fun d w h1 h2 h3 h4 => A_or h1 hbl h2 h3 h4 (by decide)) ff_or
        have hp2 := q2.2.2.2.2.2.1
        rw [q2.1.1.2.1, Int.toNat_natCast, grd_s q2.1.1.1, land_s q2.1.2.2.2.2.2.2.1 z1 (by have := q2.1.2.2.2.1; have := q2.1.2.2.2.2.2.2.2; omega), cll_s]
        have hK3 : Keep b b3 t k := (hK.trans r5 (Nat.le_refl _) (Nat.le_refl _)).trans q9 (by omega) (by have := r3.1; omega)
        have hP3 : JS b3 t k t3 k3 (sOr g1 g2) := Or.inr ⟨g1, g2, k2, (q9.1 t (by omega)).trans r6, r3.keep q9 (Nat.le_refl _), q7, rfl⟩
        obtain ⟨a', t1', t2'⟩ := ih (i + 1) p2 s2 t3 k3 fc3 (f2 + 1) _ b3 (sOr g1 g2) (by omega) (by omega) z2 (bl_or hbl q3) q6 hP3 ((hFr.trans r4).trans q8) hK3 q10 q11 (by omega) q12
        refine ⟨a', t1', ?_⟩
        rw [r1, q4]
        exact t2'
    · refine ⟨a1, ?_, Or.inr (Or.inr ⟨p1, s1, t1, k1, g1, b1, fc2 + 1, hG, hbl, rfl, hR, hP, hFr, hK, h34, hfc, fun z => ⟨h38 z, by omega⟩⟩)⟩
      show LB_X2_condition_6 F (L_X2_condition_6 F f') _ _ = _
      unfold LB_X2_condition_6
      by_cases h2 : (200 : Int) ≤ i
      · rw [if_pos h2]
      · rw [if_neg h2, if_neg (fun z => z hG.1.2.2.2.2.2.1), e1, cll_s, if_pos (by omega)]
theorem cnd_p {F : Mm → Rs} {o : Nat} (hF : AllP F o) : CndP (O_X2_condition F) o := by
  intro a b c n T p s t k fp fc hT hA hB h34 hfp hfc htop
  obtain ⟨a1, q1, q2⟩ := hF a b c n T p s t k fp fc hT hA hB h34 hfp hfc (Or.inl htop)
  have hn := hT.1
  have h0 : O_X2_condition F a = L_X2_condition_6 F 100000 ((0 : Nat) : Int) a1 := by
    unfold O_X2_condition
    rw [q1, cll_s, nmv_s]
    rfl
  rw [h0]
  rcases q2 with ⟨q2, b', q3, q4⟩ | ⟨p2, s2, q2, b', q3, q4, q5⟩ | ⟨p2, s2, t3, k3, g2, b3, fc3, q2, q3, q4, q6, q7, q8, q9, q10, q11, q12⟩
  · refine ⟨a1, ?_, Or.inl ⟨q2, b', q3, q4⟩⟩
    show LB_X2_condition_6 F (L_X2_condition_6 F 99999) _ _ = _
    unfold LB_X2_condition_6
    rw [if_neg (by decide), if_pos q2.ne]
  · refine ⟨a1, ?_, Or.inr (Or.inl ⟨p2, s2, q2, b', q3, q4, q5⟩)⟩
    show LB_X2_condition_6 F (L_X2_condition_6 F 99999) _ _ = _
    unfold LB_X2_condition_6
    rw [if_neg (by decide), if_neg (fun z => z q2.1.2.2.2.2.2.1), next93 hT q2.1 q2.2.2.2.2.1 q2.2.2.2.2.2, cll_s, if_pos (by decide)]
  · rw [q4]
    exact cnd_l hF hT htop (n - p2) 0 p2 s2 t3 k3 fc3 100000 a1 b3 g2 (Nat.le_refl _) (by omega) q2 q3 q6 (Or.inl q7) q8 q9 q10 q11 (by omega) q12
/-- what the class does behind '(' -/
def grR (C : Mm → Rs) (m6 : Mm) : Rs := cll (C m6) (fun r7 m8 => cll (F_X2_pass 41 m8) (fun r9 m10 => stf m10 32 4 (wr ((m10 32 4) - 1)) (fun m11 => some (0, m11))))
theorem grp_s {C : Mm → Rs} {o : Nat} (hC : CndP C (o + 1)) (ho : o < 6) {a b : Mm} {c n : Nat} {T : Nat → Int} {p s t k fp fc : Nat} (hT : TxOk n T) (hA : CS a c n T p (o + 1) s) (hB : RS b n T p (o + 1) (t + 1) k) (h34 : b 54 34 = 0) (hfp : n - p + 1 < fp) (hfc : n - p + 1 < fc) (htop : b 75 t = 40) :
    ∃ a', grR C a = some (0, a') ∧ (BadP a a' b c (Ppt fp fc b) ∨ (∃ p' s' k' g b' fc', GotA a a' c n T p o s p' s' 16 g ∧ bl g ∧ Ppt fp fc b = cll (J_X12_goesBehind_107 (upd2 b' 54 34 (if t = 0 then 1 else 0))) (fun r4 m5 => L_X12_condition_37 fc' r4 m5) ∧ RS b' n T p' o t k' ∧ SegB (b' 73) (b' 74) k k' g ∧ Fr sQ b b' ∧ Keep b b' t k ∧ b' 54 34 = 0 ∧ n - p' + 2 < fc')) := by
  have hn := hT.1
  have et0 : topR b (t + 1) = 40 := by unfold topR; rw [if_neg (by omega)]; exact htop
  obtain ⟨a1, q1, q2⟩ := hC a b c n T p s (t + 1) k fp fc hT hA hB h34 hfp hfc et0
  unfold grR
  rw [q1, cll_s]
  rcases q2 with ⟨q2, b', q3, q4⟩ | ⟨p2, s2, q2, b', q3, q4, q5⟩ | ⟨p2, s2, t3, k3, g2, b3, fc3, q2, q3, q4, q6, q7, q8, q9, q10, q11, q12⟩
  · rw [pass_b q2.ne, cll_s, stf_s]
    obtain ⟨w1, w2, w3⟩ := q2.f4 (wr (a1 32 4 - 1))
    exact ⟨_, rfl, Or.inl ⟨w1, b', q3, q4.of w2 w3⟩⟩
  · obtain ⟨u1, u2, u3, u4⟩ := fail_s hT q2.1 (x := 1) (by decide)
    rw [pass_s hT q2.1 (next93 hT q2.1 q2.2.2.2.2.1 q2.2.2.2.2.2), if_neg (by decide), cll_s, stf_s]
    obtain ⟨w1, w2, w3⟩ := u2.f4 (wr ((upd2 a1 32 5 1) 32 4 - 1))
    refine ⟨_, rfl, Or.inl ⟨w1.pre q2.2.1, b', q3, ?_, q5⟩⟩
    rw [q4, w2, w3, u3, u4]; omega
  · obtain ⟨x, y, e1, e2, e3⟩ := next_s hT q2.1 q6
    unfold Nx at e3
    obtain ⟨fc4, rfl⟩ : ∃ f, fc3 = f + 1 := ⟨fc3 - 1, by omega⟩
    have hpn := q2.1.2.2.2.1
    rw [pass_s hT q2.1 e1]
    have et3 : topR b3 (t + 1) = 40 := by rw [topR_keep q9]; exact et0
    by_cases h41 : y = 41
    · have hx : x = 41 := by omega
      have hp : p2 < n := by omega
      rw [if_pos hx, cll_s, stf_s]
      rw [h41] at e2
      obtain ⟨g1, g2', g3, g4, g5, g6, g7⟩ := q2
      have hc := g1.1.1
      have e4 : wr ((upd2 a1 32 3 ((p2 + 1 : Nat) : Int)) 32 4 - 1) = (o : Int) := by rw [u2n (by decide), g1.2.2.2.2.1, wr_s (by omega)]; omega
      rw [e4]
      obtain ⟨b4, k4, v1, ⟨v2, v3, v4, v5, v6⟩, v7⟩ := joins1_s hT q6 q7 (by omega) (by omega)
      have hA3 : CS (upd2 (upd2 a1 32 3 ((p2 + 1 : Nat) : Int)) 32 4 (o : Int)) c n T (p2 + 1) o s2 := (g1.to (by omega) (by omega)).f4 o
      have rc : ∀ j, j ≤ 2 → (upd2 (upd2 a1 32 3 ((p2 + 1 : Nat) : Int)) 32 4 (o : Int)) (c + j) = a1 (c + j) := fun j hj => by rw [u2r (by omega), u2r (by omega)]
      have rc0 : (upd2 (upd2 a1 32 3 ((p2 + 1 : Nat) : Int)) 32 4 (o : Int)) c = a1 c := rc 0 (by omega)
      obtain ⟨⟨h1, h2⟩, h3, h4, h5, h6, h7, h8, h9⟩ := v2
      have hrs : RS (upd2 (upd2 (upd2 b4 54 33 (t : Int)) 54 32 (o : Int)) 54 27 ((p2 + 1 : Nat) : Int)) n T (p2 + 1) o t k4 := by
        refine ⟨⟨?_, fun i hi => ?_⟩, ?_, by omega, ?_, ?_, ?_, ?_, by omega⟩
        · rw [u2n (by decide), u2n (by decide), u2n (by decide)]; exact h1
        · rw [u2r (by decide), u2r (by decide), u2r (by decide)]; exact h2 i hi
        · rw [u2s]
        · rw [u2n (by decide), u2n (by decide), u2n (by decide)]; exact h5
        · rw [u2n (by decide), u2n (by decide), u2n (by decide)]; exact h6
        · rw [u2n (by decide), u2s]
        · rw [u2n (by decide), u2n (by decide), u2s]
      refine ⟨_, rfl, Or.inr ⟨p2 + 1, s2, k4, g2, upd2 (upd2 (upd2 b4 54 33 (t : Int)) 54 32 (o : Int)) 54 27 ((p2 + 1 : Nat) : Int), fc4 + 1, ⟨hA3, Fr.upd (Fr.upd g2' _ rfl) _ rfl, fun i hi => ?_, ?_, ?_, by omega, by omega⟩, q3, ?_, hrs, ?_, Fr.upd (Fr.upd (Fr.upd (q8.trans v4) _ rfl) _ rfl) _ rfl, ?_, ?_, by omega⟩⟩
      · rw [rc 1 (by omega), rc 2 (by omega)]; exact g3 i hi
      · rw [rc 1 (by omega), rc 2 (by omega)]; exact g4
      · rw [rc0]; exact g5
      · rw [q4]
        unfold Qpt F_X12_goesBehind
        rw [e2, cll_s, nmv_s, if_neg (by decide), if_pos (by decide), if_pos rfl, v1, cll_s, stf_s, stf_s, stf_s, u2n (show 32 ≠ 33 by decide), u2n (show 27 ≠ 32 by decide), u2n (show 27 ≠ 33 by decide), h8, h7, h3, wr_s (by omega), wr_s (by omega), wr_s (by omega), show ((t + 1 : Nat) : Int) - 1 = (t : Int) by omega, show ((o + 1 : Nat) : Int) - 1 = (o : Int) by omega, show (p2 : Int) + 1 = ((p2 + 1 : Nat) : Int) from rfl, hrs.2.2.2.2.2.2.1]
        by_cases ht : t = 0
        · rw [if_neg (by omega), if_pos ht, stf_s]
        · rw [if_pos (by omega), if_neg ht, stf_s]
      · rw [u2r (by decide), u2r (by decide), u2r (by decide), u2r (by decide), u2r (by decide), u2r (by decide)]; exact v3
      · refine ⟨fun i hi => ?_, fun i hi => ?_⟩
        · rw [u2r (by decide), u2r (by decide), u2r (by decide), v5.1 i (by omega), q9.1 i (by omega)]
        · rw [u2r (by decide), u2r (by decide), u2r (by decide), u2r (by decide), u2r (by decide), u2r (by decide), (v5.2 i hi).1, (v5.2 i hi).2]
          exact q9.2 i hi
      · rw [u2n (by decide), u2n (by decide), u2n (by decide), v7]; exact q10
    · have hx : x ≠ 41 := by omega
      rw [if_neg hx, cll_s, stf_s]
      obtain ⟨u1, u2, u3, u4⟩ := fail_s hT q2.1 (x := 1) (by decide)
      obtain ⟨w1, w2, w3⟩ := u2.f4 (wr ((upd2 a1 32 5 1) 32 4 - 1))
      refine ⟨_, rfl, Or.inl ⟨w1.pre q2.2.1, upd2 b3 54 29 (-1000 * 1 - (p2 : Int)), ?_, ?_, Fr.upd q8 _ rfl⟩⟩
      · rw [q4]
        unfold Qpt F_X12_goesBehind
        have hy : y ≠ 38 ∧ y ≠ 124 := by
          rcases e3 with z | z
          · have := q12 z.1; omega
          · omega
        rw [e2, cll_s, nmv_s, if_neg hy.1, if_pos hy.2, if_neg h41, q6.2.1, wrongs_s q6.2.2.2.1 1 p2 (by decide) (by omega), cll_s, cll_s, Lc_b (by rw [u2s]; omega)]
      · rw [u2s, w2, w3, u3, u4]
theorem pie_p {P C : Mm → Rs} {o : Nat} (ho : o ≤ 6) (hP : o < 6 → PieP P (o + 1)) (hC : o < 6 → CndP C (o + 1)) (hP0 : ∀ a : Mm, a 32 5 ≠ 0 → P a = some (0, a)) (hC0 : ∀ a : Mm, a 32 5 ≠ 0 → C a = some (0, a)) : PieP (O_X2_piece P (O_X2_group C)) o := by
  intro a b c n T p s t k fp fc hT hA hB h34 hfp hfc htop
  obtain ⟨fp', rfl⟩ : ∃ f, fp = f + 1 := ⟨fp - 1, by omega⟩
  obtain ⟨fc', rfl⟩ : ∃ f, fc = f + 1 := ⟨fc - 1, by omega⟩
  obtain ⟨x, y, e1, e2, e3⟩ := next_s hT hA hB
  unfold Nx at e3
  have hcd := hA.1.1
  have h29 := hB.2.2.2.1
  have hn := hT.1
  have hsp := hA.2.2.2.2.2.2.2
  have h32 := hA.2.2.1
  have h324 := hA.2.2.2.2.1
  have h325 := hA.2.2.2.2.2.1
  have hstF : O_X2_piece P (O_X2_group C) a = if ¬ x = 33 then if ¬ x = 40 then cll (F_X2_comparison a) (fun r7 m8 => some (0, m8)) else cll (F_X2_enter a) (fun r5 m6 => grR C m6) else cll (F_X2_enter a) (fun r11 m12 => cll (P m12) (fun r13 m14 => stf m14 32 4 (wr ((m14 32 4) - 1)) (fun m15 => grd (isCd (m15 32 1).toNat) (cll (F_X0_add (m15 32 1).toNat 2 0 m15) (fun r17 m18 => some (0, m18)))))) := by
    unfold O_X2_piece
    rw [if_pos h325, e1, cll_s, nmv_s]
    by_cases h1 : x = 33
    · rw [if_neg (fun z => z h1), if_neg (fun z => z h1)]
    · rw [if_pos h1, if_pos h1]
      by_cases h2 : x = 40
      · rw [if_neg (fun z => z h2), if_neg (fun z => z h2)]
        unfold O_X2_group
        rw [if_pos h325, e1, cll_s, if_pos h2]
        cases F_X2_enter a with
        | none => rfl
        | some q =>
          show cll (grR C q.2) (fun r9 m10 => some (0, m10)) = grR C q.2
          unfold grR
          cases hCq : C q.2 with
          | none => rfl
          | some w =>
            obtain ⟨u, v⟩ := w
            rw [cll_s]
            cases F_X2_pass 41 v with
            | none => rfl
            | some v => rfl
      · rw [if_pos h2, if_pos h2]
  rw [hstF, Ppt_g h29 e2]
  have hA1 : p < n → CS (upd2 (upd2 a 32 4 ((o + 1 : Nat) : Int)) 32 3 ((p + 1 : Nat) : Int)) c n T (p + 1) (o + 1) s := fun hp => (hA.f4 (o + 1)).to (by omega) (by omega)
  have hfA1 : Fr (sP c) a (upd2 (upd2 a 32 4 ((o + 1 : Nat) : Int)) 32 3 ((p + 1 : Nat) : Int)) := Fr.upd (Fr.upd (Fr.refl _ _) _ rfl) _ rfl
  have en : o < 6 → F_X2_enter a = some (0, upd2 (upd2 a 32 4 ((o + 1 : Nat) : Int)) 32 3 ((p + 1 : Nat) : Int)) := by
    intro ho6
    have := hA.2.2.2.1
    unfold F_X2_enter
    rw [if_pos (by omega), stf_s, stf_s, u2n (by decide), h324, h32, wr_s (by omega), wr_s (by omega)]
    rfl
  obtain ⟨w1, w2, w3, w4⟩ := fail_s hT hA (x := 5) (by decide)
  have en6 : ¬ o < 6 → F_X2_enter a = some (0, upd2 a 32 5 5) := by
    intro ho6
    unfold F_X2_enter
    rw [if_neg (by omega), w1, cll_s]
  obtain ⟨fp2, rfl⟩ : ∃ f, fp' = f + 1 := ⟨fp' - 1, by omega⟩
  by_cases h33 : y = 33
  · have hx : x = 33 := by omega
    have hp : p < n := by omega
    rw [if_neg (fun z => z hx), if_pos (Or.inl h33)]
    by_cases ho6 : o < 6
    · obtain ⟨o1, o2, o3, o4⟩ := opens_s hT hB hp ho6 (x := 33) (by omega)
      have ot := puB_top (upd2 b 54 32 ((o + 1 : Nat) : Int)) p t 33
      have o34 : (puB (upd2 b 54 32 ((o + 1 : Nat) : Int)) p t 33) 54 34 = 0 := (keep34 o3).trans h34
      rw [en ho6, cll_s, o1, cll_s]
      obtain ⟨a2, q1, q2⟩ := hP ho6 _ _ c n T (p + 1) s (t + 1) k (fp2 + 1) (fc' + 1) hT (hA1 hp) o2 o34 (by omega) (by omega) (by rw [ot]; unfold okTp; omega)
      rw [q1, cll_s, stf_s]
      rcases q2 with ⟨q2, b', q3, q4⟩ | ⟨p2, s2, q2, b', q3, q4, q5⟩ | ⟨p2, s2, k3, g2, b3, K, fe, q2, q3, q4, q5, q6, q7, q8, q9, q10, q11⟩
      · obtain ⟨v1, v2, v3⟩ := q2.f4 (wr (a2 32 4 - 1))
        obtain ⟨rr, a4, z1, z2, z3, z4⟩ := add_b (v1.pre hfA1) 2 0
        rw [v1.1.2, Int.toNat_natCast, grd_s hcd, z1, cll_s]
        exact ⟨a4, rfl, Or.inl ⟨z2, b', q3, ((q4.of v2 v3).of z3 z4).pre o3⟩⟩
      · have hv : wr (a2 32 4 - 1) = (o : Int) := by rw [q2.1.2.2.2.2.1, wr_s (by omega)]; omega
        have hcs := q2.1.f4 o
        have hl := q2.2.2.2.1
        rw [hv, hcs.1.2.1, Int.toNat_natCast, grd_s hcd, cadd_s hcs.2.2.2.2.2.2.1 (by have := q2.1.2.2.2.1; omega), cll_s]
        refine ⟨_, rfl, Or.inr (Or.inl ⟨p2, s2 + 1, ⟨hcs.addA (by omega) 2 0, ((hfA1.trans q2.2.1).trans (Fr.upd (Fr.refl _ _) _ rfl)).trans (addA_fr _ _ _ _ _), by have := q2.2.2.1; omega, by omega, q2.2.2.2.2.1, q2.2.2.2.2.2⟩, b', q3, q4, o3.trans q5⟩)⟩
      · have hv : wr (a2 32 4 - 1) = (o : Int) := by rw [q2.1.2.2.2.2.1, wr_s (by omega)]; omega
        obtain ⟨z1, z2, z3⟩ := GotA.not q2 rfl hsp
        rw [hv, z2.1.2.1, Int.toNat_natCast, grd_s hcd, cadd_s z2.2.2.2.2.2.2.1 (by have := q2.1.2.2.2.1; omega), cll_s]
        obtain ⟨fe', rfl⟩ : ∃ f, fe = f + 1 := ⟨fe - 1, by omega⟩
        have h75 : b3 75 t = 33 := by rw [q9.1 t (by omega), puB_75, upr_s]
        rw [ends_not hT q6 h75 (by omega)] at q4
        have l1 := q7.1
        refine ⟨_, rfl, Or.inr (Or.inr ⟨p2, s2 + 1, k3 + 1, sNot g2, notB b3 t k3 o, K, fe', z3, bl_not q3, q4, q5, q6.notB, ?_, (o3.trans q8).trans (notB_fr _ _ _ _), ?_, (notB_34 _ _ _ _).trans q10, by omega⟩)⟩
        · have hk := notB_keep (b := b3) (t := t) (k := k3) (o := o) (t0 := 0) (Nat.le_refl k3)
          exact B_not (q7.keep hk (Nat.le_refl _)) (by rw [notB_r (by decide), popB_73, upr_s])
        · exact (o4.trans q9 (by omega) (Nat.le_refl _)).trans (notB_keep (by omega)) (Nat.le_refl _) (Nat.le_refl _)
    · have ho' : o = 6 := by omega
      subst ho'
      obtain ⟨b1, o1, o2, o3⟩ := opens_b hT hB hp
      rw [en6 ho6, cll_s, hP0 _ w2.ne, cll_s, stf_s, o1, cll_s, Ppt_b (by omega)]
      obtain ⟨v1, v2, v3⟩ := w2.f4 (wr ((upd2 a 32 5 5) 32 4 - 1))
      obtain ⟨rr, a4, z1, z2, z3, z4⟩ := add_b v1 2 0
      rw [v1.1.2, Int.toNat_natCast, grd_s hcd, z1, cll_s]
      refine ⟨a4, rfl, Or.inl ⟨z2, b1, rfl, ?_, o3⟩⟩
      rw [o2, z3, z4, v2, v3, w3, w4]; omega
  · rw [if_pos (show ¬ x = 33 by omega)]
    by_cases h40 : y = 40
    · have hx : x = 40 := by omega
      have hp : p < n := by omega
      rw [if_neg (fun z => z hx), if_pos (Or.inr h40)]
      by_cases ho6 : o < 6
      · obtain ⟨o1, o2, o3, o4⟩ := opens_s hT hB hp ho6 (x := 40) (by omega)
        have o34 : (puB (upd2 b 54 32 ((o + 1 : Nat) : Int)) p t 40) 54 34 = 0 := (keep34 o3).trans h34
        rw [en ho6, cll_s, o1, cll_s]
        have ht0 : t ≠ 0 := by
          intro z
          subst z
          unfold okTp topR at htop
          rw [if_pos rfl] at htop
          omega
        obtain ⟨a2, q1, q2⟩ := grp_s (hC ho6) ho6 (fp := fp2 + 1) (fc := fc' + 1) hT (hA1 hp) o2 o34 (by omega) (by omega) (by rw [puB_75, upr_s])
        rw [q1]
        rcases q2 with ⟨q2, b', q3, q4⟩ | ⟨p2, s2, k3, g2, b3, fc3, q2, q3, q4, q6, q7, q8, q9, q10, q11⟩
        · exact ⟨a2, rfl, Or.inl ⟨q2.pre hfA1, b', q3, q4.pre o3⟩⟩
        · obtain ⟨fc4, rfl⟩ : ∃ f, fc3 = f + 1 + 1 := ⟨fc3 - 2, by omega⟩
          refine ⟨a2, rfl, Or.inr (Or.inr ⟨p2, s2, k3, g2, b3, fun _ m => L_X12_condition_37 (fc4 + 1 + 1) 0 m, 100000, ⟨q2.1, hfA1.trans q2.2.1, fun i hi => ?_, q2.2.2.2.1, ?_, by have := q2.2.2.2.2.2.1; omega, by have := q2.2.2.2.2.2.2; omega⟩, q3, ?_, ?_, q6, q7, o3.trans q8, o4.trans q9 (Nat.le_refl _) (Nat.le_refl _), q10, by omega⟩)⟩
          · have := q2.2.2.1 i hi
            rw [u2r (by omega), u2r (by omega), u2r (by omega), u2r (by omega)] at this
            exact this
          · intro z
            have := q2.2.2.2.2.1 z
            rw [u2r (by omega), u2r (by omega)] at this
            exact this
          · rw [q4, if_neg ht0, u2self q10]
            unfold J_X12_goesBehind_107 F_X12_ends
            rw [if_neg (fun z => z q10)]
            cases L_X12_ends_0 100000 b3 with
            | none => rfl
            | some q => rfl
          · intro m hm hm2
            exact ⟨fc4 + 1, by omega, Lc_0 hm hm2 (fc4 + 1)⟩
      · have ho' : o = 6 := by omega
        subst ho'
        obtain ⟨b1, o1, o2, o3⟩ := opens_b hT hB hp
        rw [en6 ho6, cll_s, o1, cll_s, Ppt_b (by omega)]
        unfold grR
        rw [hC0 _ w2.ne, cll_s, pass_b w2.ne, cll_s, stf_s]
        obtain ⟨v1, v2, v3⟩ := w2.f4 (wr ((upd2 a 32 5 5) 32 4 - 1))
        refine ⟨_, rfl, Or.inl ⟨v1, b1, rfl, ?_, o3⟩⟩
        rw [o2, v2, v3, w3, w4]; omega
    · rw [if_pos (show ¬ x = 40 by omega), if_neg (show ¬ (y = 33 ∨ y = 40) by omega)]
      obtain ⟨a2, q1, q2⟩ := cmp_s ho hT hA hB htop
      rw [q1, cll_s]
      rcases q2 with ⟨q2, b', q3, q4⟩ | ⟨p2, s2, q2, b', q3, q4, q5⟩ | ⟨p2, s2, k3, g2, b3, q2, q3, q4, q6, q7, q8, q9⟩
      · rw [q3, cll_s, J59_b (by have := q4.1; have := q2.2.2; omega)]
        exact ⟨a2, rfl, Or.inl ⟨q2, b', rfl, q4⟩⟩
      · rw [q3, cll_s, J59_b (by omega)]
        exact ⟨a2, rfl, Or.inr (Or.inl ⟨p2, s2, q2, b', rfl, q4, q5⟩)⟩
      · have hp2 := q2.2.2.2.2.2.1
        refine ⟨a2, rfl, Or.inr (Or.inr ⟨p2, s2, k3, g2, b3, fun _ m => J_X12_condition_59 (L_X12_condition_37 (fc' + 1)) 1 m, 100000, q2, q3, ?_, ?_, q6, q7, q8, q9, (keep34 q8).trans h34, by omega⟩)⟩
        · rw [q4]
          unfold F_X12_ends
          cases L_X12_ends_0 100000 b3 with
          | none => rfl
          | some q => rfl
        · intro m hm hm2
          exact ⟨fc' + 1, by omega, J59_g hm (fc' + 1) 1⟩
theorem Gr1_b0 (d : Nat) {a : Mm} (h : a 32 5 ≠ 0) : Gr1 (d + 1) 0 a = some (0, a) := by
  show O_X2_piece (Gr1 d 0) (Gr1 d 1) a = _
  unfold O_X2_piece
  rw [if_neg h]
theorem Gr1_b2 (d : Nat) {a : Mm} (h : a 32 5 ≠ 0) : Gr1 (d + 3) 2 a = some (0, a) := by
  have h1 : Gr1 (d + 2) 3 a = some (0, a) := by
    show O_X2_allOf (Gr1 (d + 1) 0) a = _
    unfold O_X2_allOf
    rw [Gr1_b0 d h, cll_s, nmv_s]
    show LB_X2_allOf_6 _ (L_X2_allOf_6 _ 99999) _ _ = _
    unfold LB_X2_allOf_6
    rw [if_neg (by decide), if_pos h]
  show O_X2_condition (Gr1 (d + 2) 3) a = _
  unfold O_X2_condition
  rw [h1, cll_s, nmv_s]
  show LB_X2_condition_6 _ (L_X2_condition_6 _ 99999) _ _ = _
  unfold LB_X2_condition_6
  rw [if_neg (by decide), if_pos h]
theorem Gr1_p : ∀ (j o d : Nat), o + j = 6 → 4 * j + 8 ≤ d → PieP (Gr1 d 0) o := by
  intro j
  induction j with
  | zero =>
    intro o d ho hd
    obtain ⟨d', rfl⟩ : ∃ d', d = d' + 5 := ⟨d - 5, by omega⟩
    exact pie_p (P := Gr1 (d' + 4) 0) (C := Gr1 (d' + 3) 2) (by omega) (fun z => absurd z (by omega)) (fun z => absurd z (by omega)) (fun a h => Gr1_b0 (d' + 3) h) (fun a h => Gr1_b2 d' h)
  | succ j ih =>
    intro o d ho hd
    obtain ⟨d', rfl⟩ : ∃ d', d = d' + 5 := ⟨d - 5, by omega⟩
    exact pie_p (P := Gr1 (d' + 4) 0) (C := Gr1 (d' + 3) 2) (by omega) (fun _ => ih (o + 1) (d' + 4) (by omega) (by omega)) (fun _ => cnd_p (all_p (ih (o + 1) (d' + 1) (by omega) (by omega)))) (fun a h => Gr1_b0 (d' + 3) h) (fun a h => Gr1_b2 d' h)
theorem fcnd_p : CndP (Gr1 59 2) 1 := cnd_p (all_p (Gr1_p 5 1 57 (by omega) (by omega)))

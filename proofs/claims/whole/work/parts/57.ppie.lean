/-! piece, all of, condition: both readers -/
def BadP (a a' b : Mm) (c : Nat) (R : Rs) : Prop := BadA a a' c ∧ ∃ b', R = some (0, b') ∧ BadB a' b b'
def LateP (a a' b : Mm) (c n : Nat) (T : Nat → Int) (p o s : Nat) (R : Rs) : Prop := ∃ p' s', LateA a a' c n T p o s p' s' ∧ ∃ b', R = some (0, b') ∧ b' 54 29 = -1000 - (p' : Int) ∧ Fr sQ b b'
def PieP (F : Mm → Rs) (o : Nat) : Prop := ∀ (a b : Mm) (c n : Nat) (T : Nat → Int) (p s t k fp fc : Nat), TxOk n T → CS a c n T p o s → RS b n T p o t k → b 54 34 = 0 → n - p + 1 < fp → n - p + 1 < fc → okTp (topR b t) →
  ∃ a', F a = some (0, a') ∧ (BadP a a' b c (Ppt fp fc b) ∨ LateP a a' b c n T p o s (Ppt fp fc b) ∨
    (∃ p' s' k' g b' K fe, GotA a a' c n T p o s p' s' 16 g ∧ bl g ∧ Ppt fp fc b = cll (L_X12_ends_0 fe b') K ∧ KC (n - p' + 1) K ∧ RS b' n T p' o t k' ∧ SegB (b' 73) (b' 74) k k' g ∧ Fr sQ b b' ∧ Keep b b' t k ∧ b' 54 34 = 0 ∧ o + 1 < fe))
def AllP (F : Mm → Rs) (o : Nat) : Prop := ∀ (a b : Mm) (c n : Nat) (T : Nat → Int) (p s t k fp fc : Nat), TxOk n T → CS a c n T p o s → RS b n T p o t k → b 54 34 = 0 → n - p + 1 < fp → n - p + 1 < fc → (topR b t = 40 ∨ topR b t = 124) →
  ∃ a', F a = some (0, a') ∧ (BadP a a' b c (Ppt fp fc b) ∨ LateP a a' b c n T p o s (Ppt fp fc b) ∨
    (∃ p' s' t' k' g b' fc', GotA a a' c n T p o s p' s' 16 g ∧ bl g ∧ Ppt fp fc b = Qpt fc' b' ∧ RS b' n T p' o t' k' ∧ JT b' t k t' k' g ∧ Fr sQ b b' ∧ Keep b b' t k ∧ b' 54 34 = 0 ∧ n - p' + 1 < fc' ∧ (p' < n → T p' ≠ 38)))
def CndP (F : Mm → Rs) (o : Nat) : Prop := ∀ (a b : Mm) (c n : Nat) (T : Nat → Int) (p s t k fp fc : Nat), TxOk n T → CS a c n T p o s → RS b n T p o t k → b 54 34 = 0 → n - p + 1 < fp → n - p + 1 < fc → topR b t = 40 →
  ∃ a', F a = some (0, a') ∧ (BadP a a' b c (Ppt fp fc b) ∨ LateP a a' b c n T p o s (Ppt fp fc b) ∨
    (∃ p' s' t' k' g b' fc', GotA a a' c n T p o s p' s' 16 g ∧ bl g ∧ Ppt fp fc b = Qpt fc' b' ∧ RS b' n T p' o t' k' ∧ JS b' t k t' k' g ∧ Fr sQ b b' ∧ Keep b b' t k ∧ b' 54 34 = 0 ∧ n - p' + 1 < fc' ∧ (p' < n → T p' ≠ 38 ∧ T p' ≠ 124)))
theorem keep34 {b b' : Mm} (h : Fr sQ b b') : b' 54 34 = b 54 34 := h 54 34 rfl
theorem LateA.pre {a a1 a' : Mm} {c n : Nat} {T : Nat → Int} {p o s p1 s1 p' s' : Nat} (h : LateA a1 a' c n T p1 o s1 p' s') (hf : Fr (sP c) a a1) (hp : p ≤ p1) (hs : s1 + p ≤ s + p1) : LateA a a' c n T p o s p' s' := by
  obtain ⟨h1, h2, h3, h4, h5, h6⟩ := h
  exact ⟨h1, hf.trans h2, by omega, by omega, h5, h6⟩
/-- behind a piece: & -/
theorem Q_and {b : Mm} {n : Nat} {T : Nat → Int} {p o t k t' k' : Nat} {g : Sem} (hT : TxOk n T) (h : RS b n T p o t' k') (h34 : b 54 34 = 0) (hp : JT b t k t' k' g) (ht : topR b t ≠ 38) (hpn : p < n) (hx : F_X12_here b = some (38, b)) (fc : Nat) : ∃ b1 k1, Qpt (fc + 1) b = Ppt 100000 fc b1 ∧ RS b1 n T (p + 1) o (t + 1) k1 ∧ SegB (b1 73) (b1 74) k k1 g ∧ Fr sQ b b1 ∧ Keep b b1 t k ∧ b1 75 t = 38 ∧ b1 54 34 = 0 := by
  obtain ⟨b1, k1, e1, ⟨e2, e3, e4, e5, e6⟩, e7⟩ := joins0_s hT h hp ht
  have e34 : (puB b1 p t 38) 54 34 = 0 := (puB_54 (by decide) (by decide)).trans (e7.trans h34)
  refine ⟨puB b1 p t 38, k1, ?_, e2.pu hpn 38, ?_, e4.trans (puB_fr _ _ _ _), e5.trans (puB_keep b1 p t 38 k) (Nat.le_refl _) (Nat.le_refl _), by rw [puB_75, upr_s], e34⟩
  · unfold Qpt F_X12_goesBehind J_X12_goesBehind_17 J_X12_goesBehind_32
    rw [hx, cll_s, nmv_s, if_pos rfl, if_pos (by decide), e1, cll_s, puts_s hT e2, cll_s, cll_s]
    exact Lc_1 ((puB_54 (by decide) (by decide)).trans e2.2.2.2.1) e34 fc
  · rw [puB_r (by decide) (by decide), puB_r (by decide) (by decide)]; exact e3
theorem Q_or {b : Mm} {n : Nat} {T : Nat → Int} {p o t k t' k' : Nat} {g : Sem} (hT : TxOk n T) (h : RS b n T p o t' k') (h34 : b 54 34 = 0) (hp : JS b t k t' k' g) (ht : topR b t ≠ 38) (ht2 : topR b t ≠ 124) (hpn : p < n) (hx : F_X12_here b = some (124, b)) (fc : Nat) : ∃ b1 k1, Qpt (fc + 1) b = Ppt 100000 fc b1 ∧ RS b1 n T (p + 1) o (t + 1) k1 ∧ SegB (b1 73) (b1 74) k k1 g ∧ Fr sQ b b1 ∧ Keep b b1 t k ∧ b1 75 t = 124 ∧ b1 54 34 = 0 := by
  obtain ⟨b1, k1, e1, ⟨e2, e3, e4, e5, e6⟩, e7⟩ := joins1_s hT h hp ht ht2
  have e34 : (puB b1 p t 124) 54 34 = 0 := (puB_54 (by decide) (by decide)).trans (e7.trans h34)
  refine ⟨puB b1 p t 124, k1, ?_, e2.pu hpn 124, ?_, e4.trans (puB_fr _ _ _ _), e5.trans (puB_keep b1 p t 124 k) (Nat.le_refl _) (Nat.le_refl _), by rw [puB_75, upr_s], e34⟩
  · unfold Qpt F_X12_goesBehind J_X12_goesBehind_17 J_X12_goesBehind_32
    rw [hx, cll_s, nmv_s, if_neg (by decide), if_neg (by decide), if_neg (by decide), e1, cll_s, puts_s hT e2, cll_s, cll_s]
    exact Lc_1 ((puB_54 (by decide) (by decide)).trans e2.2.2.2.1) e34 fc
  · rw [puB_r (by decide) (by decide), puB_r (by decide) (by decide)]; exact e3
theorem all_l {F : Mm → Rs} {o : Nat} (hF : PieP F o) {a b : Mm} {c n : Nat} {T : Nat → Int} {p s t k : Nat} (hT : TxOk n T) (htop : topR b t = 40 ∨ topR b t = 124) : ∀ (d i p1 s1 t1 k1 fc1 f : Nat) (a1 b1 : Mm) (g1 : Sem), n - p1 ≤ d → i ≤ p1 → GotA a a1 c n T p o s p1 s1 16 g1 → bl g1 → RS b1 n T p1 o t1 k1 → JT b1 t k t1 k1 g1 → Fr sQ b b1 → Keep b b1 t k → b1 54 34 = 0 → n - p1 + 1 < fc1 → d < f →
    ∃ a', L_X2_allOf_6 F f (i : Int) a1 = some (0, a') ∧ (BadP a a' b c (Qpt fc1 b1) ∨ LateP a a' b c n T p o s (Qpt fc1 b1) ∨
      (∃ p' s' t' k' g b' fc', GotA a a' c n T p o s p' s' 16 g ∧ bl g ∧ Qpt fc1 b1 = Qpt fc' b' ∧ RS b' n T p' o t' k' ∧ JT b' t k t' k' g ∧ Fr sQ b b' ∧ Keep b b' t k ∧ b' 54 34 = 0 ∧ n - p' + 1 < fc' ∧ (p' < n → T p' ≠ 38))) := by
  intro d
  induction d with
  | zero =>
    intro i p1 s1 t1 k1 fc1 f a1 b1 g1 hd hi hG hbl hR hP hFr hK h34 hfc hf
    obtain ⟨f', rfl⟩ : ∃ f', f = f' + 1 := ⟨f - 1, by omega⟩
    obtain ⟨x, y, e1, e2, e3⟩ := next_s hT hG.1 hR
    unfold Nx at e3
    have hpn := hG.1.2.2.2.1
    refine ⟨a1, ?_, Or.inr (Or.inr ⟨p1, s1, t1, k1, g1, b1, fc1, hG, hbl, rfl, hR, hP, hFr, hK, h34, hfc, fun z => absurd z (by omega)⟩)⟩
    show LB_X2_allOf_6 F (L_X2_allOf_6 F f') _ _ = _
    unfold LB_X2_allOf_6
    by_cases h2 : (200 : Int) ≤ i
    · rw [if_pos h2]
    · rw [if_neg h2, if_neg (fun z => z hG.1.2.2.2.2.2.1), e1, cll_s, if_pos (by omega)]
  | succ d ih =>
    intro i p1 s1 t1 k1 fc1 f a1 b1 g1 hd hi hG hbl hR hP hFr hK h34 hfc hf
    obtain ⟨f', rfl⟩ : ∃ f', f = f' + 1 := ⟨f - 1, by omega⟩
    obtain ⟨fc2, rfl⟩ : ∃ f', fc1 = f' + 1 := ⟨fc1 - 1, by omega⟩
    obtain ⟨x, y, e1, e2, e3⟩ := next_s hT hG.1 hR
    unfold Nx at e3
    have hpn := hG.1.2.2.2.1
    have hn := hT.1
    have hs1 := hG.1.2.2.2.2.2.2.2
    by_cases hm : y = 38
    · have hp : p1 < n := by omega
      have hx : x = 38 := by omega
      rw [hm] at e2
      obtain ⟨b2, k2, r1, r2, r3, r4, r5, r6, r7⟩ := Q_and hT hR h34 hP (by rw [topR_keep hK]; omega) hp e2 fc2
      have hA2 := hG.1.jo hp 3
      have ht2 : topR b2 (t + 1) = 38 := by unfold topR; rw [if_neg (by omega)]; exact r6
      obtain ⟨a4, q1, q2⟩ := hF _ b2 c n T (p1 + 1) (s1 + 1) (t + 1) k2 100000 fc2 hT hA2 r2 r7 (by omega) (by omega) (by rw [ht2]; unfold okTp; omega)
      have st : L_X2_allOf_6 F (f' + 1) (i : Int) a1 = cll (F (joA a1 c p1 s1 3)) (fun r11 m12 => grd (isCd (m12 32 1).toNat) (cll (F_X0_landHere (m12 32 1).toNat (s1 : Int) m12) (fun r14 m15 => L_X2_allOf_6 F f' ((i + 1 : Nat) : Int) m15))) := by
        have hA1 := hG.1.to (p' := p1 + 1) (by omega) (by omega)
        show LB_X2_allOf_6 F (L_X2_allOf_6 F f') _ _ = _
        unfold LB_X2_allOf_6
        rw [if_neg (by omega), if_neg (fun z => z hG.1.2.2.2.2.2.1), e1, cll_s, if_neg (fun z => z hx), stf_s, hG.1.2.2.1, wr_s (x := (p1 : Int) + 1) (by omega), show (p1 : Int) + 1 = ((p1 + 1 : Nat) : Int) from rfl, hA1.1.2.1, Int.toNat_natCast, grd_s hA1.1.1, cadd_s hA1.2.2.2.2.2.2.1 (by omega), cll_s, nmv_s]
        simp only [nmv_s]
        rw [wr_s (x := (i : Int) + 1) (by omega)]
        rfl
      rw [st, q1, cll_s]
      have hfA : Fr (sP c) a (joA a1 c p1 s1 3) := hG.2.1.trans (joA_fr _ _ _ _ _)
      have hGl := hG.2.2.2.2.2.2
      have hGp := hG.2.2.2.2.2.1
      have hn9 : ∀ (m : Mm) (g' : Nat) (v : Int), m 32 5 ≠ 0 → L_X2_allOf_6 F (g' + 1) v m = some (0, m) := by
        intro m g' v hm
        show LB_X2_allOf_6 F (L_X2_allOf_6 F g') _ _ = _
        unfold LB_X2_allOf_6
        by_cases h2 : (200 : Int) ≤ v
        · rw [if_pos h2]
        · rw [if_neg h2, if_pos hm]
      obtain ⟨f2, rfl⟩ : ∃ k, f' = k + 1 := ⟨f' - 1, by omega⟩
      rcases q2 with ⟨q2, b', q3, q4⟩ | ⟨p2, s2, q2, b', q3, q4, q5⟩ | ⟨p2, s2, k3, g2, b3, K, fe, q2, q3, q4, q5, q6, q7, q8, q9, q10, q11⟩
      · obtain ⟨a5, w1, w2, w3, w4⟩ := (q2.pre hfA).land (x := s1) (by omega)
        rw [q2.1.2, Int.toNat_natCast, grd_s q2.1.1, w1, cll_s, hn9 _ _ _ w2.ne]
        exact ⟨a5, rfl, Or.inl ⟨w2, b', by rw [r1, q3], (q4.of w3 w4).pre (hFr.trans r4)⟩⟩
      · obtain ⟨a5, w1, w2, w3⟩ := q2.1.land (x := s1) (by omega)
        rw [q2.1.1.2.1, Int.toNat_natCast, grd_s q2.1.1.1, w1, cll_s]
        have hnx : F_X2_next a5 = some (93, a5) := by
          have := q2.2.2.2.2.1
          unfold F_X2_next
          rw [w2.2.2.1, w2.1.2.2, if_neg (by omega), if_neg (by omega), ald_s (by omega), Int.toNat_natCast, w2.2.1 p2 this, q2.2.2.2.2.2]
        refine ⟨a5, ?_, Or.inr (Or.inl ⟨p2, s2, LateA.pre (a1 := joA a1 c p1 s1 3) (p1 := p1 + 1) (s1 := s1 + 1) ⟨w2, q2.2.1.trans w3, q2.2.2⟩ hfA (by omega) (by omega), b', by rw [r1, q3], q4, (hFr.trans r4).trans q5⟩)⟩
        show LB_X2_allOf_6 F (L_X2_allOf_6 F f2) _ _ = _
        unfold LB_X2_allOf_6
        by_cases h2 : (200 : Int) ≤ ((i + 1 : Nat) : Int)
        · rw [if_pos h2]
        · rw [if_neg h2, if_neg (fun z => z w2.2.2.2.2.2.1), hnx, cll_s, if_pos (by decide)]
      · obtain ⟨z1, z2⟩ := GotA.jo (h := sAnd g1 g2) hG hp q2 (fun d w h1 h2 h3 h4 => A_and h1 h2 h3 h4 (by decide)) ff_and
        have hp2 := q2.2.2.2.2.2.1
        rw [q2.1.1.2.1, Int.toNat_natCast, grd_s q2.1.1.1, land_s q2.1.2.2.2.2.2.2.1 z1 (by have := q2.1.2.2.2.1; have := q2.1.2.2.2.2.2.2.2; omega), cll_s]
        obtain ⟨fe', rfl⟩ : ∃ f, fe = f + 1 := ⟨fe - 1, by omega⟩
        have et3 : topR b3 (t + 1) = 38 := by rw [topR_keep q9]; exact ht2
        rw [ends_end hT q6 (by omega), cll_s] at q4
        obtain ⟨fc3, y1, y2⟩ := q5 b3 q6.2.2.2.1 q10
        have hK3 : Keep b b3 t k := (hK.trans r5 (Nat.le_refl _) (Nat.le_refl _)).trans q9 (by omega) (by have := r3.1; omega)
        have hP3 : JT b3 t k (t + 1) k3 (sAnd g1 g2) := Or.inr ⟨g1, g2, k2, rfl, (q9.1 t (by omega)).trans r6, r3.keep q9 (Nat.le_refl _), q7, rfl⟩
        obtain ⟨a', t1', t2'⟩ := ih (i + 1) p2 s2 (t + 1) k3 fc3 (f2 + 1) _ b3 (sAnd g1 g2) (by omega) (by omega) z2 (bl_and hbl q3) q6 hP3 ((hFr.trans r4).trans q8) hK3 q10 y1 (by omega)
        refine ⟨a', t1', ?_⟩
        rw [r1, q4, y2]
        exact t2'
    · refine ⟨a1, ?_, Or.inr (Or.inr ⟨p1, s1, t1, k1, g1, b1, fc2 + 1, hG, hbl, rfl, hR, hP, hFr, hK, h34, hfc, fun z => by omega⟩)⟩
      show LB_X2_allOf_6 F (L_X2_allOf_6 F f') _ _ = _
      unfold LB_X2_allOf_6
      by_cases h2 : (200 : Int) ≤ i
      · rw [if_pos h2]
      · rw [if_neg h2, if_neg (fun z => z hG.1.2.2.2.2.2.1), e1, cll_s, if_pos (by omega)]
theorem next93 {a : Mm} {c n : Nat} {T : Nat → Int} {p o s : Nat} (hT : TxOk n T) (h : CS a c n T p o s) (hp : p < n) (h93 : T p = 93) : F_X2_next a = some (93, a) := by
  have hn := hT.1
  unfold F_X2_next
  rw [h.2.2.1, h.1.2.2, if_neg (by omega), if_neg (by omega), ald_s (by omega), Int.toNat_natCast, h.2.1 p hp, h93]
theorem all_p {F : Mm → Rs} {o : Nat} (hF : PieP F o) : AllP (O_X2_allOf F) o := by
  intro a b c n T p s t k fp fc hT hA hB h34 hfp hfc htop
  obtain ⟨a1, q1, q2⟩ := hF a b c n T p s t k fp fc hT hA hB h34 hfp hfc (by unfold okTp; omega)
  have hn := hT.1
  have h0 : O_X2_allOf F a = L_X2_allOf_6 F 100000 ((0 : Nat) : Int) a1 := by
    unfold O_X2_allOf
    rw [q1, cll_s, nmv_s]
    rfl
  rw [h0]
  rcases q2 with ⟨q2, b', q3, q4⟩ | ⟨p2, s2, q2, b', q3, q4, q5⟩ | ⟨p2, s2, k3, g2, b3, K, fe, q2, q3, q4, q5, q6, q7, q8, q9, q10, q11⟩
  · refine ⟨a1, ?_, Or.inl ⟨q2, b', q3, q4⟩⟩
    show LB_X2_allOf_6 F (L_X2_allOf_6 F 99999) _ _ = _
    unfold LB_X2_allOf_6
    rw [if_neg (by decide), if_pos q2.ne]
  · refine ⟨a1, ?_, Or.inr (Or.inl ⟨p2, s2, q2, b', q3, q4, q5⟩)⟩
    show LB_X2_allOf_6 F (L_X2_allOf_6 F 99999) _ _ = _
    unfold LB_X2_allOf_6
    rw [if_neg (by decide), if_neg (fun z => z q2.1.2.2.2.2.2.1), next93 hT q2.1 q2.2.2.2.2.1 q2.2.2.2.2.2, cll_s, if_pos (by decide)]
  · obtain ⟨fe', rfl⟩ : ∃ f, fe = f + 1 := ⟨fe - 1, by omega⟩
    rw [ends_end hT q6 (by rw [topR_keep q9]; omega), cll_s] at q4
    obtain ⟨fc3, y1, y2⟩ := q5 b3 q6.2.2.2.1 q10
    rw [q4, y2]
    exact all_l hF hT htop (n - p2) 0 p2 s2 t k3 fc3 100000 a1 b3 g2 (Nat.le_refl _) (by omega) q2 q3 q6 (Or.inl ⟨rfl, q7⟩) q8 q9 q10 y1 (by omega)

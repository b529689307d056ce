/-! a sum read whole; a comparison; joins -/
theorem value_s {a b : Mm} {c n : Nat} {T : Nat → Int} {p o s t k : Nat} (ho : o ≤ 6) (hT : TxOk n T) (hA : CS a c n T p o s) (hB : RS b n T p o t k) (ht : ¬ isTm (topR b t)) (ht2 : ¬ isPl (topR b t)) (ht3 : topR b t ≠ 91) :
    ∃ a', F_X2_sum a = some (0, a') ∧ ((BadA a a' c ∧ ∃ b', F_X12_value b = some (0, b') ∧ BadB a' b b') ∨ (∃ p' s' g, GotA a a' c n T p o s p' s' 15 g ∧
      ((∃ b' k', F_X12_value b = some (0, b') ∧ RS b' n T p' o t k' ∧ SegB (b' 73) (b' 74) k k' g ∧ Fr sQ b b' ∧ Keep b b' t k ∧ ¬ (p' < n ∧ T p' = 93)) ∨ (∃ b', F_X12_value b = some (0, b') ∧ b' 54 29 = -1000 - (p' : Int) ∧ Fr sQ b b' ∧ p' < n ∧ T p' = 93)))) := by
  have hn := hT.1
  have hpn := hA.2.2.2.1
  have hv : F_X12_value b = Apt 100000 99999 (upd2 b 54 35 0) := by
    unfold F_X12_value
    rw [nmv_s, stf_s, show (100000 : Nat) = 99999 + 1 from rfl]
    exact L_go ((u2n (by decide)).trans hB.2.2.2.1) (u2s _ _ _ _)
  rw [hv]
  obtain ⟨a', q1, q2⟩ := fsum_p ho a (upd2 b 54 35 0) c n T p s t k 100000 99999 hT hA (hB.f35 0) (by omega) (by omega) (by rw [topR_35]; exact ht) (by rw [topR_35]; exact ht2)
  refine ⟨a', q1, ?_⟩
  rcases q2 with ⟨q2, b', q3, q4⟩ | ⟨p2, s2, t3, k3, g2, b3, fv3, q2, q3, q4, q5, q6, q7, q8, q9⟩
  · exact Or.inl ⟨q2, b', q3, q4.pre (f35_fr b 0)⟩
  · right
    refine ⟨p2, s2, g2, q2.mono (by omega), ?_⟩
    obtain ⟨x, y, e1, e2, e3⟩ := next_s hT q2.1 q4
    unfold Nx at e3
    obtain ⟨fv4, rfl⟩ : ∃ f, fv3 = f + 1 := ⟨fv3 - 1, by omega⟩
    have hK : Keep b b3 t k := (f35_keep b 0 t k).trans q7 (Nat.le_refl _) (Nat.le_refl _)
    have et := topR_keep hK
    rw [q3]
    by_cases h93 : y = 93
    · right
      rw [h93] at e2
      obtain ⟨b4, w1, w2, w3⟩ := B_wr hT q4 q5 (by rw [et]; exact ht) (by rw [et]; exact ht2) (by rw [et]; exact ht3) e2 fv4
      exact ⟨b4, w1, w2, ((f35_fr b 0).trans q6).trans w3, by omega, by omega⟩
    · left
      obtain ⟨b4, k4, w1, w2, w3, w4, w5⟩ := B_end hT q4 q5 (by rw [et]; exact ht) (by rw [et]; exact ht2) e2
        (by rcases e3 with z | z
            · rw [z.2.2.1]; exact (q9 z.1).1
            · unfold isTm; omega)
        (by rcases e3 with z | z
            · rw [z.2.2.1]; exact (q9 z.1).2
            · unfold isPl; omega) h93 fv4
      rw [if_neg (by rw [et]; exact ht3)] at w1
      exact ⟨b4, k4, w1, w2, w3, ((f35_fr b 0).trans q6).trans w4, hK.trans w5 (Nat.le_refl _) (Nat.le_refl _), fun z => by omega⟩
def isSg (x : Int) : Prop := x = 60 ∨ x = 62 ∨ x = 61
theorem sg_t {x : Int} (h : isSg x) (m : Mm) : F_X12_isSign x m = some (1, m) := by
  unfold isSg at h; unfold F_X12_isSign
  rcases h with e | e | e <;> subst e <;> rfl
theorem sg_f {x : Int} (h : ¬ isSg x) (m : Mm) : F_X12_isSign x m = some (0, m) := by
  unfold isSg at h; unfold F_X12_isSign
  rw [if_neg (by omega), if_neg (by omega), if_pos (by omega)]
def okTp (x : Int) : Prop := x = 40 ∨ x = 33 ∨ x = 38 ∨ x = 124
def LateA (a a' : Mm) (c n : Nat) (T : Nat → Int) (p o s p' s' : Nat) : Prop := CS a' c n T p' o s' ∧ Fr (sP c) a a' ∧ p < p' ∧ s' + p ≤ s + p' ∧ p' < n ∧ T p' = 93
theorem bl_sg {op : Int} (h : isSg op) (f g : Sem) : bl (sBin op f g) := by
  intro e v hv
  unfold sBin at hv
  cases ef : f e with
  | none => rw [ef] at hv; exact (nomatch hv)
  | some x =>
    cases eg : g e with
    | none => rw [ef, eg] at hv; exact (nomatch hv)
    | some y =>
      rw [ef, eg] at hv
      unfold isSg at h
      have hv' : (if (op = 47 ∨ op = 37) ∧ y = 0 then none else some (ar op x y)) = some v := hv
      rw [if_neg (by omega)] at hv'
      have hv2 := Option.some.inj hv'
      unfold ar at hv2
      rw [if_neg (by omega), if_neg (by omega), if_neg (by omega), if_neg (by omega), if_neg (by omega)] at hv2
      split at hv2
      · split at hv2 <;> omega
      · split at hv2
        · split at hv2 <;> omega
        · split at hv2 <;> omega
theorem cmp_s {a b : Mm} {c n : Nat} {T : Nat → Int} {p o s t k : Nat} (ho : o ≤ 6) (hT : TxOk n T) (hA : CS a c n T p o s) (hB : RS b n T p o t k) (ht : okTp (topR b t)) :
    ∃ a', F_X2_comparison a = some (0, a') ∧ ((BadA a a' c ∧ ∃ b', J_X12_pieceOfC_32 b = some (0, b') ∧ BadB a' b b') ∨ (∃ p' s', LateA a a' c n T p o s p' s' ∧ ∃ b', J_X12_pieceOfC_32 b = some (0, b') ∧ b' 54 29 = -1000 - (p' : Int) ∧ Fr sQ b b') ∨
      (∃ p' s' k' g b', GotA a a' c n T p o s p' s' 16 g ∧ bl g ∧ J_X12_pieceOfC_32 b = cll (F_X12_ends b') (fun _ m => some (0, m)) ∧ RS b' n T p' o t k' ∧ SegB (b' 73) (b' 74) k k' g ∧ Fr sQ b b' ∧ Keep b b' t k)) := by
  have hn := hT.1
  unfold okTp at ht
  have hv0 : J_X12_pieceOfC_32 b = cll (F_X12_value b) (fun r4 m5 => (J_X12_pieceOfC_43 m5)) := by
    unfold J_X12_pieceOfC_32
    rw [good_s hB.2.2.2.1, cll_s, if_neg (by decide)]
  obtain ⟨a1, q1, q2⟩ := value_s ho hT hA hB (by unfold isTm; omega) (by unfold isPl; omega) (by omega)
  unfold F_X2_comparison
  rw [hv0, q1, cll_s]
  rcases q2 with ⟨q2, b1, q3, q4⟩ | ⟨p1, s1, g1, q2, q3⟩
  · rw [if_neg q2.ne, q3, cll_s]
    refine ⟨a1, rfl, Or.inl ⟨q2, b1, ?_, q4⟩⟩
    unfold J_X12_pieceOfC_43
    rw [good_b (by have := q4.1; have := q2.2.2; omega), cll_s, if_neg (by decide)]
  · rw [if_pos q2.1.2.2.2.2.2.1]
    rcases q3 with ⟨b1, k1, r1, r2, r3, r4, r5, r6⟩ | ⟨b1, r1, r2, r3, r4, r5⟩
    · obtain ⟨x, y, e1, e2, e3⟩ := next_s hT q2.1 r2
      unfold Nx at e3
      rw [r1, cll_s, e1, cll_s, nmv_s]
      have h43 : J_X12_pieceOfC_43 b1 = cll (F_X12_isSign y b1) (fun r7 m8 => if ¬ r7 = 0 then cll (F_X12_puts y m8) (fun r10 m11 => cll (F_X12_value m11) (fun r12 m13 => cll (F_X12_isGood m13) (fun r14 m15 => if ¬ r14 = 0 then cll (F_X12_top m15) (fun r17 m18 => cll (F_X12_emit r17 0 m18) (fun r19 m20 => stf m20 54 33 (wr ((m20 54 33) - 1)) (fun m21 => cll (F_X12_ends m21) (fun r22 m23 => some (0, m23))))) else some (0, m15)))) else cll (F_X12_wrongs 1 (m8 54 27) m8) (fun r24 m25 => some (0, m25))) := by
        unfold J_X12_pieceOfC_43
        rw [good_s r2.2.2.2.1, cll_s, if_pos (by decide), e2, cll_s, nmv_s]
      rw [h43]
      by_cases hs : isSg y
      · have hs' := hs
        unfold isSg at hs'
        have hop : isOp y := by unfold isOp; omega
        have hp1 : p1 < n := by omega
        have hxy : x = y := by omega
        have hA2 : CS (upd2 a1 32 3 ((p1 + 1 : Nat) : Int)) c n T (p1 + 1) o s1 := q2.1.to (by omega) (by omega)
        have hB2 := r2.pu hp1 y
        have hst : (if x = 60 then (J_X2_comparison_41 x a1) else if x = 62 then (J_X2_comparison_41 x a1) else if x = 61 then (J_X2_comparison_41 x a1) else cll (F_X2_fail 1 a1) (fun r10 m11 => some (0, m11))) = cll (F_X2_sum (upd2 a1 32 3 ((p1 + 1 : Nat) : Int))) (fun r2 m3 => grd (isCd (m3 32 1).toNat) (cll (F_X0_add (m3 32 1).toNat y 0 m3) (fun r5 m6 => some (0, m6)))) := by
          unfold J_X2_comparison_41
          rw [stf_s, q2.1.2.2.1, wr_s (x := (p1 : Int) + 1) (by omega), hxy]
          rcases hs' with z | z | z
          · rw [if_pos z]; rfl
          · rw [if_neg (by omega), if_pos z]; rfl
          · rw [if_neg (by omega), if_neg (by omega), if_pos z]; rfl
        rw [hst, sg_t hs, cll_s, if_pos (by decide), puts_s hT r2, cll_s]
        have htop := puB_top b1 p1 t y
        obtain ⟨a3, u1, u2⟩ := value_s ho hT hA2 hB2 (by rw [htop]; unfold isTm; omega) (by rw [htop]; unfold isPl; omega) (by rw [htop]; omega)
        rw [u1, cll_s]
        have hFr2 : Fr sQ b (puB b1 p1 t y) := r4.trans (puB_fr _ _ _ _)
        have hfA : Fr (sP c) a (upd2 a1 32 3 ((p1 + 1 : Nat) : Int)) := q2.2.1.trans (Fr.upd (Fr.refl _ _) _ rfl)
        rcases u2 with ⟨u2, b3, u3, u4⟩ | ⟨p2, s2, g2, u2, u3⟩
        · obtain ⟨rr, a4, w1, w2, w3, w4⟩ := add_b (u2.pre hfA) y 0
          rw [u2.1.2, Int.toNat_natCast, grd_s u2.1.1, w1, cll_s, u3, cll_s, good_b (by have := u4.1; have := u2.2.2; omega), cll_s, if_neg (by decide)]
          exact ⟨a4, rfl, Or.inl ⟨w2, b3, rfl, (u4.of w3 w4).pre hFr2⟩⟩
        · obtain ⟨z1, z2⟩ := GotA.bin (q2.mono (show 15 ≤ 16 by omega)) u2 hop (Nat.le_refl _) (by decide)
          rw [u2.1.1.2.1, Int.toNat_natCast, grd_s u2.1.1.1, cadd_s u2.1.2.2.2.2.2.2.1 (by have := u2.1.2.2.2.1; omega), cll_s]
          rcases u3 with ⟨b3, k3, v1, v2, v3, v4, v5, v6⟩ | ⟨b3, v1, v2, v3, v4, v5⟩
          · rw [v1, cll_s, good_s v2.2.2.2.1, cll_s, if_pos (by decide), top_s hT v2, cll_s]
            have et3 : topR b3 (t + 1) = y := by rw [topR_keep v5]; exact htop
            have hk3 := v2.2.2.2.2.2.2.2
            rw [et3, emit_s v2.2.2.2.1 v2.2.2.2.2.1 (by have := v2.2.2.1; omega), cll_s, stf_s, emB_54 (by decide), v2.2.2.2.2.2.2.1, wr_s (by have := v2.2.2.1; omega), show ((t + 1 : Nat) : Int) - 1 = (t : Int) by omega]
            have hkp := popB_keep b3 t k3 y t
            have hK1 : Keep b (puB b1 p1 t y) t k := r5.trans (puB_keep b1 p1 t y k) (Nat.le_refl _) (Nat.le_refl _)
            have l1 := r3.1
            have l2 := v3.1
            refine ⟨_, rfl, Or.inr (Or.inr ⟨p2, s2 + 1, k3 + 1, sBin y g1 g2, popB b3 t k3 y, z2, bl_sg hs _ _, rfl, v2.pop y, ?_, (hFr2.trans v4).trans (popB_fr _ _ _ _), ?_⟩)⟩
            · refine pop_seg (SegB.keep (b := puB b1 p1 t y) ?_ v5 (Nat.le_refl _)) v3 hop
              rw [puB_r (by decide) (by decide), puB_r (by decide) (by decide)]
              exact r3
            · exact (hK1.trans v5 (by omega) (by omega)).trans ⟨fun i hi => hkp.1 i hi, fun i hi => hkp.2 i (by omega)⟩ (Nat.le_refl _) (Nat.le_refl k)
          · rw [v1, cll_s, good_b (by omega), cll_s, if_neg (by decide)]
            refine ⟨_, rfl, Or.inr (Or.inl ⟨p2, s2 + 1, ⟨z2.1, z2.2.1, z2.2.2.2.2.2.1, z2.2.2.2.2.2.2, v4, v5⟩, b3, rfl, v2, hFr2.trans v3⟩)⟩
      · have hs' := hs
        unfold isSg at hs'
        obtain ⟨w1, w2, w3, w4⟩ := fail_s hT q2.1 (x := 1) (by decide)
        rw [if_neg (by omega), if_neg (by omega), if_neg (by omega), w1, cll_s, sg_f hs, cll_s, if_neg (by decide), r2.2.1, wrongs_s r2.2.2.2.1 1 p1 (by decide) (by have := r2.2.2.1; omega), cll_s]
        refine ⟨_, rfl, Or.inl ⟨w2.pre q2.2.1, _, rfl, ?_, Fr.upd r4 _ rfl⟩⟩
        rw [u2s, w3, w4]
    · have hx : F_X2_next a1 = some (93, a1) := by
        unfold F_X2_next
        rw [q2.1.2.2.1, q2.1.1.2.2, if_neg (by omega), if_neg (by omega), ald_s (by omega), Int.toNat_natCast, q2.1.2.1 p1 r4, r5]
      obtain ⟨w1, w2, w3, w4⟩ := fail_s hT q2.1 (x := 1) (by decide)
      rw [r1, cll_s, hx, cll_s, nmv_s, if_neg (by decide), if_neg (by decide), if_neg (by decide), w1, cll_s]
      refine ⟨_, rfl, Or.inl ⟨w2.pre q2.2.1, b1, ?_, ?_, r3⟩⟩
      · unfold J_X12_pieceOfC_43
        rw [good_b (by omega), cll_s, if_neg (by decide)]
      · rw [r2, w3, w4]; omega
/-! joins -/
def JT (b : Mm) (t k t' k' : Nat) (g : Sem) : Prop := (t' = t ∧ SegB (b 73) (b 74) k k' g) ∨ (∃ f1 f2 k1, t' = t + 1 ∧ b 75 t = 38 ∧ SegB (b 73) (b 74) k k1 f1 ∧ SegB (b 73) (b 74) k1 k' f2 ∧ g = sAnd f1 f2)
def JS (b : Mm) (t k t' k' : Nat) (g : Sem) : Prop := JT b t k t' k' g ∨ (∃ f1 g2 k1, b 75 t = 124 ∧ SegB (b 73) (b 74) k k1 f1 ∧ JT b (t + 1) k1 t' k' g2 ∧ g = sOr f1 g2)
theorem joins_pop {b : Mm} {n : Nat} {T : Nat → Int} {p o t k : Nat} (hT : TxOk n T) (h : RS b n T p o (t + 1) k) (v : Int) (f : Nat) : J_X12_joins_22 (L_X12_joins_0 f) v b = L_X12_joins_0 f v (popB b t k (b 75 t)) := by
  have h' := h
  obtain ⟨⟨h1, h2⟩, h3, h4, h5, h6, h7, h8, h9⟩ := h'
  have hn := hT.1
  unfold J_X12_joins_22
  rw [top_s hT h, cll_s]
  have et : topR b (t + 1) = b 75 t := by unfold topR; rw [if_neg (by omega)]; rfl
  rw [et, emit_s h5 h6 (by omega), cll_s, stf_s, emB_54 (by decide), h8, wr_s (by omega), show ((t + 1 : Nat) : Int) - 1 = (t : Int) by omega]
  rfl
theorem joins_and {b : Mm} {n : Nat} {T : Nat → Int} {p o t k : Nat} (hT : TxOk n T) (h : RS b n T p o (t + 1) k) (hm : b 75 t = 38) (v : Int) (f : Nat) : L_X12_joins_0 (f + 1) v b = L_X12_joins_0 f v (popB b t k 38) := by
  show LB_X12_joins_0 (L_X12_joins_0 f) _ _ = _
  unfold LB_X12_joins_0
  have et : topR b (t + 1) = b 75 t := by unfold topR; rw [if_neg (by omega)]; rfl
  rw [top_s hT h, cll_s, et, if_pos hm, joins_pop hT h, hm]
theorem joins_or {b : Mm} {n : Nat} {T : Nat → Int} {p o t k : Nat} (hT : TxOk n T) (h : RS b n T p o (t + 1) k) (hm : b 75 t = 124) (f : Nat) : L_X12_joins_0 (f + 1) 1 b = L_X12_joins_0 f 1 (popB b t k 124) := by
  show LB_X12_joins_0 (L_X12_joins_0 f) _ _ = _
  unfold LB_X12_joins_0
  have et : topR b (t + 1) = b 75 t := by unfold topR; rw [if_neg (by omega)]; rfl
  rw [top_s hT h, cll_s, et, if_neg (by omega), if_neg (by decide), top_s hT h, cll_s, et, if_neg (by omega), joins_pop hT h, hm]
theorem joins_end {b : Mm} {n : Nat} {T : Nat → Int} {p o t k : Nat} (hT : TxOk n T) (h : RS b n T p o t k) {v : Int} (hm : topR b t ≠ 38) (hv : v = 0 ∨ topR b t ≠ 124) (f : Nat) : L_X12_joins_0 (f + 1) v b = some (0, b) := by
  show LB_X12_joins_0 (L_X12_joins_0 f) _ _ = _
  unfold LB_X12_joins_0
  rw [top_s hT h, cll_s, if_neg hm]
  by_cases h0 : v = 0
  · rw [if_pos h0]
  · have hp : topR b t ≠ 124 := by rcases hv with z | z; exact absurd z h0; exact z
    rw [if_neg h0, top_s hT h, cll_s, if_pos hp]
theorem popB_k {b : Mm} {t k k' : Nat} {x : Int} (h : k ≤ k') (t' : Nat) : Keep b (popB b t k' x) t' k := by
  have := popB_keep b t k' x t'
  exact ⟨this.1, fun i hi => this.2 i (by omega)⟩
theorem flushJ {b : Mm} {n : Nat} {T : Nat → Int} {p o t k t' k' : Nat} {g : Sem} (hT : TxOk n T) (h : RS b n T p o t' k') (hp : JT b t k t' k' g) (v : Int) (f : Nat) : ∃ b1 k1 f1, L_X12_joins_0 (f + 1) v b = L_X12_joins_0 f1 v b1 ∧ f ≤ f1 ∧ Fl b b1 n T p o t k k1 g ∧ b1 54 34 = b 54 34 := by
  rcases hp with ⟨h1, h2⟩ | ⟨f1, f2, k1, h1, h2, h4, h5, h6⟩
  · subst h1
    exact ⟨b, k', f + 1, rfl, by omega, ⟨h, h2, Fr.refl _ _, Keep.refl _ _ _, rfl⟩, rfl⟩
  · subst h1 h6
    have hk := popB_keep b t k' 38 t
    have l1 := h4.1
    have l2 := h5.1
    refine ⟨popB b t k' 38, k' + 1, f, joins_and hT h h2 v f, Nat.le_refl _, ⟨h.pop _, ?_, popB_fr _ _ _ _, popB_k (by omega) _, popB_54 (by decide) (by decide)⟩, popB_54 (by decide) (by decide)⟩
    exact B_and (h4.keep hk (by omega)) (h5.keep hk (by omega)) (by rw [popB_73, upr_s])
theorem joins0_s {b : Mm} {n : Nat} {T : Nat → Int} {p o t k t' k' : Nat} {g : Sem} (hT : TxOk n T) (h : RS b n T p o t' k') (hp : JT b t k t' k' g) (ht : topR b t ≠ 38) : ∃ b1 k1, F_X12_joins 0 b = some (0, b1) ∧ Fl b b1 n T p o t k k1 g ∧ b1 54 34 = b 54 34 := by
  obtain ⟨b1, k1, f1, e1, e2, e3, e4⟩ := flushJ hT h hp 0 99999
  refine ⟨b1, k1, ?_, e3, e4⟩
  obtain ⟨f2, rfl⟩ : ∃ f, f1 = f + 1 := ⟨f1 - 1, by omega⟩
  unfold F_X12_joins
  rw [show (100000 : Nat) = 99999 + 1 from rfl, e1, joins_end hT e3.1 (by rw [topR_keep e3.2.2.2.1]; exact ht) (Or.inl rfl)]
theorem joins1_s {b : Mm} {n : Nat} {T : Nat → Int} {p o t k t' k' : Nat} {g : Sem} (hT : TxOk n T) (h : RS b n T p o t' k') (hp : JS b t k t' k' g) (ht : topR b t ≠ 38) (ht2 : topR b t ≠ 124) : ∃ b1 k1, F_X12_joins 1 b = some (0, b1) ∧ Fl b b1 n T p o t k k1 g ∧ b1 54 34 = b 54 34 := by
  rcases hp with hp | ⟨f1, g2, k1, q1, q3, q4, q5⟩
  · obtain ⟨b1, k1, f1, e1, e2, e3, e4⟩ := flushJ hT h hp 1 99999
    refine ⟨b1, k1, ?_, e3, e4⟩
    obtain ⟨f2, rfl⟩ : ∃ f, f1 = f + 1 := ⟨f1 - 1, by omega⟩
    unfold F_X12_joins
    rw [show (100000 : Nat) = 99999 + 1 from rfl, e1, joins_end hT e3.1 (by rw [topR_keep e3.2.2.2.1]; exact ht) (Or.inr (by rw [topR_keep e3.2.2.2.1]; exact ht2))]
  · obtain ⟨b1, k2, f2, e1, e2, ⟨e3, e4, e5, e6, e7⟩, e8⟩ := flushJ hT h q4 1 99999
    have eo : b1 75 t = 124 := (e6.1 t (by omega)).trans q1
    obtain ⟨f3, rfl⟩ : ∃ f, f2 = f + 1 + 1 := ⟨f2 - 2, by omega⟩
    have hk := popB_keep b1 t k2 124 t
    have l1 := q3.1
    have l2 := e4.1
    have hkk : Keep b (popB b1 t k2 124) t k := ⟨fun i hi => (hk.1 i hi).trans (e6.1 i (by omega)), fun i hi => ⟨(hk.2 i (by omega)).1.trans (e6.2 i (by omega)).1, (hk.2 i (by omega)).2.trans (e6.2 i (by omega)).2⟩⟩
    refine ⟨popB b1 t k2 124, k2 + 1, ?_, ⟨e3.pop _, ?_, e5.trans (popB_fr _ _ _ _), hkk, (popB_54 (by decide) (by decide)).trans e7⟩, (popB_54 (by decide) (by decide)).trans e8⟩
    · unfold F_X12_joins
      rw [show (100000 : Nat) = 99999 + 1 from rfl, e1, joins_or hT e3 eo, joins_end hT (e3.pop _) (by rw [topR_keep hkk]; exact ht) (Or.inr (by rw [topR_keep hkk]; exact ht2))]
    · rw [q5]
      exact B_or ((q3.keep e6 (Nat.le_refl _)).keep hk (by omega)) (e4.keep hk (by omega)) (by rw [popB_73, upr_s])

/-! conditions: the places of the reference's loop -/
def Ppt (fp fc : Nat) (b : Mm) : Rs := cll (L_X12_pieceOfC_0 fp b) (fun _ m7 => J_X12_condition_59 (L_X12_condition_37 fc) 1 m7)
def Qpt (fc : Nat) (b : Mm) : Rs := cll (F_X12_goesBehind b) (fun r4 m5 => L_X12_condition_37 fc r4 m5)
def KC (n' : Nat) (K : Int → Mm → Rs) : Prop := ∀ m : Mm, m 54 29 = 0 → m 54 34 = 0 → ∃ fc, n' < fc ∧ K 0 m = Qpt fc m
theorem J59_g {b : Mm} (h : b 54 29 = 0) (fc : Nat) (v : Int) : J_X12_condition_59 (L_X12_condition_37 fc) v b = Qpt fc b := by
  unfold J_X12_condition_59 Qpt
  rw [good_s h, cll_s, if_neg (by decide)]
  simp only [nmv_s]
theorem Lc_b {b : Mm} (h : b 54 29 ≠ 0) (fc : Nat) (v : Int) : L_X12_condition_37 (fc + 1) v b = some (0, b) := by
  show LB_X12_condition_37 (L_X12_condition_37 fc) _ _ = _
  unfold LB_X12_condition_37
  rw [good_b h, cll_s, if_pos rfl]
theorem J59_b {b : Mm} (h : b 54 29 ≠ 0) (fc : Nat) (v : Int) : J_X12_condition_59 (L_X12_condition_37 (fc + 1)) v b = some (0, b) := by
  unfold J_X12_condition_59
  rw [good_b h, cll_s, if_pos rfl, Lc_b h]
theorem Lc_0 {b : Mm} (h : b 54 29 = 0) (h34 : b 54 34 = 0) (fc : Nat) : L_X12_condition_37 (fc + 1) 0 b = Qpt fc b := by
  show LB_X12_condition_37 (L_X12_condition_37 fc) _ _ = _
  unfold LB_X12_condition_37
  rw [good_s h, cll_s, if_neg (by decide), if_neg (fun z => z h34), if_pos rfl, J59_g h]
theorem Lc_1 {b : Mm} (h : b 54 29 = 0) (h34 : b 54 34 = 0) (fc : Nat) : L_X12_condition_37 (fc + 1) 1 b = Ppt 100000 fc b := by
  show LB_X12_condition_37 (L_X12_condition_37 fc) _ _ = _
  unfold LB_X12_condition_37
  rw [good_s h, cll_s, if_neg (by decide), if_neg (fun z => z h34), if_neg (by decide)]
  rfl
theorem Ppt_b {b : Mm} (h : b 54 29 ≠ 0) (fp fc : Nat) : Ppt (fp + 1) (fc + 1) b = some (0, b) := by
  unfold Ppt
  show cll (LB_X12_pieceOfC_0 (L_X12_pieceOfC_0 fp) b) _ = _
  unfold LB_X12_pieceOfC_0 J_X12_pieceOfC_32 J_X12_pieceOfC_43
  rw [good_b h, cll_s, if_pos rfl, good_b h, cll_s, if_pos rfl, good_b h, cll_s, if_neg (by decide), cll_s, J59_b h]
theorem Ppt_g {b : Mm} (h : b 54 29 = 0) {y : Int} (hy : F_X12_here b = some (y, b)) (fp fc : Nat) : Ppt (fp + 1) fc b = if y = 33 ∨ y = 40 then cll (F_X12_opens b) (fun _ m2 => Ppt fp fc m2) else cll (J_X12_pieceOfC_32 b) (fun _ m7 => J_X12_condition_59 (L_X12_condition_37 fc) 1 m7) := by
  unfold Ppt
  show cll (LB_X12_pieceOfC_0 (L_X12_pieceOfC_0 fp) b) _ = _
  unfold LB_X12_pieceOfC_0 J_X12_pieceOfC_25
  rw [good_s h, cll_s, if_neg (by decide), hy, cll_s, hy, cll_s]
  by_cases h1 : y = 33
  · rw [if_pos h1, if_pos (Or.inl h1)]
    cases F_X12_opens b with
    | none => rfl
    | some q => rfl
  · rw [if_neg h1]
    by_cases h2 : y = 40
    · rw [if_neg (fun z => z h2), if_pos (Or.inr h2)]
      cases F_X12_opens b with
      | none => rfl
      | some q => rfl
    · rw [if_pos h2, if_neg (by omega)]
theorem ends_end {b : Mm} {n : Nat} {T : Nat → Int} {p o t k : Nat} (hT : TxOk n T) (h : RS b n T p o t k) (hm : topR b t ≠ 33) (f : Nat) : L_X12_ends_0 (f + 1) b = some (0, b) := by
  show LB_X12_ends_0 (L_X12_ends_0 f) _ = _
  unfold LB_X12_ends_0
  rw [top_s hT h, cll_s, if_pos hm]
def notB (b : Mm) (t k o : Nat) : Mm := upd2 (popB b t k 2) 54 32 (o : Int)
theorem ends_not {b : Mm} {n : Nat} {T : Nat → Int} {p o t k : Nat} (hT : TxOk n T) (h : RS b n T p (o + 1) (t + 1) k) (hm : b 75 t = 33) (ho : o < 200) (f : Nat) : L_X12_ends_0 (f + 1) b = L_X12_ends_0 f (notB b t k o) := by
  have h' := h
  obtain ⟨⟨h1, h2⟩, h3, h4, h5, h6, h7, h8, h9⟩ := h'
  have hn := hT.1
  show LB_X12_ends_0 (L_X12_ends_0 f) _ = _
  unfold LB_X12_ends_0
  have et : topR b (t + 1) = b 75 t := by unfold topR; rw [if_neg (by omega)]; rfl
  rw [top_s hT h, cll_s, et, hm, if_neg (by decide), emit_s h5 h6 (by omega), cll_s, stf_s, stf_s, u2n (by decide), emB_54 (by decide), emB_54 (by decide), h8, h7, wr_s (by omega), wr_s (by omega), show ((t + 1 : Nat) : Int) - 1 = (t : Int) by omega, show ((o + 1 : Nat) : Int) - 1 = (o : Int) by omega]
  rfl
theorem RS.notB {b : Mm} {n : Nat} {T : Nat → Int} {p o t k : Nat} (h : RS b n T p (o + 1) (t + 1) k) : RS (notB b t k o) n T p o t (k + 1) := (h.pop 2).f32 o
theorem notB_r {b : Mm} {t k o : Nat} {j : Nat} (h : j ≠ 54) : notB b t k o j = popB b t k 2 j := u2r h
theorem notB_34 (b : Mm) (t k o : Nat) : notB b t k o 54 34 = b 54 34 := (u2n (by decide)).trans (popB_54 (by decide) (by decide))
theorem notB_fr (b : Mm) (t k o : Nat) : Fr sQ b (notB b t k o) := Fr.upd (popB_fr _ _ _ _) _ rfl
theorem notB_keep {b : Mm} {t k o k0 t0 : Nat} (h : k0 ≤ k) : Keep b (notB b t k o) t0 k0 := by
  have := popB_k (b := b) (t := t) (x := 2) h t0
  refine ⟨fun i hi => ?_, fun i hi => ?_⟩
  · rw [notB_r (by decide)]; exact this.1 i hi
  · rw [notB_r (by decide), notB_r (by decide)]; exact this.2 i hi
theorem bl_not {f : Sem} (h : bl f) : bl (sNot f) := by
  intro e v hv
  unfold sNot at hv
  cases ef : f e with
  | none => rw [ef] at hv; exact (nomatch hv)
  | some x =>
    rw [ef] at hv
    have := Option.some.inj hv
    have hx := h e x ef
    rw [wr_s (by omega)] at this
    omega
theorem bl_and {f g : Sem} (h : bl f) (h2 : bl g) : bl (sAnd f g) := by
  intro e v hv
  unfold sAnd at hv
  cases ef : f e with
  | none => rw [ef] at hv; exact (nomatch hv)
  | some x =>
    rw [ef] at hv
    have hv' : (if x = 1 then g e else some x) = some v := hv
    split at hv'
    · exact h2 e v hv'
    · have := h e x ef; have := Option.some.inj hv'; omega
theorem bl_or {f g : Sem} (h : bl f) (h2 : bl g) : bl (sOr f g) := by
  intro e v hv
  unfold sOr at hv
  cases ef : f e with
  | none => rw [ef] at hv; exact (nomatch hv)
  | some x =>
    rw [ef] at hv
    have hv' : (if x = 0 then g e else some x) = some v := hv
    split at hv'
    · exact h2 e v hv'
    · have := h e x ef; have := Option.some.inj hv'; omega
theorem ff_not {f : Sem} (h : ff f) : ff (sNot f) := fun e v => by unfold sNot; rw [h e v]
theorem ff_and {f g : Sem} (h : ff f) (h2 : ff g) : ff (sAnd f g) := fun e v => by unfold sAnd; rw [h e v, h2 e v]
theorem ff_or {f g : Sem} (h : ff f) (h2 : ff g) : ff (sOr f g) := fun e v => by unfold sOr; rw [h e v, h2 e v]
/-! the class: not, and, or -/
theorem GotA.not {a a1 a2 : Mm} {c n : Nat} {T : Nat → Int} {p o s p' s' : Nat} {g : Sem} (h : GotA a1 a2 c n T (p + 1) (o + 1) s p' s' 16 g) (ha : a1 = upd2 (upd2 a 32 4 ((o + 1 : Nat) : Int)) 32 3 ((p + 1 : Nat) : Int)) (hs : s ≤ p) : s' + 1 ≤ p' ∧ CS (upd2 a2 32 4 (o : Int)) c n T p' o s' ∧ GotA a (addA (upd2 a2 32 4 (o : Int)) c s' 2 0) c n T p o s p' (s' + 1) 16 (sNot g) := by
  obtain ⟨v1, v2, v3, v4, v5, v6, v7⟩ := h
  have hc := v1.1.1
  have l1 := v4.1
  have hcs := v1.f4 o
  subst ha
  have er : ∀ j, j ≤ 2 → (upd2 a2 32 4 (o : Int)) (c + j) = a2 (c + j) := fun j hj => by rw [u2r (by omega)]
  have er2 : ∀ j, j ≤ 2 → (upd2 (upd2 a 32 4 ((o + 1 : Nat) : Int)) 32 3 ((p + 1 : Nat) : Int)) (c + j) = a (c + j) := fun j hj => by rw [u2r (by omega), u2r (by omega)]
  have ec : (upd2 (upd2 a 32 4 ((o + 1 : Nat) : Int)) 32 3 ((p + 1 : Nat) : Int)) c = a c := er2 0 (by omega)
  have ec2 : (upd2 a2 32 4 (o : Int)) c = a2 c := er 0 (by omega)
  rw [er2 1 (by omega), er2 2 (by omega)] at v3
  rw [ec] at v5
  refine ⟨by omega, hcs, hcs.addA (by omega) 2 0, ?_, fun i hi => ?_, ?_, ?_, by omega, by omega⟩
  · exact (((Fr.upd (Fr.upd (Fr.refl _ _) _ rfl) _ rfl).trans v2).trans (Fr.upd (Fr.refl _ _) _ rfl)).trans (addA_fr _ _ _ _ _)
  · rw [addA_d, addA_w, upr_n (by omega), upr_n (by omega), er 1 (by omega), er 2 (by omega)]
    exact v3 i hi
  · refine A_not (v4.ext fun i _ hi => ?_) (by rw [addA_d, upr_s]) (by decide)
    rw [addA_d, addA_w, upr_n (by omega), upr_n (by omega), er 1 (by omega), er 2 (by omega)]
    exact ⟨rfl, rfl⟩
  · rw [addA_c, upr_n (by decide), ec2]
    intro z
    exact ⟨(v5 z).1, ff_not (v5 z).2⟩
theorem land_s {a : Mm} {c s x : Nat} (hs : a c 5 = (s : Int)) (hx : x < s) (h200 : s ≤ 200) : F_X0_landHere c (x : Int) a = some (0, upd2 a (c + 2) x (s : Int)) := by
  unfold F_X0_landHere
  rw [if_neg (by omega), if_neg (by omega), ast_s (by omega), hs, Int.toNat_natCast]
theorem land_b {a : Mm} {c x : Nat} (h200 : x < 200) (h0 : 0 ≤ a c 5) : ∃ v, F_X0_landHere c (x : Int) a = some (0, a) ∨ F_X0_landHere c (x : Int) a = some (0, upd2 a (c + 2) x v) := by
  unfold F_X0_landHere
  rw [if_neg (by omega)]
  by_cases h : a c 5 ≤ (x : Int)
  · rw [if_pos h]; exact ⟨0, Or.inl rfl⟩
  · rw [if_neg h, ast_s (by omega), Int.toNat_natCast]; exact ⟨_, Or.inr rfl⟩
theorem BadA.land {a a' : Mm} {c x : Nat} (h : BadA a a' c) (hx : x < 200) : ∃ a'', F_X0_landHere c (x : Int) a' = some (0, a'') ∧ BadA a a'' c ∧ a'' 32 5 = a' 32 5 ∧ a'' 32 3 = a' 32 3 := by
  have hc := h.1.1
  obtain ⟨v, e | e⟩ := land_b (a := a') (c := c) hx h.2.1.1
  · exact ⟨a', e, h, rfl, rfl⟩
  · obtain ⟨⟨h1, h2⟩, h3, h4, h5, h6⟩ := h
    have e32 : ∀ i, (upd2 a' (c + 2) x v) 32 i = a' 32 i := fun i => by rw [u2r (by omega)]
    refine ⟨_, e, ⟨⟨h1, by rw [e32]; exact h2⟩, by rw [u2r (by omega)]; exact h3, by rw [e32]; exact h4, by rw [e32]; exact h5, Fr.upd h6 _ (sP_c2 c _)⟩, e32 5, e32 3⟩
theorem CS.fw {a : Mm} {c n : Nat} {T : Nat → Int} {p o s : Nat} (h : CS a c n T p o s) (x : Nat) (v : Int) : CS (upd2 a (c + 2) x v) c n T p o s := by
  obtain ⟨⟨h1, h2, h3⟩, h4, h5, h6, h7, h8, h9, h10⟩ := h
  have hc := h1
  exact ⟨⟨h1, by rw [u2r (by omega)]; exact h2, by rw [u2r (by omega)]; exact h3⟩, fun i hi => by rw [u2r (by omega)]; exact h4 i hi, by rw [u2r (by omega)]; exact h5, h6, by rw [u2r (by omega)]; exact h7, by rw [u2r (by omega)]; exact h8, by rw [u2r (by omega)]; exact h9, h10⟩
theorem CS.land {a : Mm} {c n : Nat} {T : Nat → Int} {p o s x : Nat} (h : CS a c n T p o s) (hx : x < 200) : ∃ a'', F_X0_landHere c (x : Int) a = some (0, a'') ∧ CS a'' c n T p o s ∧ Fr (sP c) a a'' := by
  obtain ⟨v, e | e⟩ := land_b (a := a) (c := c) hx (by rw [h.2.2.2.2.2.2.1]; omega)
  · exact ⟨a, e, h, Fr.refl _ _⟩
  · exact ⟨_, e, h.fw x v, Fr.upd (Fr.refl _ _) _ (sP_c2 c _)⟩
/-- where the class goes on behind & or | -/
def joA (a1 : Mm) (c p1 s1 : Nat) (x : Int) : Mm := addA (upd2 a1 32 3 ((p1 + 1 : Nat) : Int)) c s1 x 0
theorem CS.jo {a1 : Mm} {c n : Nat} {T : Nat → Int} {p1 o s1 : Nat} (h : CS a1 c n T p1 o s1) (hp : p1 < n) (x : Int) : CS (joA a1 c p1 s1 x) c n T (p1 + 1) o (s1 + 1) := (h.to (by omega) (by omega)).addA (by have := h.2.2.2.2.2.2.2; omega) x 0
theorem joA_fr (a1 : Mm) (c p1 s1 : Nat) (x : Int) : Fr (sP c) a1 (joA a1 c p1 s1 x) := (Fr.upd (Fr.refl _ _) _ rfl).trans (addA_fr _ _ _ _ _)
theorem GotA.jo {a a1 a4 : Mm} {c n : Nat} {T : Nat → Int} {p o s p1 s1 p2 s2 : Nat} {g1 g2 h : Sem} {x : Int} (hG : GotA a a1 c n T p o s p1 s1 16 g1) (hp : p1 < n) (h2 : GotA (joA a1 c p1 s1 x) a4 c n T (p1 + 1) o (s1 + 1) p2 s2 16 g2)
    (hseg : ∀ d w : Nat → Int, SegA d w s s1 16 g1 → d s1 = x → w s1 = (s2 : Int) → SegA d w (s1 + 1) s2 16 g2 → SegA d w s s2 16 h) (hff : ff g1 → ff g2 → ff h) : s1 < s2 ∧ GotA a (upd2 a4 (c + 2) s1 (s2 : Int)) c n T p o s p2 s2 16 h := by
  obtain ⟨u1, u2, u3, u4, u5, u6, u7⟩ := hG
  obtain ⟨v1, v2, v3, v4, v5, v6, v7⟩ := h2
  have hc := u1.1.1
  have l1 := u4.1
  have l2 := v4.1
  have ed : joA a1 c p1 s1 x (c + 1) = upr (a1 (c + 1)) s1 x := by unfold joA; rw [addA_d, u2r (by omega)]
  have ew : joA a1 c p1 s1 x (c + 2) = upr (a1 (c + 2)) s1 0 := by unfold joA; rw [addA_w, u2r (by omega)]
  have ec : joA a1 c p1 s1 x c 7 = a1 c 7 := by unfold joA; rw [addA_c, upr_n (by decide), u2r (by omega)]
  rw [ed, ew] at v3
  rw [ec] at v5
  have d1 : (upd2 a4 (c + 2) s1 (s2 : Int)) (c + 1) = a4 (c + 1) := u2r (by omega)
  have w1 : (upd2 a4 (c + 2) s1 (s2 : Int)) (c + 2) = upr (a4 (c + 2)) s1 (s2 : Int) := by rw [u2_row]
  refine ⟨by omega, v1.fw _ _, ((u2.trans (joA_fr _ _ _ _ _)).trans v2).trans (Fr.upd (Fr.refl _ _) _ (sP_c2 c _)), fun i hi => ?_, ?_, ?_, by omega, by omega⟩
  · have := v3 i (by omega)
    rw [upr_n (by omega), upr_n (by omega)] at this
    rw [d1, w1, upr_n (by omega), this.1, this.2]
    exact u3 i hi
  · rw [d1, w1]
    refine hseg _ _ (u4.ext fun i _ hi => ?_) ?_ (upr_s _ _ _) (v4.ext fun i hi _ => ?_)
    · have := v3 i (by omega)
      rw [upr_n (by omega), upr_n (by omega)] at this
      rw [upr_n (by omega)]
      exact this
    · have := (v3 s1 (by omega)).1
      rw [upr_s] at this
      exact this
    · rw [upr_n (by omega)]; exact ⟨rfl, rfl⟩
  · rw [show (upd2 a4 (c + 2) s1 (s2 : Int)) c = a4 c from u2r (by omega)]
    intro z
    obtain ⟨z1, z2⟩ := v5 z
    obtain ⟨z3, z4⟩ := u5 z1
    exact ⟨z3, hff z4 z2⟩

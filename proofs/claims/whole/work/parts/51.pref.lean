/-! the reference's sums: what waits on the stack -/
def isTm (x : Int) : Prop := x = 42 ∨ x = 47 ∨ x = 37
def isPl (x : Int) : Prop := x = 43 ∨ x = 45
theorem isTm_op {x : Int} (h : isTm x) : isOp x := by unfold isTm at h; unfold isOp; omega
theorem isPl_op {x : Int} (h : isPl x) : isOp x := by unfold isPl at h; unfold isOp; omega
theorem tm_t {x : Int} (h : isTm x) (m : Mm) : F_X12_isTimes x m = some (1, m) := by
  unfold isTm at h; unfold F_X12_isTimes
  rcases h with e | e | e <;> subst e <;> rfl
theorem tm_f {x : Int} (h : ¬ isTm x) (m : Mm) : F_X12_isTimes x m = some (0, m) := by
  unfold isTm at h; unfold F_X12_isTimes
  rw [if_neg (by omega), if_neg (by omega), if_pos (by omega)]
theorem pl_t {x : Int} (h : isPl x) (m : Mm) : F_X12_isPlus x m = some (1, m) := by
  unfold isPl at h; unfold F_X12_isPlus
  rcases h with e | e <;> subst e <;> rfl
theorem pl_f {x : Int} (h : ¬ isPl x) (m : Mm) : F_X12_isPlus x m = some (0, m) := by
  unfold isPl at h; unfold F_X12_isPlus
  rw [if_neg (by omega), if_pos (by omega)]
def PT (b : Mm) (t k t' k' : Nat) (g : Sem) : Prop := (t' = t ∧ SegB (b 73) (b 74) k k' g) ∨ (∃ op f1 f2 k1, t' = t + 1 ∧ b 75 t = op ∧ isTm op ∧ SegB (b 73) (b 74) k k1 f1 ∧ SegB (b 73) (b 74) k1 k' f2 ∧ g = sBin op f1 f2)
def PS (b : Mm) (t k t' k' : Nat) (g : Sem) : Prop := PT b t k t' k' g ∨ (∃ op f1 g2 k1, b 75 t = op ∧ isPl op ∧ SegB (b 73) (b 74) k k1 f1 ∧ PT b (t + 1) k1 t' k' g2 ∧ g = sBin op f1 g2)
theorem PT.le {b : Mm} {t k t' k' : Nat} {g : Sem} (h : PT b t k t' k' g) : t ≤ t' ∧ k < k' := by
  rcases h with ⟨h1, h2⟩ | ⟨op, f1, f2, k1, h1, h2, h3, h4, h5, h6⟩
  · exact ⟨by omega, h2.1⟩
  · have := h4.1; have := h5.1; omega
theorem topR_keep {b b' : Mm} {t k : Nat} (h : Keep b b' t k) : topR b' t = topR b t := by
  unfold topR
  by_cases h0 : t = 0
  · rw [if_pos h0, if_pos h0]
  · rw [if_neg h0, if_neg h0, h.1 _ (by omega)]
theorem pop_seg {b : Mm} {t k k1 k2 : Nat} {f1 f2 : Sem} {op : Int} (h1 : SegB (b 73) (b 74) k k1 f1) (h2 : SegB (b 73) (b 74) k1 k2 f2) (ho : isOp op) : SegB (popB b t k2 op 73) (popB b t k2 op 74) k (k2 + 1) (sBin op f1 f2) := by
  have hk := popB_keep b t k2 op 0
  have l1 := h2.1
  exact B_bin (h1.keep hk (by omega)) (h2.keep hk (by omega)) (by rw [popB_73, upr_s]) ho
theorem sums_pop {b : Mm} {n : Nat} {T : Nat → Int} {p o t k : Nat} (hT : TxOk n T) (h : RS b n T p o (t + 1) k) (v : Int) (f : Nat) : J_X12_sums_24 (L_X12_sums_0 f) v b = L_X12_sums_0 f v (popB b t k (b 75 t)) := by
  have h' := h
  obtain ⟨⟨h1, h2⟩, h3, h4, h5, h6, h7, h8, h9⟩ := h'
  have hn := hT.1
  unfold J_X12_sums_24
  rw [top_s hT h, cll_s]
  have et : topR b (t + 1) = b 75 t := by unfold topR; rw [if_neg (by omega)]; rfl
  rw [et, emit_s h5 h6 (by omega), cll_s, stf_s, emB_54 (by decide), h8, wr_s (by omega), show ((t + 1 : Nat) : Int) - 1 = (t : Int) by omega]
  rfl
theorem sums_tm {b : Mm} {n : Nat} {T : Nat → Int} {p o t k : Nat} (hT : TxOk n T) (h : RS b n T p o (t + 1) k) (hm : isTm (b 75 t)) (v : Int) (f : Nat) : L_X12_sums_0 (f + 1) v b = L_X12_sums_0 f v (popB b t k (b 75 t)) := by
  show LB_X12_sums_0 (L_X12_sums_0 f) _ _ = _
  unfold LB_X12_sums_0
  have et : topR b (t + 1) = b 75 t := by unfold topR; rw [if_neg (by omega)]; rfl
  rw [top_s hT h, cll_s, et, tm_t hm, cll_s, if_pos (by decide), sums_pop hT h]
theorem sums_pl {b : Mm} {n : Nat} {T : Nat → Int} {p o t k : Nat} (hT : TxOk n T) (h : RS b n T p o (t + 1) k) (hm : isPl (b 75 t)) (f : Nat) : L_X12_sums_0 (f + 1) 1 b = L_X12_sums_0 f 1 (popB b t k (b 75 t)) := by
  show LB_X12_sums_0 (L_X12_sums_0 f) _ _ = _
  unfold LB_X12_sums_0
  have et : topR b (t + 1) = b 75 t := by unfold topR; rw [if_neg (by omega)]; rfl
  rw [top_s hT h, cll_s, et, tm_f (by unfold isPl at hm; unfold isTm; omega), cll_s, if_neg (by decide), if_neg (by decide), top_s hT h, cll_s, et, pl_t hm, cll_s, if_neg (by decide), sums_pop hT h]
theorem sums_end {b : Mm} {n : Nat} {T : Nat → Int} {p o t k : Nat} (hT : TxOk n T) (h : RS b n T p o t k) {v : Int} (hm : ¬ isTm (topR b t)) (hv : v = 0 ∨ ¬ isPl (topR b t)) (f : Nat) : L_X12_sums_0 (f + 1) v b = some (0, b) := by
  show LB_X12_sums_0 (L_X12_sums_0 f) _ _ = _
  unfold LB_X12_sums_0
  rw [top_s hT h, cll_s, tm_f hm, cll_s, if_neg (by decide)]
  by_cases h0 : v = 0
  · rw [if_pos h0]
  · have hp : ¬ isPl (topR b t) := by rcases hv with z | z; exact absurd z h0; exact z
    rw [if_neg h0, top_s hT h, cll_s, pl_f hp, cll_s, if_pos rfl]
/-- after the sums: all that waited is in the code -/
def Fl (b b1 : Mm) (n : Nat) (T : Nat → Int) (p o t k k1 : Nat) (g : Sem) : Prop := RS b1 n T p o t k1 ∧ SegB (b1 73) (b1 74) k k1 g ∧ Fr sQ b b1 ∧ Keep b b1 t k ∧ b1 54 35 = b 54 35
theorem flushT {b : Mm} {n : Nat} {T : Nat → Int} {p o t k t' k' : Nat} {g : Sem} (hT : TxOk n T) (h : RS b n T p o t' k') (hp : PT b t k t' k' g) (v : Int) (f : Nat) : ∃ b1 k1 f1, L_X12_sums_0 (f + 1) v b = L_X12_sums_0 f1 v b1 ∧ f ≤ f1 ∧ Fl b b1 n T p o t k k1 g := by
  rcases hp with ⟨h1, h2⟩ | ⟨op, f1, f2, k1, h1, h2, h3, h4, h5, h6⟩
  · subst h1
    exact ⟨b, k', f + 1, rfl, by omega, h, h2, Fr.refl _ _, Keep.refl _ _ _, rfl⟩
  · subst h1 h2 h6
    refine ⟨popB b t k' (b 75 t), k' + 1, f, sums_tm hT h h3 v f, Nat.le_refl _, h.pop _, pop_seg h4 h5 (isTm_op h3), popB_fr _ _ _ _, ?_, popB_54 (by decide) (by decide)⟩
    have hk := popB_keep b t k' (b 75 t) t
    have l1 := h4.1
    have l2 := h5.1
    exact ⟨hk.1, fun i hi => hk.2 i (by omega)⟩
theorem sums0_s {b : Mm} {n : Nat} {T : Nat → Int} {p o t k t' k' : Nat} {g : Sem} (hT : TxOk n T) (h : RS b n T p o t' k') (hp : PT b t k t' k' g) (ht : ¬ isTm (topR b t)) : ∃ b1 k1, F_X12_sums 0 b = some (0, b1) ∧ Fl b b1 n T p o t k k1 g := by
  obtain ⟨b1, k1, f1, e1, e2, e3⟩ := flushT hT h hp 0 99999
  refine ⟨b1, k1, ?_, e3⟩
  obtain ⟨f2, rfl⟩ : ∃ f, f1 = f + 1 := ⟨f1 - 1, by omega⟩
  unfold F_X12_sums
  rw [show (100000 : Nat) = 99999 + 1 from rfl, e1, sums_end hT e3.1 (by rw [topR_keep e3.2.2.2.1]; exact ht) (Or.inl rfl)]
theorem sums1_s {b : Mm} {n : Nat} {T : Nat → Int} {p o t k t' k' : Nat} {g : Sem} (hT : TxOk n T) (h : RS b n T p o t' k') (hp : PS b t k t' k' g) (ht : ¬ isTm (topR b t)) (ht2 : ¬ isPl (topR b t)) : ∃ b1 k1, F_X12_sums 1 b = some (0, b1) ∧ Fl b b1 n T p o t k k1 g := by
  rcases hp with hp | ⟨op, f1, g2, k1, q1, q2, q3, q4, q5⟩
  · obtain ⟨b1, k1, f1, e1, e2, e3⟩ := flushT hT h hp 1 99999
    refine ⟨b1, k1, ?_, e3⟩
    obtain ⟨f2, rfl⟩ : ∃ f, f1 = f + 1 := ⟨f1 - 1, by omega⟩
    unfold F_X12_sums
    rw [show (100000 : Nat) = 99999 + 1 from rfl, e1, sums_end hT e3.1 (by rw [topR_keep e3.2.2.2.1]; exact ht) (Or.inr (by rw [topR_keep e3.2.2.2.1]; exact ht2))]
  · obtain ⟨b1, k2, f2, e1, e2, e3, e4, e5, e6, e7⟩ := flushT hT h q4 1 99999
    have eo : b1 75 t = op := (e6.1 t (by omega)).trans q1
    obtain ⟨f3, rfl⟩ : ∃ f, f2 = f + 1 + 1 := ⟨f2 - 2, by omega⟩
    have hk := popB_keep b1 t k2 op t
    have l1 := q3.1
    have l2 := e4.1
    have hkk : Keep b (popB b1 t k2 op) t k := ⟨fun i hi => (hk.1 i hi).trans (e6.1 i (by omega)), fun i hi => ⟨(hk.2 i (by omega)).1.trans (e6.2 i (by omega)).1, (hk.2 i (by omega)).2.trans (e6.2 i (by omega)).2⟩⟩
    refine ⟨popB b1 t k2 op, k2 + 1, ?_, e3.pop _, ?_, e5.trans (popB_fr _ _ _ _), hkk, (popB_54 (by decide) (by decide)).trans e7⟩
    · unfold F_X12_sums
      rw [show (100000 : Nat) = 99999 + 1 from rfl, e1, sums_pl hT e3 (by rw [eo]; exact q2), eo, sums_end hT (e3.pop _) (by rw [topR_keep hkk]; exact ht) (Or.inr (by rw [topR_keep hkk]; exact ht2))]
    · rw [q5]
      exact pop_seg (q3.keep e6 (Nat.le_refl _)) e4 (isPl_op q2)
/-! the two places of the reference's loop: ahead of a factor, behind it -/
def Bpt (fv : Nat) (b : Mm) : Rs := J_X12_value_29 (L_X12_value_7 fv) b
def Apt (fa fv : Nat) (b : Mm) : Rs := cll (L_X12_factor_0 fa b) (fun _ m7 => J_X12_value_29 (L_X12_value_7 fv) m7)
theorem RS.f35 {b : Mm} {n : Nat} {T : Nat → Int} {p o t k : Nat} (h : RS b n T p o t k) (v : Int) : RS (upd2 b 54 35 v) n T p o t k := by
  obtain ⟨⟨h1, h2⟩, h3, h4, h5, h6, h7, h8, h9⟩ := h
  exact ⟨⟨(u2n (by decide)).trans h1, fun i hi => by rw [u2r (by decide)]; exact h2 i hi⟩, (u2n (by decide)).trans h3, h4, (u2n (by decide)).trans h5, (u2n (by decide)).trans h6, (u2n (by decide)).trans h7, (u2n (by decide)).trans h8, h9⟩
theorem PT.f35 {b : Mm} {t k t' k' : Nat} {g : Sem} (h : PT b t k t' k' g) (v : Int) : PT (upd2 b 54 35 v) t k t' k' g := by
  unfold PT; rw [u2r (by decide), u2r (by decide), u2r (by decide)]; exact h
theorem PS.f35 {b : Mm} {t k t' k' : Nat} {g : Sem} (h : PS b t k t' k' g) (v : Int) : PS (upd2 b 54 35 v) t k t' k' g := by
  unfold PS PT; rw [u2r (by decide), u2r (by decide), u2r (by decide)]; exact h
theorem topR_35 (b : Mm) (t : Nat) (v : Int) : topR (upd2 b 54 35 v) t = topR b t := by unfold topR; rw [u2r (by decide)]
theorem f35_fr (b : Mm) (v : Int) : Fr sQ b (upd2 b 54 35 v) := Fr.upd (Fr.refl _ _) _ rfl
theorem f35_keep (b : Mm) (v : Int) (t k : Nat) : Keep b (upd2 b 54 35 v) t k := ⟨fun i _ => by rw [u2r (by decide)], fun i _ => by rw [u2r (by decide), u2r (by decide)]; exact ⟨rfl, rfl⟩⟩
theorem B_bad {b : Mm} (h : b 54 29 ≠ 0) (fv : Nat) : Bpt (fv + 1) b = some (0, upd2 b 54 35 0) := by
  have h2 : (upd2 b 54 35 0) 54 29 ≠ 0 := by rw [u2n (by decide)]; exact h
  unfold Bpt J_X12_value_29 J_X12_value_52 J_X12_value_54
  rw [stf_s, good_b h2, cll_s, if_pos rfl, nmv_s]
  show LB_X12_value_7 (L_X12_value_7 fv) _ _ = _
  unfold LB_X12_value_7 J_X12_value_57
  rw [if_pos rfl, good_b h2, cll_s, if_pos rfl]
theorem L_go {b : Mm} {fv : Nat} (h : b 54 29 = 0) (h2 : b 54 35 = 0) : L_X12_value_7 (fv + 1) 1 b = Apt 100000 fv b := by
  show LB_X12_value_7 (L_X12_value_7 fv) _ _ = _
  unfold LB_X12_value_7
  rw [if_neg (by decide), good_s h, cll_s, if_neg (by decide), if_neg (fun z => z h2)]
  rfl
theorem L_beh {b : Mm} {fv : Nat} (h : b 54 29 = 0) (h2 : b 54 35 = 1) : L_X12_value_7 (fv + 1) 1 b = Bpt fv b := by
  show LB_X12_value_7 (L_X12_value_7 fv) _ _ = _
  unfold LB_X12_value_7
  rw [if_neg (by decide), good_s h, cll_s, if_neg (by decide), if_pos (by rw [h2]; decide)]
  rfl
theorem B_st {b : Mm} (h : b 54 29 = 0) (fv : Nat) : Bpt fv b = cll (F_X12_stays (upd2 b 54 35 0)) (fun r5 m6 => if r5 = 0 then (J_X12_value_52 (L_X12_value_7 fv) m6) else nmv 1 (fun x8 => (J_X12_value_54 (L_X12_value_7 fv) x8 m6))) := by
  have h2 : (upd2 b 54 35 0) 54 29 = 0 := by rw [u2n (by decide)]; exact h
  unfold Bpt J_X12_value_29
  rw [stf_s, good_s h2, cll_s, if_neg (by decide)]
theorem here_35 {b : Mm} {n : Nat} {T : Nat → Int} {p o t k : Nat} (hT : TxOk n T) (h : RS b n T p o t k) {x : Int} (hx : F_X12_here b = some (x, b)) : F_X12_here (upd2 b 54 35 0) = some (x, upd2 b 54 35 0) := by
  unfold F_X12_here at hx ⊢
  rw [u2n (by decide), u2n (by decide)]
  by_cases hc : b 54 28 ≤ b 54 27
  · rw [if_pos hc] at hx ⊢
    rw [show x = 0 from (congrArg Prod.fst (Option.some.inj hx)).symm]
  · have hb : 0 ≤ b 54 27 ∧ b 54 27 < ((220 : Nat) : Int) := by have := hT.1; have := h.1.1; have := h.2.1; omega
    rw [if_neg hc, ald_s hb] at hx ⊢
    rw [u2r (by decide), show x = _ from (congrArg Prod.fst (Option.some.inj hx)).symm]
theorem B_tm {b : Mm} {n : Nat} {T : Nat → Int} {p o t k t' k' : Nat} {g : Sem} (hT : TxOk n T) (h : RS b n T p o t' k') (hp : PT b t k t' k' g) (ht : ¬ isTm (topR b t)) (hpn : p < n) {x : Int} (hx : F_X12_here b = some (x, b)) (hm : isTm x) (fv : Nat) : ∃ b1 k1, Bpt (fv + 1) b = Apt 100000 fv b1 ∧ RS b1 n T (p + 1) o (t + 1) k1 ∧ SegB (b1 73) (b1 74) k k1 g ∧ Fr sQ b b1 ∧ Keep b b1 t k ∧ b1 75 t = x := by
  obtain ⟨b1, k1, e1, e2, e3, e4, e5, e6⟩ := sums0_s hT (h.f35 0) (hp.f35 0) (by rw [topR_35]; exact ht)
  refine ⟨puB b1 p t x, k1, ?_, e2.pu hpn x, ?_, ((f35_fr b 0).trans e4).trans (puB_fr _ _ _ _), ?_, ?_⟩
  · rw [B_st h.2.2.2.1]
    unfold F_X12_stays J_X12_stays_19
    rw [here_35 hT h hx, cll_s, nmv_s, tm_t hm, cll_s, if_pos (by decide), pl_f (by unfold isTm at hm; unfold isPl; omega), cll_s, e1, cll_s, puts_s hT e2, cll_s, cll_s, if_neg (by decide), nmv_s]
    unfold J_X12_value_54
    exact L_go ((puB_54 (by decide) (by decide)).trans e2.2.2.2.1) ((puB_54 (by decide) (by decide)).trans (e6.trans (u2s _ _ _ _)))
  · rw [puB_r (by decide) (by decide), puB_r (by decide) (by decide)]; exact e3
  · exact ((f35_keep b 0 t k).trans e5 (Nat.le_refl _) (Nat.le_refl _)).trans (puB_keep b1 p t x k) (Nat.le_refl _) (Nat.le_refl _)
  · rw [puB_75, upr_s]
theorem B_pl {b : Mm} {n : Nat} {T : Nat → Int} {p o t k t' k' : Nat} {g : Sem} (hT : TxOk n T) (h : RS b n T p o t' k') (hp : PS b t k t' k' g) (ht : ¬ isTm (topR b t)) (ht2 : ¬ isPl (topR b t)) (hpn : p < n) {x : Int} (hx : F_X12_here b = some (x, b)) (hm : isPl x) (fv : Nat) : ∃ b1 k1, Bpt (fv + 1) b = Apt 100000 fv b1 ∧ RS b1 n T (p + 1) o (t + 1) k1 ∧ SegB (b1 73) (b1 74) k k1 g ∧ Fr sQ b b1 ∧ Keep b b1 t k ∧ b1 75 t = x := by
  obtain ⟨b1, k1, e1, e2, e3, e4, e5, e6⟩ := sums1_s hT (h.f35 0) (hp.f35 0) (by rw [topR_35]; exact ht) (by rw [topR_35]; exact ht2)
  refine ⟨puB b1 p t x, k1, ?_, e2.pu hpn x, ?_, ((f35_fr b 0).trans e4).trans (puB_fr _ _ _ _), ?_, ?_⟩
  · rw [B_st h.2.2.2.1]
    unfold F_X12_stays J_X12_stays_19
    rw [here_35 hT h hx, cll_s, nmv_s, tm_f (by unfold isPl at hm; unfold isTm; omega), cll_s, if_neg (by decide), pl_t hm, cll_s, if_neg (by decide), pl_t hm, cll_s, e1, cll_s, puts_s hT e2, cll_s, cll_s, if_neg (by decide), nmv_s]
    unfold J_X12_value_54
    exact L_go ((puB_54 (by decide) (by decide)).trans e2.2.2.2.1) ((puB_54 (by decide) (by decide)).trans (e6.trans (u2s _ _ _ _)))
  · rw [puB_r (by decide) (by decide), puB_r (by decide) (by decide)]; exact e3
  · exact ((f35_keep b 0 t k).trans e5 (Nat.le_refl _) (Nat.le_refl _)).trans (puB_keep b1 p t x k) (Nat.le_refl _) (Nat.le_refl _)
  · rw [puB_75, upr_s]
/-- a sum's end, behind which no bracket closes -/
theorem B_end {b : Mm} {n : Nat} {T : Nat → Int} {p o t k t' k' : Nat} {g : Sem} (hT : TxOk n T) (h : RS b n T p o t' k') (hp : PS b t k t' k' g) (ht : ¬ isTm (topR b t)) (ht2 : ¬ isPl (topR b t)) {x : Int} (hx : F_X12_here b = some (x, b)) (hm : ¬ isTm x) (hm2 : ¬ isPl x) (h93 : x ≠ 93) (fv : Nat) : ∃ b1 k1, Bpt (fv + 1) b = (if topR b t = 91 then some (0, upd2 b1 54 29 (-1000 - p)) else some (0, b1)) ∧ RS b1 n T p o t k1 ∧ SegB (b1 73) (b1 74) k k1 g ∧ Fr sQ b b1 ∧ Keep b b1 t k := by
  obtain ⟨b1, k1, e1, e2, e3, e4, e5, e6⟩ := sums1_s hT (h.f35 0) (hp.f35 0) (by rw [topR_35]; exact ht) (by rw [topR_35]; exact ht2)
  refine ⟨b1, k1, ?_, e2, e3, (f35_fr b 0).trans e4, (f35_keep b 0 t k).trans e5 (Nat.le_refl _) (Nat.le_refl _)⟩
  have et : topR b1 t = topR b t := by rw [topR_keep e5, topR_35]
  rw [B_st h.2.2.2.1]
  unfold F_X12_stays
  rw [here_35 hT h hx, cll_s, nmv_s, tm_f hm, cll_s, if_neg (by decide), pl_f hm2, cll_s, if_pos rfl, e1, cll_s, if_neg h93, cll_s, if_pos rfl]
  unfold J_X12_value_52 J_X12_value_54
  rw [nmv_s]
  show LB_X12_value_7 (L_X12_value_7 fv) _ _ = _
  unfold LB_X12_value_7 J_X12_value_57
  rw [if_pos rfl, good_s e2.2.2.2.1, cll_s, if_neg (by decide), top_s hT e2, cll_s, et, e2.2.1]
  by_cases h91 : topR b t = 91
  · rw [if_neg (fun z => z h91), if_pos h91, wrongs_s e2.2.2.2.1 1 p (by decide) (by have := hT.1; have := h.2.2.1; omega), cll_s]
    rfl
  · rw [if_pos h91, if_neg h91]
/-- a bracket closes -/
theorem B_cl {b : Mm} {n : Nat} {T : Nat → Int} {p o t k t' k' : Nat} {g : Sem} (hT : TxOk n T) (h : RS b n T p (o + 1) t' k') (hp : PS b (t + 1) k t' k' g) (ht : b 75 t = 91) (hpn : p < n) (hx : F_X12_here b = some (93, b)) (ho : o < 200) (fv : Nat) : ∃ b1 k1, Bpt (fv + 1) b = Bpt fv b1 ∧ RS b1 n T (p + 1) o t k1 ∧ SegB (b1 73) (b1 74) k k1 g ∧ Fr sQ b b1 ∧ Keep b b1 t k := by
  have et0 : topR b (t + 1) = 91 := by unfold topR; rw [if_neg (by omega)]; exact ht
  obtain ⟨b1, k1, e1, e2, e3, e4, e5, e6⟩ := sums1_s hT (h.f35 0) (hp.f35 0) (by rw [topR_35, et0]; unfold isTm; omega) (by rw [topR_35, et0]; unfold isPl; omega)
  have et : topR b1 (t + 1) = 91 := by rw [topR_keep e5, topR_35]; exact et0
  have hn := hT.1
  obtain ⟨⟨h1, h2⟩, h3, h4, h5, h6, h7, h8, h9⟩ := e2
  have hrs : RS (upd2 (upd2 (upd2 (upd2 b1 54 33 (t : Int)) 54 32 (o : Int)) 54 27 ((p + 1 : Nat) : Int)) 54 35 1) n T (p + 1) o t k1 := by
    refine ⟨⟨?_, fun i hi => ?_⟩, ?_, by omega, ?_, ?_, ?_, ?_, by omega⟩
    · rw [u2n (by decide), u2n (by decide), u2n (by decide), u2n (by decide)]; exact h1
    · rw [u2r (by decide), u2r (by decide), u2r (by decide), u2r (by decide)]; exact h2 i hi
    · rw [u2n (by decide), u2s]
    · rw [u2n (by decide), u2n (by decide), u2n (by decide), u2n (by decide)]; exact h5
    · rw [u2n (by decide), u2n (by decide), u2n (by decide), u2n (by decide)]; exact h6
    · rw [u2n (by decide), u2n (by decide), u2s]
    · rw [u2n (by decide), u2n (by decide), u2n (by decide), u2s]
  refine ⟨_, k1, ?_, hrs, ?_, Fr.upd (Fr.upd (Fr.upd (Fr.upd ((f35_fr b 0).trans e4) _ rfl) _ rfl) _ rfl) _ rfl, ?_⟩
  · rw [B_st h.2.2.2.1]
    unfold F_X12_stays
    rw [here_35 hT h hx, cll_s, nmv_s, tm_f (by unfold isTm; omega), cll_s, if_neg (by decide), pl_f (by unfold isPl; omega), cll_s, if_pos rfl, e1, cll_s, if_pos rfl, top_s hT ⟨⟨h1, h2⟩, h3, h4, h5, h6, h7, h8, h9⟩, cll_s, et, if_pos rfl, stf_s, stf_s, stf_s, stf_s, cll_s, if_neg (by decide), nmv_s]
    unfold J_X12_value_54
    rw [u2n (show 32 ≠ 33 by decide), u2n (show 27 ≠ 32 by decide), u2n (show 27 ≠ 33 by decide), h8, h7, h3, wr_s (by omega), wr_s (by omega), wr_s (by omega), show ((t + 1 : Nat) : Int) - 1 = (t : Int) by omega, show ((o + 1 : Nat) : Int) - 1 = (o : Int) by omega]
    exact L_beh hrs.2.2.2.1 (u2s _ _ _ _)
  · rw [u2r (by decide), u2r (by decide), u2r (by decide), u2r (by decide), u2r (by decide), u2r (by decide), u2r (by decide), u2r (by decide)]; exact e3
  · refine ⟨fun i hi => ?_, fun i hi => ?_⟩
    · rw [u2r (by decide), u2r (by decide), u2r (by decide), u2r (by decide), e5.1 i (by omega), u2r (by decide)]
    · rw [u2r (by decide), u2r (by decide), u2r (by decide), u2r (by decide), u2r (by decide), u2r (by decide), u2r (by decide), u2r (by decide), (e5.2 i hi).1, (e5.2 i hi).2, u2r (by decide), u2r (by decide)]
      exact ⟨rfl, rfl⟩
/-- a bracket closes that was not opened -/
theorem B_wr {b : Mm} {n : Nat} {T : Nat → Int} {p o t k t' k' : Nat} {g : Sem} (hT : TxOk n T) (h : RS b n T p o t' k') (hp : PS b t k t' k' g) (ht : ¬ isTm (topR b t)) (ht2 : ¬ isPl (topR b t)) (ht3 : topR b t ≠ 91) (hx : F_X12_here b = some (93, b)) (fv : Nat) : ∃ b1, Bpt (fv + 1) b = some (0, b1) ∧ b1 54 29 = -1000 - p ∧ Fr sQ b b1 := by
  obtain ⟨b1, k1, e1, e2, e3, e4, e5, e6⟩ := sums1_s hT (h.f35 0) (hp.f35 0) (by rw [topR_35]; exact ht) (by rw [topR_35]; exact ht2)
  have et : topR b1 t = topR b t := by rw [topR_keep e5, topR_35]
  have hn := hT.1
  refine ⟨upd2 b1 54 29 (-1000 * 1 - p), ?_, by rw [u2s]; omega, Fr.upd ((f35_fr b 0).trans e4) _ rfl⟩
  have hb : (upd2 b1 54 29 (-1000 * 1 - (p : Int))) 54 29 ≠ 0 := by rw [u2s]; omega
  rw [B_st h.2.2.2.1]
  unfold F_X12_stays
  rw [here_35 hT h hx, cll_s, nmv_s, tm_f (by unfold isTm; omega), cll_s, if_neg (by decide), pl_f (by unfold isPl; omega), cll_s, if_pos rfl, e1, cll_s, if_pos rfl, top_s hT e2, cll_s, et, if_neg ht3, e2.2.1, wrongs_s e2.2.2.2.1 1 p (by decide) (by have := h.2.2.1; omega), cll_s, cll_s, if_pos rfl]
  unfold J_X12_value_52 J_X12_value_54
  rw [nmv_s]
  show LB_X12_value_7 (L_X12_value_7 fv) _ _ = _
  unfold LB_X12_value_7 J_X12_value_57
  rw [if_pos rfl, good_b hb, cll_s, if_pos rfl]

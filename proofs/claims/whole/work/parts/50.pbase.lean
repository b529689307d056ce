/-! reading a text: states of both readers -/
def TxOk (n : Nat) (T : Nat → Int) : Prop := n ≤ 200 ∧ ∀ i, i < n → 0 ≤ T i ∧ T i ≤ 255
def CS (a : Mm) (c n : Nat) (T : Nat → Int) (p o s : Nat) : Prop :=
  (isCd c ∧ a 32 1 = (c : Int) ∧ a 32 2 = (n : Int)) ∧ (∀ i, i < n → a 33 i = T i) ∧ a 32 3 = (p : Int) ∧ p ≤ n ∧ a 32 4 = (o : Int) ∧ a 32 5 = 0 ∧ a c 5 = (s : Int) ∧ s ≤ p
def RS (b : Mm) (n : Nat) (T : Nat → Int) (p o t k : Nat) : Prop :=
  (b 54 28 = (n : Int) ∧ ∀ i, i < n → iand (b 55 i) 255 = T i) ∧ b 54 27 = (p : Int) ∧ p ≤ n ∧ b 54 29 = 0 ∧ b 54 31 = (k : Int) ∧ b 54 32 = (o : Int) ∧ b 54 33 = (t : Int) ∧ k + t ≤ p
/-- the class's and the reference's next sign -/
def Nx (n : Nat) (T : Nat → Int) (p : Nat) (x y : Int) : Prop := (p < n ∧ x = T p ∧ y = T p ∧ 0 ≤ x ∧ x ≤ 255) ∨ (p = n ∧ x = -1 ∧ y = 0)
theorem next_s {a : Mm} {c n : Nat} {T : Nat → Int} {p o s : Nat} (hT : TxOk n T) (h : CS a c n T p o s) {b : Mm} {o' t k : Nat} (hb : RS b n T p o' t k) : ∃ x y, F_X2_next a = some (x, a) ∧ F_X12_here b = some (y, b) ∧ Nx n T p x y := by
  obtain ⟨⟨h1, h2, h3⟩, h4, h5, h6, _⟩ := h
  obtain ⟨⟨g1, g2⟩, g3, g4, _⟩ := hb
  have hn := hT.1
  unfold F_X2_next F_X12_here
  rw [h5, h3, g1, g3, if_neg (by omega)]
  by_cases hp : p < n
  · rw [if_neg (by omega), if_neg (by omega), ald_s (by omega), ald_s (by omega), Int.toNat_natCast, h4 p hp, g2 p hp]
    exact ⟨_, _, rfl, rfl, Or.inl ⟨hp, rfl, rfl, (hT.2 p hp).1, (hT.2 p hp).2⟩⟩
  · rw [if_pos (by omega), if_pos (by omega)]
    exact ⟨_, _, rfl, rfl, Or.inr ⟨by omega, rfl, rfl⟩⟩
def sP (c k i : Nat) : Bool := (k == 32 && (i == 3 || i == 4 || i == 5)) || (k == c && (i == 5 || i == 7)) || k == c + 1 || k == c + 2
def sQ (k i : Nat) : Bool := (k == 54 && (i == 27 || i == 29 || i == 31 || i == 32 || i == 33 || i == 35)) || k == 73 || k == 74 || k == 75
theorem sP_32 (c : Nat) : sP c 32 3 = true ∧ sP c 32 4 = true ∧ sP c 32 5 = true := ⟨rfl, rfl, rfl⟩
theorem sP_c5 (c : Nat) : sP c c 5 = true := by unfold sP; simp
theorem sP_c7 (c : Nat) : sP c c 7 = true := by unfold sP; simp
theorem sP_c1 (c i : Nat) : sP c (c + 1) i = true := by unfold sP; simp
theorem sP_c2 (c i : Nat) : sP c (c + 2) i = true := by unfold sP; simp
def Keep (b b' : Mm) (t k : Nat) : Prop := (∀ i, i < t → b' 75 i = b 75 i) ∧ ∀ i, i < k → b' 73 i = b 73 i ∧ b' 74 i = b 74 i
theorem Keep.refl (b : Mm) (t k : Nat) : Keep b b t k := ⟨fun _ _ => rfl, fun _ _ => ⟨rfl, rfl⟩⟩
theorem Keep.trans {b b1 b2 : Mm} {t k t' k' : Nat} (h : Keep b b1 t k) (h2 : Keep b1 b2 t' k') (ht : t ≤ t') (hk : k ≤ k') : Keep b b2 t k :=
  ⟨fun i hi => (h2.1 i (by omega)).trans (h.1 i hi), fun i hi => ⟨(h2.2 i (by omega)).1.trans (h.2 i hi).1, (h2.2 i (by omega)).2.trans (h.2 i hi).2⟩⟩
theorem SegB.keep {b b' : Mm} {t k p q : Nat} {f : Sem} (h : SegB (b 73) (b 74) p q f) (hk : Keep b b' t k) (hq : q ≤ k) : SegB (b' 73) (b' 74) p q f := h.ext fun i _ hi => hk.2 i (by omega)
def BadA (a a' : Mm) (c : Nat) : Prop := (isCd c ∧ a' 32 1 = (c : Int)) ∧ (0 ≤ a' c 5 ∧ a' c 5 ≤ 200) ∧ (1 ≤ a' 32 5 ∧ a' 32 5 ≤ 5) ∧ (0 ≤ a' 32 3 ∧ a' 32 3 ≤ 200) ∧ Fr (sP c) a a'
def BadB (a' b b' : Mm) : Prop := b' 54 29 = -1000 * a' 32 5 - a' 32 3 ∧ Fr sQ b b'
def GotA (a a' : Mm) (c n : Nat) (T : Nat → Int) (p o s p' s' kk : Nat) (g : Sem) : Prop :=
  CS a' c n T p' o s' ∧ Fr (sP c) a a' ∧ (∀ i, i < s → a' (c + 1) i = a (c + 1) i ∧ a' (c + 2) i = a (c + 2) i) ∧ SegA (a' (c + 1)) (a' (c + 2)) s s' kk g ∧ (a' c 7 = 0 → a c 7 = 0 ∧ ff g) ∧ p < p' ∧ s' + p ≤ s + p'
/-! the class: fail, add -/
theorem fail_s {a : Mm} {c n : Nat} {T : Nat → Int} {p o s : Nat} (hT : TxOk n T) (h : CS a c n T p o s) {x : Int} (hx : 1 ≤ x ∧ x ≤ 5) : F_X2_fail x a = some (0, upd2 a 32 5 x) ∧ BadA a (upd2 a 32 5 x) c ∧ (upd2 a 32 5 x) 32 5 = x ∧ (upd2 a 32 5 x) 32 3 = (p : Int) := by
  obtain ⟨⟨h1, h2, h3⟩, h4, h5, h6, h7, h8, h9, h10⟩ := h
  have hn := hT.1
  have hc : c ≠ 32 := by rcases h1 with e | e <;> omega
  have e3 : (upd2 a 32 5 x) 32 3 = (p : Int) := by rw [u2n (by decide)]; exact h5
  refine ⟨?_, ⟨⟨h1, by rw [u2n (by decide)]; exact h2⟩, by rw [u2r hc, h9]; omega, by rw [u2s]; exact hx, by rw [e3]; omega, Fr.upd (Fr.refl _ _) _ (sP_32 c).2.2⟩, u2s _ _ _ _, e3⟩
  unfold F_X2_fail
  rw [if_neg (fun z => z h8), stf_s]
theorem fail_b {a : Mm} (h : a 32 5 ≠ 0) (x : Int) : F_X2_fail x a = some (0, a) := by
  unfold F_X2_fail
  rw [if_pos h]
theorem BadA.ne {a a' : Mm} {c : Nat} (h : BadA a a' c) : a' 32 5 ≠ 0 := by have := h.2.2.1; omega
theorem add_b {a a' : Mm} {c : Nat} (h : BadA a a' c) (x y : Int) : ∃ r a'', F_X0_add c x y a' = some (r, a'') ∧ BadA a a'' c ∧ a'' 32 5 = a' 32 5 ∧ a'' 32 3 = a' 32 3 := by
  obtain ⟨⟨h1, h2⟩, h3, h4, h5, h6⟩ := h
  have hc := h1
  unfold F_X0_add
  by_cases h200 : 200 ≤ a' c 5
  · rw [if_pos h200]
    exact ⟨_, a', rfl, ⟨⟨h1, h2⟩, h3, h4, h5, h6⟩, rfl, rfl⟩
  · rw [if_neg h200, ast_s (by omega), u2r (by omega), ast_s (by omega), stf_s, u2r (show c ≠ c + 2 by omega), u2r (show c ≠ c + 1 by omega), wr_s (x := a' c 5 + 1) (by omega)]
    have e1 : ∀ v w z i, (upd2 (upd2 (upd2 a' (c + 1) (a' c 5).toNat v) (c + 2) (a' c 5).toNat w) c 5 z) 32 i = a' 32 i := by
      intro v w z i
      rw [u2r (by omega), u2r (by omega), u2r (by omega)]
    refine ⟨_, _, rfl, ⟨⟨h1, (e1 _ _ _ _).trans h2⟩, by rw [u2s]; omega, by rw [e1]; exact h4, by rw [e1]; exact h5, ?_⟩, e1 _ _ _ _, e1 _ _ _ _⟩
    exact Fr.upd (Fr.upd (Fr.upd h6 _ (sP_c1 c _)) _ (sP_c2 c _)) _ (sP_c5 c)
def addA (a : Mm) (c s : Nat) (x y : Int) : Mm := upd2 (upd2 (upd2 a (c + 1) s x) (c + 2) s y) c 5 ((s + 1 : Nat) : Int)
theorem cadd_s {a : Mm} {c s : Nat} (hs : a c 5 = (s : Int)) (h200 : s < 200) (x y : Int) : F_X0_add c x y a = some ((s : Int), addA a c s x y) := by
  unfold F_X0_add addA
  rw [if_neg (by omega), ast_s (by omega), u2r (by omega), ast_s (by omega), stf_s, u2r (show c ≠ c + 2 by omega), u2r (show c ≠ c + 1 by omega), u2s, hs, Int.toNat_natCast, wr_s (x := (s : Int) + 1) (by omega), wr_s (by omega)]
  rw [show (s : Int) + 1 - 1 = (s : Int) by omega]
  rfl
theorem addA_32 {a : Mm} {c s : Nat} (hc : isCd c) (x y : Int) {k : Nat} (hk : ¬ (20 ≤ k ∧ k ≤ 28)) : addA a c s x y k = a k := by
  unfold addA
  rw [u2r (by omega), u2r (by omega), u2r (by omega)]
theorem addA_fr (a : Mm) (c s : Nat) (x y : Int) : Fr (sP c) a (addA a c s x y) := Fr.upd (Fr.upd (Fr.upd (Fr.refl _ _) _ (sP_c1 c _)) _ (sP_c2 c _)) _ (sP_c5 c)
theorem addA_d (a : Mm) (c s : Nat) (x y : Int) : addA a c s x y (c + 1) = upr (a (c + 1)) s x := by
  unfold addA
  rw [u2r (by omega), u2r (by omega), u2_row]
theorem addA_w (a : Mm) (c s : Nat) (x y : Int) : addA a c s x y (c + 2) = upr (a (c + 2)) s y := by
  unfold addA
  rw [u2r (by omega), u2_row, u2r (by omega)]
theorem addA_c (a : Mm) (c s : Nat) (x y : Int) : addA a c s x y c = upr (a c) 5 ((s + 1 : Nat) : Int) := by
  unfold addA
  rw [u2_row, u2r (by omega), u2r (by omega)]
theorem CS.addA {a : Mm} {c n : Nat} {T : Nat → Int} {p o s : Nat} (h : CS a c n T p o s) (hs : s + 1 ≤ p) (x y : Int) : CS (addA a c s x y) c n T p o (s + 1) := by
  obtain ⟨⟨h1, h2, h3⟩, h4, h5, h6, h7, h8, h9, h10⟩ := h
  unfold CS
  rw [addA_32 h1 x y (k := 32) (by omega), addA_32 h1 x y (k := 33) (by omega), addA_c, upr_s]
  exact ⟨⟨h1, h2, h3⟩, h4, h5, h6, h7, h8, rfl, hs⟩
/-- the class's reader goes on by a sign -/
theorem CS.step {a : Mm} {c n : Nat} {T : Nat → Int} {p o s : Nat} (h : CS a c n T p o s) (hp : p < n) : CS (upd2 a 32 3 ((p + 1 : Nat) : Int)) c n T (p + 1) o s := by
  obtain ⟨⟨h1, h2, h3⟩, h4, h5, h6, h7, h8, h9, h10⟩ := h
  have hc := h1
  exact ⟨⟨h1, (u2n (by decide)).trans h2, (u2n (by decide)).trans h3⟩, fun i hi => by rw [u2r (by decide)]; exact h4 i hi, u2s _ _ _ _, by omega, (u2n (by decide)).trans h7, (u2n (by decide)).trans h8, by rw [u2r (by omega)]; exact h9, by omega⟩
/-! the reference: top, emit, puts, wrongs, sums -/
def topR (b : Mm) (t : Nat) : Int := if t = 0 then 0 else b 75 (t - 1)
theorem top_s {b : Mm} {n : Nat} {T : Nat → Int} {p o t k : Nat} (hT : TxOk n T) (h : RS b n T p o t k) : F_X12_top b = some (topR b t, b) := by
  obtain ⟨_, _, h3, _, _, _, h7, h8⟩ := h
  have hn := hT.1
  unfold F_X12_top topR
  by_cases h0 : t = 0
  · rw [if_pos (by omega), if_pos h0]
  · rw [if_neg (by omega), if_neg h0, wr_s (by omega), ald_s (by omega), show (b 54 33 - 1).toNat = t - 1 by omega]
theorem good_s {b : Mm} (h : b 54 29 = 0) : F_X12_isGood b = some (1, b) := by
  unfold F_X12_isGood
  rw [if_neg (fun z => z h)]
theorem good_b {b : Mm} (h : b 54 29 ≠ 0) : F_X12_isGood b = some (0, b) := by
  unfold F_X12_isGood
  rw [if_pos h]
theorem wrongs_s {b : Mm} (h : b 54 29 = 0) (f : Int) (q : Nat) (hf : 1 ≤ f ∧ f ≤ 5) (hq : q ≤ 200) : F_X12_wrongs f (q : Int) b = some (0, upd2 b 54 29 (-1000 * f - q)) := by
  unfold F_X12_wrongs
  rw [if_pos (by omega), stf_s, wr_s (x := -1000 * f) (by omega), wr_s (by omega)]
def emB (b : Mm) (k : Nat) (x y : Int) : Mm := upd2 (upd2 (upd2 b 73 k x) 74 k y) 54 31 ((k + 1 : Nat) : Int)
theorem emit_s {b : Mm} {k : Nat} (h : b 54 29 = 0) (hk : b 54 31 = (k : Int)) (h200 : k < 200) (x y : Int) : F_X12_emit x y b = some (0, emB b k x y) := by
  unfold F_X12_emit emB
  rw [good_s h, cll_s, if_pos (by decide), ast_s (by omega), u2r (by decide), ast_s (by omega), stf_s, u2r (show 54 ≠ 74 by decide), u2r (show 54 ≠ 73 by decide), hk, Int.toNat_natCast, wr_s (by omega)]
  rfl
theorem emit_b {b : Mm} (h : b 54 29 ≠ 0) (x y : Int) : F_X12_emit x y b = some (0, b) := by
  unfold F_X12_emit
  rw [good_b h, cll_s, if_neg (by decide)]
theorem emB_54 {b : Mm} {k : Nat} {x y : Int} {i : Nat} (hi : i ≠ 31) : emB b k x y 54 i = b 54 i := by
  unfold emB
  rw [u2n hi, u2r (by decide), u2r (by decide)]
theorem emB_31 (b : Mm) (k : Nat) (x y : Int) : emB b k x y 54 31 = ((k + 1 : Nat) : Int) := u2s _ _ _ _
theorem emB_r {b : Mm} {k : Nat} {x y : Int} {j : Nat} (h1 : j ≠ 54) (h2 : j ≠ 73) (h3 : j ≠ 74) : emB b k x y j = b j := by
  unfold emB
  rw [u2r h1, u2r h3, u2r h2]
theorem emB_73 (b : Mm) (k : Nat) (x y : Int) : emB b k x y 73 = upr (b 73) k x := by
  unfold emB
  rw [u2r (by decide), u2r (by decide), u2_row]
theorem emB_74 (b : Mm) (k : Nat) (x y : Int) : emB b k x y 74 = upr (b 74) k y := by
  unfold emB
  rw [u2r (by decide), u2_row, u2r (by decide)]
theorem emB_fr (b : Mm) (k : Nat) (x y : Int) : Fr sQ b (emB b k x y) := Fr.upd (Fr.upd (Fr.upd (Fr.refl _ _) _ rfl) _ rfl) _ rfl
theorem emB_keep (b : Mm) (t k : Nat) (x y : Int) : Keep b (emB b k x y) t k := by
  refine ⟨fun i _ => by rw [emB_r (by decide) (by decide) (by decide)], fun i hi => ?_⟩
  rw [emB_73, emB_74, upr_n (by omega), upr_n (by omega)]
  exact ⟨rfl, rfl⟩
/-- pop: the sign on top goes into the code -/
def popB (b : Mm) (t k : Nat) (x : Int) : Mm := upd2 (emB b k x 0) 54 33 (t : Int)
theorem popB_fr (b : Mm) (t k : Nat) (x : Int) : Fr sQ b (popB b t k x) := Fr.upd (emB_fr _ _ _ _) _ rfl
theorem popB_keep (b : Mm) (t k : Nat) (x : Int) (t' : Nat) : Keep b (popB b t k x) t' k := by
  have h := emB_keep b t' k x 0
  refine ⟨fun i hi => ?_, fun i hi => ?_⟩
  · unfold popB; rw [u2r (by decide)]; exact h.1 i hi
  · unfold popB; rw [u2r (by decide), u2r (by decide)]; exact h.2 i hi
theorem popB_73 (b : Mm) (t k : Nat) (x : Int) : popB b t k x 73 = upr (b 73) k x := by
  unfold popB; rw [u2r (by decide), emB_73]
theorem popB_74 (b : Mm) (t k : Nat) (x : Int) : popB b t k x 74 = upr (b 74) k 0 := by
  unfold popB; rw [u2r (by decide), emB_74]
theorem popB_54 {b : Mm} {t k : Nat} {x : Int} {i : Nat} (h1 : i ≠ 31) (h2 : i ≠ 33) : popB b t k x 54 i = b 54 i := by
  unfold popB; rw [u2n h2, emB_54 h1]
theorem RS.pop {b : Mm} {n : Nat} {T : Nat → Int} {p o t k : Nat} (h : RS b n T p o (t + 1) k) (x : Int) : RS (popB b t k x) n T p o t (k + 1) := by
  obtain ⟨⟨h1, h2⟩, h3, h4, h5, h6, h7, h8, h9⟩ := h
  refine ⟨⟨(popB_54 (by decide) (by decide)).trans h1, fun i hi => ?_⟩, (popB_54 (by decide) (by decide)).trans h3, h4, (popB_54 (by decide) (by decide)).trans h5, ?_, (popB_54 (by decide) (by decide)).trans h7, u2s _ _ _ _, by omega⟩
  · unfold popB
    rw [u2r (by decide), emB_r (by decide) (by decide) (by decide)]
    exact h2 i hi
  · unfold popB
    rw [u2n (by decide), emB_31]
/-- push a sign that was read -/
def puB (b : Mm) (p t : Nat) (x : Int) : Mm := upd2 (upd2 (upd2 b 75 t x) 54 33 ((t + 1 : Nat) : Int)) 54 27 ((p + 1 : Nat) : Int)
theorem puts_s {b : Mm} {n : Nat} {T : Nat → Int} {p o t k : Nat} (hT : TxOk n T) (h : RS b n T p o t k) (x : Int) : F_X12_puts x b = some (0, puB b p t x) := by
  obtain ⟨⟨h1, h2⟩, h3, h4, h5, h6, h7, h8, h9⟩ := h
  have hn := hT.1
  unfold F_X12_puts puB
  rw [ast_s (by omega), stf_s, stf_s, u2r (by decide), u2n (by decide), u2r (by decide), h8, h3, Int.toNat_natCast, wr_s (by omega), wr_s (by omega)]
  rfl
theorem puB_54 {b : Mm} {p t : Nat} {x : Int} {i : Nat} (h1 : i ≠ 27) (h2 : i ≠ 33) : puB b p t x 54 i = b 54 i := by
  unfold puB; rw [u2n h1, u2n h2, u2r (by decide)]
theorem RS.pu {b : Mm} {n : Nat} {T : Nat → Int} {p o t k : Nat} (h : RS b n T p o t k) (hp : p < n) (x : Int) : RS (puB b p t x) n T (p + 1) o (t + 1) k := by
  obtain ⟨⟨h1, h2⟩, h3, h4, h5, h6, h7, h8, h9⟩ := h
  refine ⟨⟨(puB_54 (by decide) (by decide)).trans h1, fun i hi => ?_⟩, u2s _ _ _ _, by omega, (puB_54 (by decide) (by decide)).trans h5, (puB_54 (by decide) (by decide)).trans h6, (puB_54 (by decide) (by decide)).trans h7, ?_, by omega⟩
  · unfold puB
    rw [u2r (by decide), u2r (by decide), u2r (by decide)]
    exact h2 i hi
  · unfold puB
    rw [u2n (by decide), u2s]
theorem puB_fr (b : Mm) (p t : Nat) (x : Int) : Fr sQ b (puB b p t x) := Fr.upd (Fr.upd (Fr.upd (Fr.refl _ _) _ rfl) _ rfl) _ rfl
theorem puB_75 (b : Mm) (p t : Nat) (x : Int) : puB b p t x 75 = upr (b 75) t x := by
  unfold puB; rw [u2r (by decide), u2r (by decide), u2_row]
theorem puB_r {b : Mm} {p t : Nat} {x : Int} {j : Nat} (h1 : j ≠ 54) (h2 : j ≠ 75) : puB b p t x j = b j := by
  unfold puB; rw [u2r h1, u2r h1, u2r h2]
theorem puB_keep (b : Mm) (p t : Nat) (x : Int) (k : Nat) : Keep b (puB b p t x) t k := by
  refine ⟨fun i hi => by rw [puB_75, upr_n (by omega)], fun i hi => ?_⟩
  rw [puB_r (by decide) (by decide), puB_r (by decide) (by decide)]
  exact ⟨rfl, rfl⟩
theorem puB_top (b : Mm) (p t : Nat) (x : Int) : topR (puB b p t x) (t + 1) = x := by
  unfold topR
  rw [if_neg (by omega), puB_75, show t + 1 - 1 = t by omega, upr_s]

/-! say, draw -/
def IvS (n : Int) (s x : Int) (wh br : Nat → Int) (s' x' : Int) (wh' br' : Nat → Int) : Prop := (s' = s ∧ x' = x ∧ 0 ≤ s ∧ s ≤ 150 ∧ 0 ≤ x ∧ x ≤ 65535) ∧ ∀ i : Nat, (i : Int) < s → (wh' i = wh i ∧ br' i = br i) ∧ (0 ≤ wh i ∧ wh i < n) ∧ 0 ≤ br i ∧ br i ≤ 9999
def InvS (a b : Mm) : Prop := IvS (a 1 5) (a 9 4) (a 9 5) (a 10) (a 11) (b 54 5) (b 54 6) (b 61) (b 62)
theorem IvS.push {n s x s' x' : Int} {wh br wh' br' : Nat → Int} (h : IvS n s x wh br s' x' wh' br') {w t : Int} (hs : s < 150) (hw : 0 ≤ w ∧ w < n) (ht : 0 ≤ t ∧ t ≤ 9999) : IvS n (s + 1) x (upr wh s.toNat w) (upr br s.toNat t) (s + 1) x (upr wh' s.toNat w) (upr br' s.toNat t) := by
  refine ⟨by have := h.1; omega, ?_⟩
  intro i hi
  by_cases e : i = s.toNat
  · subst e; rw [upr_s, upr_s, upr_s, upr_s]; exact ⟨⟨rfl, rfl⟩, hw, ht⟩
  · rw [upr_n e, upr_n e, upr_n e, upr_n e]; exact h.2 i (by have := h.1; omega)
theorem IvS.luck {n s x s' x' : Int} {wh br wh' br' : Nat → Int} (h : IvS n s x wh br s' x' wh' br') {y : Int} (hy : 0 ≤ y ∧ y ≤ 65535) : IvS n s y wh br s' y wh' br' := ⟨by have := h.1; omega, h.2⟩
theorem IvS.zero {n s x s' x' : Int} {wh br wh' br' : Nat → Int} (h : IvS n s x wh br s' x' wh' br') : IvS n 0 x wh br 0 x' wh' br' := ⟨by have := h.1; omega, fun i hi => by omega⟩
theorem IvS.more {n n' s x s' x' : Int} {wh br wh' br' : Nat → Int} (h : IvS n s x wh br s' x' wh' br') (hn : n ≤ n') : IvS n' s x wh br s' x' wh' br' := ⟨h.1, fun i hi => ⟨(h.2 i hi).1, ⟨(h.2 i hi).2.1.1, by have := (h.2 i hi).2.1.2; omega⟩, (h.2 i hi).2.2⟩⟩
def lastA (m : Mm) : Int := if m 9 4 = 0 then -1 else m 11 (m 9 4 - 1).toNat
def sayA (w t : Int) (m : Mm) : Mm := upd2 (upd2 (upd2 m 10 (m 9 4).toNat w) 11 (m 9 4).toNat t) 9 4 (m 9 4 + 1)
def sayB (w t : Int) (m : Mm) : Mm := upd2 (upd2 (upd2 m 61 (m 54 5).toNat w) 62 (m 54 5).toNat t) 54 5 (m 54 5 + 1)
theorem breathA_s {m : Mm} (h : 0 ≤ m 9 4 ∧ m 9 4 ≤ 150) : F_X9_breathOf (wr (m 9 4 - 1)) m = some (lastA m, m) := by
  unfold F_X9_breathOf lastA
  rw [wr_s (by omega)]
  by_cases e : m 9 4 = 0
  · rw [if_pos (by omega), if_pos e]
  · rw [if_neg (by omega), if_neg (by omega), ald_s (by omega), if_neg e]
theorem add_s {m : Mm} (h : 0 ≤ m 9 4 ∧ m 9 4 ≤ 150) (w t : Int) : F_X9_add w t m = if m 9 4 < 150 ∧ t ≤ 9999 ∧ lastA m ≤ t then some (1, sayA w t m) else some (0, m) := by
  unfold F_X9_add
  by_cases h1 : 150 ≤ m 9 4
  · rw [if_pos h1, if_neg (by omega)]
  · rw [if_neg h1]
    by_cases h2 : 9999 < t
    · rw [if_pos h2, if_neg (by omega)]
    · rw [if_neg h2, breathA_s h, cll_s]
      by_cases h3 : lastA m ≤ t
      · rw [if_pos h3, if_pos (by omega)]
        simp (disch := omega) only [ast_s, u2r, wr_s, stf_s]
        rfl
      · rw [if_neg h3, if_neg (fun z => h3 z.2.2)]
theorem sayA_s {m : Mm} (h : 0 ≤ m 9 4 ∧ m 9 4 ≤ 150) (w t : Int) : F_X11_say w t m = if (0 ≤ w ∧ w < m 1 5) ∧ (0 ≤ t ∧ t ≤ 9999) ∧ m 9 4 < 150 ∧ lastA m ≤ t then some (m 9 4 + 1, upd2 (sayA w t m) 14 5 (-1)) else some (-1, m) := by
  unfold F_X11_say F_X3_forget
  rw [has_s, cll_s, ib0]
  by_cases h1 : 0 ≤ w ∧ w < m 1 5
  · rw [if_pos h1, within_s, cll_s, ib0]
    by_cases h2 : 0 ≤ t ∧ t ≤ 9999
    · rw [if_pos h2, add_s h]
      by_cases h3 : m 9 4 < 150 ∧ lastA m ≤ t
      · rw [if_pos ⟨h3.1, h2.2, h3.2⟩, cll_s, if_pos (by decide), stf_s, cll_s, if_pos ⟨h1, h2, h3⟩, u2r (by decide)]
        unfold sayA
        rw [u2s]
      · rw [if_neg (fun z => h3 ⟨z.1, z.2.2⟩), cll_s, if_neg (by decide), if_neg (fun z => h3 z.2.2)]
    · rw [if_neg h2, if_neg (fun z => h2 z.2.1)]
  · rw [if_neg h1, if_neg (fun z => h1 z.1)]
theorem lastA_b {a b : Mm} (h : InvS a b) : -1 ≤ lastA a ∧ lastA a ≤ 9999 := by
  unfold lastA
  have h0 := h.1
  by_cases e : a 9 4 = 0
  · rw [if_pos e]; omega
  · rw [if_neg e]; have := h.2 (a 9 4 - 1).toNat (by omega); omega
theorem sayB_s {a b : Mm} (hP : InvP a b) (h : InvS a b) (w t : Int) : F_X12_say w t b = if (0 ≤ w ∧ w < a 1 5) ∧ (0 ≤ t ∧ t ≤ 9999) ∧ a 9 4 < 150 ∧ lastA a ≤ t then some (a 9 4 + 1, sayB w t b) else some (-1, b) := by
  have hn := hP.A.1
  have en := hP.n
  have h0 := h.1
  have hj : J_X12_say_42 w t b = if a 9 4 < 150 then some (a 9 4 + 1, sayB w t b) else some (-1, b) := by
    unfold J_X12_say_42
    by_cases h4 : a 9 4 < 150
    · rw [if_pos (by omega), if_pos h4]
      simp (disch := omega) only [ast_s, u2r, wr_s, stf_s, u2s]
      rw [h0.1]
      unfold sayB
      rw [h0.1]
    · rw [if_neg (by omega), if_neg h4]
  unfold F_X12_say
  rw [isMouth_s _ _ (by omega), cll_s, ib0, en]
  by_cases h1 : 0 ≤ w ∧ w < a 1 5
  · rw [if_pos h1]
    by_cases e : a 9 4 = 0
    · rw [if_neg (by omega), lies_s, cll_s, ib0, hj]
      have e2 : lastA a = -1 := by unfold lastA; rw [if_pos e]
      by_cases h2 : 0 ≤ t ∧ t ≤ 9999
      · rw [if_pos h2, if_pos (by omega), if_pos ⟨h1, h2, by omega, by omega⟩]
      · rw [if_neg h2, if_neg (fun z => h2 z.2.1)]
    · have h5 := h.2 (a 9 4 - 1).toNat (by omega)
      have e2 : lastA a = a 11 (a 9 4 - 1).toNat := by unfold lastA; rw [if_neg e]
      rw [if_pos (by omega), ald_s (by rw [wr_s (by omega)]; omega), lies_s, cll_s, ib0, hj, wr_s (by omega), h0.1, h5.1.2, ← e2]
      by_cases h2 : lastA a ≤ t ∧ t ≤ 9999
      · rw [if_pos h2]
        by_cases h4 : a 9 4 < 150
        · rw [if_pos h4, if_pos ⟨h1, by omega, by omega, by omega⟩]
        · rw [if_neg h4, if_neg (fun z => h4 z.2.2.1)]
      · rw [if_neg h2, if_neg (fun z => h2 ⟨z.2.2.2, z.2.1.2⟩)]
  · rw [if_neg h1, if_neg (fun z => h1 z.1)]
theorem InvS.say {a b : Mm} (h : InvS a b) {w t : Int} (hs : a 9 4 < 150) (hw : 0 ≤ w ∧ w < a 1 5) (ht : 0 ≤ t ∧ t ≤ 9999) : InvS (sayA w t a) (sayB w t b) := by
  have h0 := h.1
  have := IvS.push h hs hw ht
  unfold InvS sayA sayB
  simp (disch := decide) only [u2r, u2n, u2s, u2_row]
  rw [h0.1, h0.2.1]
  exact this
def sDa (k i : Nat) : Bool := k == 10 || k == 11 || (k == 9 && (i == 4 || i == 5))
def sDb (k i : Nat) : Bool := k == 61 || k == 62 || (k == 54 && (i == 5 || i == 6))
theorem sayA_fr (w t : Int) (m : Mm) : Fr sDa m (sayA w t m) := Fr.upd (Fr.upd (Fr.upd (Fr.refl _ _) _ rfl) _ rfl) _ rfl
theorem sayB_fr (w t : Int) (m : Mm) : Fr sDb m (sayB w t m) := Fr.upd (Fr.upd (Fr.upd (Fr.refl _ _) _ rfl) _ rfl) _ rfl
theorem lastA_say (w t : Int) {m : Mm} (h : 0 ≤ m 9 4) : lastA (sayA w t m) = t := by
  unfold lastA sayA
  simp (disch := decide) only [u2r, u2n, u2s, u2_row]
  rw [if_neg (by omega), show m 9 4 + 1 - 1 = m 9 4 by omega, upr_s]

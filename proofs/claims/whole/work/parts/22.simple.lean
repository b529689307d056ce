/-! closed forms of the methods without loops -/
def Fr (S : Nat → Nat → Bool) (m m' : Mm) : Prop := ∀ k i, S k i = false → m' k i = m k i
theorem Fr.refl (S : Nat → Nat → Bool) (m : Mm) : Fr S m m := fun _ _ _ => rfl
theorem Fr.trans {S : Nat → Nat → Bool} {m m1 m2 : Mm} (h : Fr S m m1) (h2 : Fr S m1 m2) : Fr S m m2 := fun k i e => (h2 k i e).trans (h k i e)
theorem Fr.mono {S S' : Nat → Nat → Bool} {m m1 : Mm} (h : Fr S m m1) (hs : ∀ k i, S' k i = false → S k i = false) : Fr S' m m1 := fun k i e => h k i (hs k i e)
theorem Fr.upd {S : Nat → Nat → Bool} {m m1 : Mm} (h : Fr S m m1) {c i : Nat} (v : Int) (hc : S c i = true) : Fr S m (upd2 m1 c i v) := by
  intro k j e
  by_cases h1 : k = c
  · subst h1
    by_cases h2 : j = i
    · subst h2; rw [hc] at e; exact absurd e (by decide)
    · rw [u2n h2]; exact h _ _ e
  · rw [u2r h1]; exact h _ _ e
theorem Fr.row {S : Nat → Nat → Bool} {m m1 : Mm} (h : Fr S m m1) (k : Nat) (hk : ∀ i, S k i = false) : m1 k = m k := funext fun i => h k i (hk i)
theorem ib0 {α : Type} {p : Prop} [Decidable p] {A B : α} : (if b2i p = 0 then A else B) = if p then B else A := by
  by_cases h : p
  · rw [if_pos h, if_neg (by rw [b2i_t h]; decide)]
  · rw [if_neg h, if_pos (by rw [b2i_f h])]
theorem ibn {α : Type} {p : Prop} [Decidable p] {A B : α} : (if ¬ b2i p = 0 then A else B) = if p then A else B := by
  by_cases h : p
  · rw [if_pos h, if_pos (by rw [b2i_t h]; decide)]
  · rw [if_neg h, if_neg (by rw [b2i_f h]; decide)]
theorem b2i_n {p : Prop} [Decidable p] : (¬ b2i p = 0) = p := by rw [b2i_0]; simp
theorem upr_s (r : Nat → Int) (i : Nat) (v : Int) : upr r i v i = v := if_pos rfl
theorem upr_n {r : Nat → Int} {i j : Nat} {v : Int} (h : j ≠ i) : upr r i v j = r j := if_neg h
def mouthA (x y t : Int) (m : Mm) : Mm := upd2 (upd2 (upd2 (upd2 m 2 (m 1 5).toNat x) 3 (m 1 5).toNat y) 4 (m 1 5).toNat t) 1 5 (m 1 5 + 1)
def mouthB (x y t : Int) (m : Mm) : Mm := upd2 (upd2 (upd2 (upd2 m 56 (m 54 2).toNat x) 57 (m 54 2).toNat y) 58 (m 54 2).toNat t) 54 2 (m 54 2 + 1)
theorem mouthA_s (a1 a2 a3 : Int) (m : Mm) (h : 0 ≤ m 1 5 ∧ m 1 5 ≤ 8) : F_X11_mouth a1 a2 a3 m = if ((-50 ≤ a1 ∧ a1 ≤ 50) ∧ (-50 ≤ a2 ∧ a2 ≤ 50) ∧ (0 ≤ a3 ∧ a3 ≤ 1000)) ∧ m 1 5 < 8 then some (m 1 5, mouthA a1 a2 a3 m) else some (-1, m) := by
  unfold F_X11_mouth J_X11_mouth_26 J_X11_mouth_29 F_X4_join
  simp only [within_s, cll_s, nmv_s, stf_s, ib0, ibn, if_true]
  by_cases h1 : -50 ≤ a1 ∧ a1 ≤ 50
  · rw [if_pos h1]
    by_cases h2 : -50 ≤ a2 ∧ a2 ≤ 50
    · rw [if_pos h2, if_neg (by decide)]
      by_cases h3 : 0 ≤ a3 ∧ a3 ≤ 1000
      · rw [if_pos h3]
        by_cases h4 : m 1 5 < 8
        · rw [if_pos h4, if_pos ⟨⟨h1, h2, h3⟩, h4⟩]
          simp (disch := omega) only [ast_s, u2r, u2s, wr_s, cll_s]
          unfold mouthA
          congr 2
          omega
        · rw [if_neg h4, if_neg (fun z => h4 z.2)]
          rfl
      · rw [if_neg h3, if_neg (fun z => h3 z.1.2.2)]
    · rw [if_neg h2, if_neg (fun z => h2 z.1.2.1)]
  · rw [if_neg h1, if_neg (fun z => h1 z.1.1)]
theorem mouthB_s (a1 a2 a3 : Int) (m : Mm) (h : 0 ≤ m 54 2 ∧ m 54 2 ≤ 8) : F_X12_mouth a1 a2 a3 m = if ((-50 ≤ a1 ∧ a1 ≤ 50) ∧ (-50 ≤ a2 ∧ a2 ≤ 50) ∧ (0 ≤ a3 ∧ a3 ≤ 1000)) ∧ m 54 2 < 8 then some (m 54 2, mouthB a1 a2 a3 m) else some (-1, m) := by
  unfold F_X12_mouth
  simp only [lies_s, cll_s, nmv_s, stf_s, ib0, ibn]
  by_cases h4 : m 54 2 = 8
  · rw [if_pos h4, if_neg (by omega)]
  · rw [if_neg h4]
    by_cases h1 : -50 ≤ a1 ∧ a1 ≤ 50
    · rw [if_pos h1]
      by_cases h2 : -50 ≤ a2 ∧ a2 ≤ 50
      · rw [if_pos h2]
        by_cases h3 : 0 ≤ a3 ∧ a3 ≤ 1000
        · rw [if_pos h3, if_pos ⟨⟨h1, h2, h3⟩, by omega⟩]
          simp (disch := omega) only [ast_s, u2r, u2s, wr_s, cll_s]
          unfold mouthB
          congr 2
          omega
        · rw [if_neg h3, if_neg (fun z => h3 z.1.2.2)]
      · rw [if_neg h2, if_neg (fun z => h2 z.1.2.1)]
    · rw [if_neg h1, if_neg (fun z => h1 z.1.1)]
def airA (r v : Int) (m : Mm) : Mm := upd2 (upd2 (upd2 m 1 6 r) 1 7 v) 14 5 (-1)
def airB (r v : Int) (m : Mm) : Mm := upd2 (upd2 m 54 3 r) 54 4 v
theorem airA_s (a1 a2 : Int) (m : Mm) : F_X11_air a1 a2 m = if (0 ≤ a1 ∧ a1 ≤ 200) ∧ (1 ≤ a2 ∧ a2 ≤ 100) then some (1, airA a1 a2 m) else some (0, m) := by
  unfold F_X11_air F_X3_forget
  simp only [within_s, cll_s, nmv_s, stf_s, ib0, ibn]
  by_cases h1 : 0 ≤ a1 ∧ a1 ≤ 200 <;> by_cases h2 : 1 ≤ a2 ∧ a2 ≤ 100 <;> simp only [h1, h2, not_true_eq_false, not_false_eq_true, if_true, if_false, and_self, and_true, and_false, true_and, false_and, airA]
theorem airB_s (a1 a2 : Int) (m : Mm) : F_X12_air a1 a2 m = if (0 ≤ a1 ∧ a1 ≤ 200) ∧ (1 ≤ a2 ∧ a2 ≤ 100) then some (1, airB a1 a2 m) else some (0, m) := by
  unfold F_X12_air
  simp only [lies_s, cll_s, nmv_s, stf_s, ib0, ibn]
  by_cases h1 : 0 ≤ a1 ∧ a1 ≤ 200 <;> by_cases h2 : 1 ≤ a2 ∧ a2 ≤ 100 <;> simp only [h1, h2, not_true_eq_false, not_false_eq_true, if_true, if_false, and_self, and_true, and_false, true_and, false_and, airB]
theorem seedA_s (a1 : Int) (m : Mm) : F_X11_seed a1 m = if 0 ≤ a1 ∧ a1 ≤ 65535 then some (1, upd2 m 9 5 a1) else some (0, m) := by
  unfold F_X11_seed
  simp only [within_s, cll_s, nmv_s, stf_s, ibn]
theorem seedB_s (a1 : Int) (m : Mm) : F_X12_seed a1 m = if 0 ≤ a1 ∧ a1 ≤ 65535 then some (1, upd2 m 54 6 a1) else some (0, m) := by
  unfold F_X12_seed
  simp only [lies_s, cll_s, nmv_s, stf_s, ibn]
theorem quietA_s (m : Mm) : F_X11_quiet m = some (m 9 4, upd2 (upd2 m 9 4 0) 14 5 (-1)) := rfl
theorem quietB_s (m : Mm) : F_X12_quiet m = some (m 54 5, upd2 m 54 5 0) := rfl
theorem keepA_s (m : Mm) : F_X11_keep m = some (m 9 4, upd2 (upd2 (cpy2 (cpy2 m 10 12 150) 11 13 150) 9 6 (m 9 4)) 9 7 (m 9 5)) := rfl
theorem undoA_s (m : Mm) : F_X11_undo m = if m 9 6 = -1 then some (0, upd2 m 14 5 (-1)) else some (1, upd2 (upd2 (cpy2 (cpy2 (upd2 m 14 5 (-1)) 12 10 150) 13 11 150) 9 4 (m 9 6)) 9 5 (m 9 7)) := by
  unfold F_X11_undo F_X3_forget F_X9_restore
  simp only [cll_s, stf_s]
  rw [u2r (by decide)]
  by_cases h : m 9 6 = -1
  · rw [if_neg (by simp [h]), if_pos h, cll_s]
  · rw [if_pos h, if_neg h]; rfl
theorem wayAA_s {m : Mm} (h : PpA m) (a b : Int) : F_X11_way a b m = if (0 ≤ a ∧ a < m 1 5) ∧ (0 ≤ b ∧ b < m 1 5) then some (wayA m a b, m) else some (-1, m) := by
  unfold F_X11_way
  simp only [has_s, cll_s, ib0, ibn]
  by_cases h1 : 0 ≤ a ∧ a < m 1 5
  · by_cases h2 : 0 ≤ b ∧ b < m 1 5
    · rw [if_pos h1, if_pos h2, wayB_s h h1 h2, cll_s, if_pos ⟨h1, h2⟩]
    · rw [if_pos h1, if_neg h2, if_neg (fun z => h2 z.2)]
  · rw [if_neg h1, if_neg (fun z => h1 z.1)]
theorem InvP.n {a b : Mm} (h : InvP a b) : b 54 2 = a 1 5 := h.1.1
theorem wayBB_s {a b : Mm} (h : InvP a b) (x y : Int) : F_X12_way x y b = if (0 ≤ x ∧ x < a 1 5) ∧ (0 ≤ y ∧ y < a 1 5) then some (wayA a x y, b) else some (-1, b) := by
  have hn := h.A.1
  have en := h.n
  unfold F_X12_way
  rw [isMouth_s _ _ (by omega), cll_s, isMouth_s _ _ (by omega)]
  simp only [cll_s, ib0, en]
  by_cases h1 : 0 ≤ x ∧ x < a 1 5
  · by_cases h2 : 0 ≤ y ∧ y < a 1 5
    · rw [if_pos h1, if_pos h2, wayOf_s h h1 h2, cll_s, if_pos ⟨h1, h2⟩]
    · rw [if_pos h1, if_neg h2, if_neg (fun z => h2 z.2)]
  · rw [if_neg h1, if_neg (fun z => h1 z.1)]

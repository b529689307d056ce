/-! rows; sentence -/
def rowS (m : Mm) (c : Nat) (f : Nat → Int) : Mm := fun k => if k = c then f else m k
theorem rowS_c (m : Mm) (c : Nat) (f : Nat → Int) : rowS m c f c = f := if_pos rfl
theorem rowS_n {m : Mm} {c k : Nat} {f : Nat → Int} (h : k ≠ c) : rowS m c f k = m k := if_neg h
theorem rowS_id (m : Mm) (c : Nat) : rowS m c (m c) = m := by
  funext k; unfold rowS; split
  · rename_i h; rw [h]
  · rfl
theorem rowS_upd (m : Mm) (c i : Nat) (f : Nat → Int) (v : Int) : upd2 (rowS m c f) c i v = rowS m c (upr f i v) := by
  funext k
  by_cases h : k = c
  · subst h; rw [u2_row, rowS_c, rowS_c]
  · rw [u2r h, rowS_n h, rowS_n h]
theorem upd_rowS (m : Mm) (c i : Nat) (v : Int) : upd2 m c i v = rowS m c (upr (m c) i v) := by
  funext k
  by_cases h : k = c
  · subst h; rw [u2_row, rowS_c]
  · rw [u2r h, rowS_n h]
theorem rowS_rowS (m : Mm) (c : Nat) (f g : Nat → Int) : rowS (rowS m c f) c g = rowS m c g := by
  funext k; unfold rowS; split <;> rfl
theorem Fr.rowS {S : Nat → Nat → Bool} {m m1 : Mm} (h : Fr S m m1) {c : Nat} (f : Nat → Int) (hc : ∀ i, S c i = true) : Fr S m (rowS m1 c f) := by
  intro k i e
  by_cases h1 : k = c
  · subst h1; rw [hc] at e; exact absurd e (by decide)
  · rw [rowS_n h1]; exact h _ _ e
def blit (s d : Nat → Int) (o n : Nat) : Nat → Int := fun j => if o ≤ j ∧ j < o + n then s (j - o) else d j
theorem blit_0 (s d : Nat → Int) (o : Nat) : blit s d o 0 = d := by
  funext j; unfold blit; rw [if_neg (by omega)]
theorem blit_step (s d : Nat → Int) (o n : Nat) : upr (blit s d o n) (o + n) (s n) = blit s d o (n + 1) := by
  funext j
  unfold upr blit
  by_cases h : j = o + n
  · rw [if_pos h, if_pos (by omega), h]; congr 1; omega
  · rw [if_neg h]
    by_cases h2 : o ≤ j ∧ j < o + n
    · rw [if_pos h2, if_pos (by omega)]
    · rw [if_neg h2, if_neg (by omega)]
theorem blit_in {s d : Nat → Int} {o n j : Nat} (h : o ≤ j ∧ j < o + n) : blit s d o n j = s (j - o) := if_pos h
theorem blit_out {s d : Nat → Int} {o n j : Nat} (h : ¬ (o ≤ j ∧ j < o + n)) : blit s d o n j = d j := if_neg h
/-- bytes i .. n - 1 of a row are meanings -/
abbrev goodW (r : Nat → Int) (i n : Nat) : Prop := ∀ j : Nat, j < n → i ≤ j → 1 ≤ r j ∧ r j ≤ 31

theorem goodW_step {r : Nat → Int} {i n : Nat} (h : i < n) : goodW r i n = ((1 ≤ r i ∧ r i ≤ 31) ∧ goodW r (i + 1) n) := by
  apply propext
  constructor
  · intro g; exact ⟨g i h (Nat.le_refl _), fun j hj hi => g j hj (by omega)⟩
  · intro g j hj hi
    by_cases e : j = i
    · subst e; exact g.1
    · exact g.2 j hj (by omega)
theorem ts50 (a : Mm) (hT : 0 ≤ a 7 1 ∧ a 7 1 ≤ 220) {v1 n : Nat} (hv : v1 < 8) (hn : n ≤ 4) (hl : (n : Int) ≤ a 7 1) : ∀ k i : Nat, i + k = n → ∀ f, k < f → L_X4_takeSentence_50 f (v1 : Int) (n : Int) (i : Int) (rowS a 6 (blit (a 8) (a 6) (4 * v1) i)) = some (1, upd2 (rowS a 6 (blit (a 8) (a 6) (4 * v1) n)) 5 v1 n) := by
  intro k
  induction k with
  | zero =>
    intro i hi f hf
    obtain ⟨f', rfl⟩ : ∃ f', f = f' + 1 := ⟨f - 1, by omega⟩
    show LB_X4_takeSentence_50 (L_X4_takeSentence_50 f') _ _ _ _ = _
    unfold LB_X4_takeSentence_50
    rw [if_pos (by omega), ast_s (by omega), Int.toNat_natCast, show i = n by omega]
  | succ k ih =>
    intro i hi f hf
    obtain ⟨f', rfl⟩ : ∃ f', f = f' + 1 := ⟨f - 1, by omega⟩
    show LB_X4_takeSentence_50 (L_X4_takeSentence_50 f') _ _ _ _ = _
    unfold LB_X4_takeSentence_50 F_X10_byteAt
    rw [if_neg (by omega), if_neg (by omega), rowS_n (by decide), if_neg (by omega), ald_s (by omega), cll_s, wr_s (x := (v1 : Int) * 4) (by omega), wr_s (x := (v1 : Int) * 4 + (i : Int)) (by omega), ast_s (by omega), nmv_s, wr_s (by omega), rowS_n (by decide), rowS_upd, Int.toNat_natCast, show ((v1 : Int) * 4 + (i : Int)).toNat = 4 * v1 + i by omega, blit_step]
    exact ih (i + 1) (by omega) f' (by omega)
theorem ts3 (a : Mm) (hT : 0 ≤ a 7 1 ∧ a 7 1 ≤ 220) {v1 n : Nat} (hv : (v1 : Int) < a 1 5) (h8 : a 1 5 ≤ 8) (hn : n ≤ 4) (hl : (n : Int) ≤ a 7 1) : ∀ k i : Nat, i + k = n → ∀ f, k < f → L_X4_takeSentence_3 f (v1 : Int) (n : Int) (i : Int) a = if goodW (a 8) i n then some (1, upd2 (rowS a 6 (blit (a 8) (a 6) (4 * v1) n)) 5 v1 n) else some (0, a) := by
  intro k
  induction k with
  | zero =>
    intro i hi f hf
    obtain ⟨f', rfl⟩ : ∃ f', f = f' + 1 := ⟨f - 1, by omega⟩
    show LB_X4_takeSentence_3 (L_X4_takeSentence_3 f') _ _ _ _ = _
    unfold LB_X4_takeSentence_3
    have g : goodW (a 8) i n := fun j hj hi => by omega
    have h := ts50 a hT (v1 := v1) (by omega) hn hl n 0 (by omega) 100000 (by omega)
    rw [blit_0, rowS_id, show ((0 : Nat) : Int) = 0 from rfl] at h
    rw [if_pos (by omega), has_s, cll_s, ib0, if_pos (by omega), if_pos (by omega), nmv_s, if_pos g]
    exact h
  | succ k ih =>
    intro i hi f hf
    obtain ⟨f', rfl⟩ : ∃ f', f = f' + 1 := ⟨f - 1, by omega⟩
    show LB_X4_takeSentence_3 (L_X4_takeSentence_3 f') _ _ _ _ = _
    unfold LB_X4_takeSentence_3 F_X10_byteAt
    have e := ih (i + 1) (by omega) f' (by omega)
    rw [if_neg (by omega), if_neg (by omega), if_neg (by omega), ald_s (by omega), cll_s, within_s, cll_s, ibn, nmv_s, wr_s (by omega), Int.toNat_natCast]
    rw [show ((i + 1 : Nat) : Int) = (i : Int) + 1 by omega] at e
    rw [e]
    have g := goodW_step (r := a 8) (i := i) (n := n) (by omega)
    by_cases h1 : 1 ≤ a 8 i ∧ a 8 i ≤ 31
    · rw [if_pos h1]
      by_cases h2 : goodW (a 8) (i + 1) n
      · rw [if_pos h2, if_pos (by rw [g]; exact ⟨h1, h2⟩)]
      · rw [if_neg h2, if_neg (by rw [g]; exact fun z => h2 z.2)]
    · rw [if_neg h1, if_neg (by rw [g]; exact fun z => h1 z.1)]
def sentA (v1 n : Nat) (m : Mm) : Mm := upd2 (upd2 (upd2 (rowS m 6 (blit (m 8) (m 6) (4 * v1) n)) 5 v1 n) 7 1 0) 43 10 0
theorem sentenceA_s {a : Mm} (hP : 0 ≤ a 1 5 ∧ a 1 5 ≤ 8) (hT : 0 ≤ a 7 1 ∧ a 7 1 ≤ 220) (a1 a2 : Int) : F_X11_sentence a1 a2 a = if (0 ≤ a1 ∧ a1 < a 1 5) ∧ (0 ≤ a2 ∧ a2 ≤ 4) ∧ a2 ≤ a 7 1 then (if goodW (a 8) 0 a2.toNat then some (a2, sentA a1.toNat a2.toNat a) else some (-2, upd2 a 7 1 0)) else some (-1, a) := by
  unfold F_X11_sentence F_X10_has F_X10_empty F_X1_forget
  rw [has_s, cll_s, ib0]
  by_cases h1 : 0 ≤ a1 ∧ a1 < a 1 5
  · rw [if_pos h1, within_s, cll_s, ib0]
    by_cases h2 : 0 ≤ a2 ∧ a2 ≤ 4
    · rw [if_pos h2]
      by_cases h3 : a2 ≤ a 7 1
      · rw [if_neg (by omega), cll_s, if_pos (by decide), if_pos ⟨h1, h2, h3⟩]
        have h := ts3 a hT (v1 := a1.toNat) (n := a2.toNat) (by omega) hP.2 (by omega) (by omega) a2.toNat 0 (by omega) 100000 (by omega)
        rw [show ((a1.toNat : Nat) : Int) = a1 by omega, show ((a2.toNat : Nat) : Int) = a2 by omega, show ((0 : Nat) : Int) = 0 from rfl] at h
        unfold F_X4_takeSentence
        rw [nmv_s, h]
        by_cases g : goodW (a 8) 0 a2.toNat
        · rw [if_pos g, if_pos g, cll_s, nmv_s, stf_s, cll_s, if_pos (by decide), stf_s, cll_s]
          unfold sentA
          rw [show ((a2.toNat : Nat) : Int) = a2 by omega]
        · rw [if_neg g, if_neg g, cll_s, nmv_s, stf_s, cll_s, if_neg (by decide)]
      · rw [if_pos (by omega), cll_s, if_neg (by decide), if_neg (fun z => h3 z.2.2)]
    · rw [if_neg h2, if_neg (fun z => h2 z.2.1)]
  · rw [if_neg h1, if_neg (fun z => h1 z.1)]
theorem tb69 (b : Mm) (r : Nat → Int) {v1 n : Nat} (hv : v1 < 8) (hn : n ≤ 4) (hr : ∀ i : Nat, i < n → r i = iand (b 55 i) 255) : ∀ k i : Nat, i + k = n → ∀ f, k < f → L_X12_sentence_69 f (v1 : Int) (n : Int) (i : Int) (rowS b 60 (blit r (b 60) (4 * v1) i)) = some ((n : Int), upd2 (rowS b 60 (blit r (b 60) (4 * v1) n)) 59 v1 n) := by
  intro k
  induction k with
  | zero =>
    intro i hi f hf
    obtain ⟨f', rfl⟩ : ∃ f', f = f' + 1 := ⟨f - 1, by omega⟩
    show LB_X12_sentence_69 (L_X12_sentence_69 f') _ _ _ _ = _
    unfold LB_X12_sentence_69
    rw [if_pos (by omega), ast_s (by omega), Int.toNat_natCast, show i = n by omega]
  | succ k ih =>
    intro i hi f hf
    obtain ⟨f', rfl⟩ : ∃ f', f = f' + 1 := ⟨f - 1, by omega⟩
    show LB_X12_sentence_69 (L_X12_sentence_69 f') _ _ _ _ = _
    unfold LB_X12_sentence_69 F_X12_byteAt
    rw [if_neg (by omega), ald_s (by omega), cll_s, wr_s (x := 4 * (v1 : Int)) (by omega), wr_s (x := 4 * (v1 : Int) + (i : Int)) (by omega), ast_s (by omega), nmv_s, wr_s (by omega), rowS_n (by decide), rowS_upd, Int.toNat_natCast, ← hr i (by omega), show (4 * (v1 : Int) + (i : Int)).toNat = 4 * v1 + i by omega, blit_step]
    exact ih (i + 1) (by omega) f' (by omega)
theorem tb37 (b : Mm) (r : Nat → Int) {v1 n : Nat} (hv : v1 < 8) (hn : n ≤ 4) (hr : ∀ i : Nat, i < n → r i = iand (b 55 i) 255) : ∀ k i : Nat, i + k = n → ∀ f, k < f → L_X12_sentence_37 f (v1 : Int) (n : Int) (i : Int) b = if goodW r i n then some ((n : Int), upd2 (rowS b 60 (blit r (b 60) (4 * v1) n)) 59 v1 n) else some (-2, b) := by
  intro k
  induction k with
  | zero =>
    intro i hi f hf
    obtain ⟨f', rfl⟩ : ∃ f', f = f' + 1 := ⟨f - 1, by omega⟩
    show LB_X12_sentence_37 (L_X12_sentence_37 f') _ _ _ _ = _
    unfold LB_X12_sentence_37
    have g : goodW r i n := fun j hj hi => by omega
    have h := tb69 b r hv hn hr n 0 (by omega) 100000 (by omega)
    rw [blit_0, rowS_id, show ((0 : Nat) : Int) = 0 from rfl] at h
    rw [if_pos (by omega), nmv_s, if_pos g]
    exact h
  | succ k ih =>
    intro i hi f hf
    obtain ⟨f', rfl⟩ : ∃ f', f = f' + 1 := ⟨f - 1, by omega⟩
    show LB_X12_sentence_37 (L_X12_sentence_37 f') _ _ _ _ = _
    unfold LB_X12_sentence_37 F_X12_byteAt
    have e := ih (i + 1) (by omega) f' (by omega)
    rw [if_neg (by omega), ald_s (by omega), cll_s, lies_s, cll_s, ibn, nmv_s, wr_s (by omega), Int.toNat_natCast, ← hr i (by omega)]
    rw [show ((i + 1 : Nat) : Int) = (i : Int) + 1 by omega] at e
    rw [e]
    have g := goodW_step (r := r) (i := i) (n := n) (by omega)
    by_cases h1 : 1 ≤ r i ∧ r i ≤ 31
    · rw [if_pos h1]
      by_cases h2 : goodW r (i + 1) n
      · rw [if_pos h2, if_pos (by rw [g]; exact ⟨h1, h2⟩)]
      · rw [if_neg h2, if_neg (by rw [g]; exact fun z => h2 z.2)]
    · rw [if_neg h1, if_neg (by rw [g]; exact fun z => h1 z.1)]
def sentB (r : Nat → Int) (v1 n : Nat) (m : Mm) : Mm := upd2 (rowS (upd2 m 54 1 0) 60 (blit r (m 60) (4 * v1) n)) 59 v1 n
theorem sentenceB_s {a b : Mm} (hP : InvP a b) (hT : InvT a b) (a1 a2 : Int) : F_X12_sentence a1 a2 b = if (0 ≤ a1 ∧ a1 < a 1 5) ∧ (0 ≤ a2 ∧ a2 ≤ 4) ∧ a2 ≤ a 7 1 then (if goodW (a 8) 0 a2.toNat then some (a2, sentB (a 8) a1.toNat a2.toNat b) else some (-2, upd2 b 54 1 0)) else some (-1, b) := by
  have hn := hP.A.1
  have en := hP.n
  have ht := hT.1
  unfold F_X12_sentence
  rw [isMouth_s _ _ (by omega), cll_s, ib0, en]
  by_cases h1 : 0 ≤ a1 ∧ a1 < a 1 5
  · rw [if_pos h1, lies_s, cll_s, ib0]
    by_cases h2 : 0 ≤ a2 ∧ a2 ≤ 4
    · rw [if_pos h2]
      by_cases h3 : a2 ≤ a 7 1
      · rw [if_pos (by omega), if_pos ⟨h1, h2, h3⟩, stf_s, nmv_s]
        have h := tb37 (upd2 b 54 1 0) (a 8) (v1 := a1.toNat) (n := a2.toNat) (by omega) (by omega) (fun i hi => by rw [u2r (by decide)]; exact (hT.2 i (by omega)).1) a2.toNat 0 (by omega) 100000 (by omega)
        rw [show ((a1.toNat : Nat) : Int) = a1 by omega, show ((a2.toNat : Nat) : Int) = a2 by omega, show ((0 : Nat) : Int) = 0 from rfl] at h
        rw [h]
        unfold sentB
        rw [u2r (by decide), show ((a2.toNat : Nat) : Int) = a2 by omega]
      · rw [if_neg (by omega), if_neg (fun z => h3 z.2.2)]
    · rw [if_neg h2, if_neg (fun z => h2 z.2.1)]
  · rw [if_neg h1, if_neg (fun z => h1 z.1)]

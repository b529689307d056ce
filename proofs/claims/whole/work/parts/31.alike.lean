/-! alike -/
def cntP (p : Nat → Prop) [DecidablePred p] (n : Nat) : Int := sumN (fun i => if p i then 1 else 0) n
def fstP (p : Nat → Prop) [DecidablePred p] : Nat → Nat → Int
  | 0, _ => -1
  | k + 1, i => if p i then (i : Int) else fstP p k (i + 1)
theorem cntP_b (p : Nat → Prop) [DecidablePred p] (n : Nat) : 0 ≤ cntP p n ∧ cntP p n ≤ n := by
  have := sumN_b (g := fun i => if p i then (1 : Int) else 0) (c := 1) n (fun j _ => by split <;> omega)
  unfold cntP; omega
theorem fstP_s (p : Nat → Prop) [DecidablePred p] (k i : Nat) : fstP p (k + 1) i = if p i then (i : Int) else fstP p k (i + 1) := Eq.trans rfl rfl
theorem cntP_s (p : Nat → Prop) [DecidablePred p] (n : Nat) : cntP p (n + 1) = cntP p n + if p n then 1 else 0 := rfl
theorem cntP_0 (p : Nat → Prop) [DecidablePred p] : ∀ n : Nat, cntP p n = 0 → ∀ t, t < n → ¬ p t := by
  intro n
  induction n with
  | zero => intro _ t ht; omega
  | succ n ih =>
    intro h t ht hp
    rw [cntP_s] at h
    have hb := cntP_b p n
    by_cases e : t = n
    · subst e; rw [if_pos hp] at h; omega
    · exact ih (by split at h <;> omega) t (by omega) hp
theorem cntP_p (p : Nat → Prop) [DecidablePred p] {n t : Nat} (ht : t < n) (hp : p t) : 0 < cntP p n := by
  have hb := cntP_b p n
  by_cases e : cntP p n = 0
  · exact absurd hp (cntP_0 p n e t ht)
  · omega
theorem fstP_r (p : Nat → Prop) [DecidablePred p] : ∀ k i : Nat, (fstP p k i = -1 ∧ ∀ t, i ≤ t → t < i + k → ¬ p t) ∨ ∃ j : Nat, fstP p k i = j ∧ i ≤ j ∧ j < i + k ∧ p j := by
  intro k
  induction k with
  | zero => intro i; exact Or.inl ⟨rfl, fun t h1 h2 => by omega⟩
  | succ k ih =>
    intro i
    unfold fstP
    by_cases h : p i
    · rw [if_pos h]; exact Or.inr ⟨i, rfl, by omega, by omega, h⟩
    · rw [if_neg h]
      rcases ih (i + 1) with z | ⟨j, z1, z2, z3, z4⟩
      · refine Or.inl ⟨z.1, fun t h1 h2 => ?_⟩
        by_cases e : t = i
        · subst e; exact h
        · exact z.2 t (by omega) (by omega)
      · exact Or.inr ⟨j, z1, by omega, by omega, z4⟩
theorem fstP_at (p : Nat → Prop) [DecidablePred p] : ∀ k i j : Nat, i ≤ j → j < i + k → p j → (∀ t, i ≤ t → t < j → ¬ p t) → fstP p k i = j := by
  intro k
  induction k with
  | zero => intro i j h1 h2; omega
  | succ k ih =>
    intro i j h1 h2 h3 h4
    unfold fstP
    by_cases e : i = j
    · subst e; rw [if_pos h3]
    · rw [if_neg (h4 i (by omega) (by omega))]
      exact ih (i + 1) j (by omega) (by omega) h3 (fun t ht1 ht2 => h4 t (by omega) ht2)
theorem fstP_b (p : Nat → Prop) [DecidablePred p] (k i : Nat) : -1 ≤ fstP p k i ∧ fstP p k i < i + k := by
  rcases fstP_r p k i with z | ⟨j, z1, z2, z3, _⟩
  · rw [z.1]; omega
  · rw [z1]; omega
theorem fstP_c (p : Nat → Prop) [DecidablePred p] (n : Nat) : (fstP p n 0 = -1) = (cntP p n = 0) := by
  apply propext
  rcases fstP_r p n 0 with z | ⟨j, z1, z2, z3, z4⟩
  · refine ⟨fun _ => ?_, fun _ => z.1⟩
    have hb := cntP_b p n
    by_cases e : cntP p n = 0
    · exact e
    · exfalso
      have : ∀ m : Nat, m ≤ n → cntP p m = 0 := by
        intro m
        induction m with
        | zero => intro _; rfl
        | succ m ih => intro hm; rw [cntP_s, ih (by omega), if_neg (z.2 m (by omega) (by omega))]; rfl
      exact e (this n (Nat.le_refl _))
  · refine ⟨fun h => by omega, fun h => absurd z4 (cntP_0 p n h j (by omega))⟩
abbrev isG (r : Nat → Int) (g : Int) : Nat → Prop := fun j => r j = g
/-- where the gap g is meant, or -1 -/
abbrev mnG (r : Nat → Int) (n : Nat) (g : Int) : Int := fstP (isG r g) n 0
abbrev shP (r : Nat → Int) (n : Nat) (d : Int) : Nat → Prop := fun i => mnG r n (r i + d) ≠ -1
abbrev okG (r : Nat → Int) (i n : Nat) : Prop := ∀ j : Nat, j < n → i ≤ j → (1 ≤ r j ∧ r j ≤ 63) ∧ mnG r n (r j) = j
theorem okG_step {r : Nat → Int} {i n : Nat} (h : i < n) : okG r i n = (((1 ≤ r i ∧ r i ≤ 63) ∧ mnG r n (r i) = i) ∧ okG r (i + 1) n) := by
  apply propext
  constructor
  · intro g; exact ⟨g i h (Nat.le_refl _), fun j hj hi => g j hj (by omega)⟩
  · intro g j hj hi
    by_cases e : j = i
    · subst e; exact g.1
    · exact g.2 j hj (by omega)
theorem mean_l {a : Mm} (hT : a 7 1 ≤ 220) {n : Nat} (hn : (n : Int) ≤ a 7 1) (h12 : n ≤ 12) (g : Int) : ∀ k i : Nat, i + k = n → ∀ f, k < f → L_X8_meaningOf_2 f (n : Int) g ((i : Int) + 1) a = some (fstP (isG (a 8) g) k i + 1, a) := by
  intro k
  induction k with
  | zero =>
    intro i hi f hf
    obtain ⟨f', rfl⟩ : ∃ f', f = f' + 1 := ⟨f - 1, by omega⟩
    show LB_X8_meaningOf_2 (L_X8_meaningOf_2 f') _ _ _ _ = _
    unfold LB_X8_meaningOf_2
    rw [if_pos (by omega)]
    rfl
  | succ k ih =>
    intro i hi f hf
    obtain ⟨f', rfl⟩ : ∃ f', f = f' + 1 := ⟨f - 1, by omega⟩
    show LB_X8_meaningOf_2 (L_X8_meaningOf_2 f') _ _ _ _ = _
    unfold LB_X8_meaningOf_2
    have e := ih (i + 1) (by omega) f' (by omega)
    rw [show ((i + 1 : Nat) : Int) + 1 = (i : Int) + 1 + 1 by omega] at e
    rw [if_neg (by omega), wr_s (x := (i : Int) + 1 - 1) (by omega), byteAt_s hT _ (by omega), cll_s, show ((i : Int) + 1 - 1).toNat = i by omega]
    unfold fstP
    by_cases h : a 8 i = g
    · rw [if_neg (by simp [h]), if_pos h]
    · rw [if_pos h, if_neg h, nmv_s, wr_s (by omega)]; exact e
theorem mean_s {a : Mm} (hT : a 7 1 ≤ 220) {n : Nat} (hn : (n : Int) ≤ a 7 1) (h12 : n ≤ 12) (g : Int) : F_X8_meaningOf (n : Int) g a = some (mnG (a 8) n g + 1, a) := by
  unfold F_X8_meaningOf
  have h := mean_l hT hn h12 g n 0 (by omega) 100000 (by omega)
  rw [show ((0 : Nat) : Int) + 1 = 1 from rfl] at h
  rw [nmv_s]; exact h
theorem areG_l {a : Mm} (hT : a 7 1 ≤ 220) {n : Nat} (hn : (n : Int) ≤ a 7 1) (h12 : n ≤ 12) : ∀ k i : Nat, i + k = n → ∀ f, k < f → L_X8_areGaps_2 f (n : Int) ((i : Int) + 1) a = some (b2i (okG (a 8) i n), a) := by
  intro k
  induction k with
  | zero =>
    intro i hi f hf
    obtain ⟨f', rfl⟩ : ∃ f', f = f' + 1 := ⟨f - 1, by omega⟩
    show LB_X8_areGaps_2 (L_X8_areGaps_2 f') _ _ _ = _
    unfold LB_X8_areGaps_2
    rw [if_pos (by omega), b2i_t (fun j hj hi => by omega)]
  | succ k ih =>
    intro i hi f hf
    obtain ⟨f', rfl⟩ : ∃ f', f = f' + 1 := ⟨f - 1, by omega⟩
    show LB_X8_areGaps_2 (L_X8_areGaps_2 f') _ _ _ = _
    unfold LB_X8_areGaps_2
    have e := ih (i + 1) (by omega) f' (by omega)
    have g := okG_step (r := a 8) (i := i) (n := n) (by omega)
    rw [show ((i + 1 : Nat) : Int) + 1 = (i : Int) + 1 + 1 by omega] at e
    rw [if_neg (by omega), wr_s (x := (i : Int) + 1 - 1) (by omega), byteAt_s hT _ (by omega), cll_s, show ((i : Int) + 1 - 1).toNat = i by omega, nmv_s, within_s, cll_s, ib0]
    by_cases h : 1 ≤ a 8 i ∧ a 8 i ≤ 63
    · rw [if_pos h, mean_s hT hn h12, cll_s]
      by_cases h2 : mnG (a 8) n (a 8 i) = i
      · rw [if_pos (by omega), nmv_s, wr_s (by omega), e]
        congr 2
        unfold b2i
        by_cases h3 : okG (a 8) (i + 1) n
        · rw [if_pos h3, if_pos (by rw [g]; exact ⟨⟨h, h2⟩, h3⟩)]
        · rw [if_neg h3, if_neg (by rw [g]; exact fun z => h3 z.2)]
      · rw [if_neg (by omega), b2i_f (by rw [g]; exact fun z => h2 z.1.2)]
    · rw [if_neg h, b2i_f (by rw [g]; exact fun z => h z.1.1)]
theorem areG_s {a : Mm} (hT : a 7 1 ≤ 220) {n : Nat} (hn : (n : Int) ≤ a 7 1) (h12 : n ≤ 12) : F_X8_areGaps (n : Int) a = some (b2i (okG (a 8) 0 n), a) := by
  unfold F_X8_areGaps
  have h := areG_l hT hn h12 n 0 (by omega) 100000 (by omega)
  rw [show ((0 : Nat) : Int) + 1 = 1 from rfl] at h
  rw [nmv_s]; exact h
theorem shifted_s {a : Mm} (hT : a 7 1 ≤ 220) {n : Nat} (hn : (n : Int) ≤ a 7 1) (h12 : n ≤ 12) {i : Nat} (hi : i < n) {d : Int} (hd : -1 ≤ d ∧ d ≤ 1) (hr : 0 ≤ a 8 i ∧ a 8 i ≤ 255) : F_X8_shifted (n : Int) ((i : Int) + 1) d a = some (mnG (a 8) n (a 8 i + d) + 1, a) := by
  unfold F_X8_shifted
  rw [wr_s (x := (i : Int) + 1 - 1) (by omega), byteAt_s hT _ (by omega), cll_s, show ((i : Int) + 1 - 1).toNat = i by omega, wr_s (by omega), mean_s hT hn h12, cll_s]
theorem firstS_l {a : Mm} (hT : a 7 1 ≤ 220) {n : Nat} (hn : (n : Int) ≤ a 7 1) (h12 : n ≤ 12) {d : Int} (hd : -1 ≤ d ∧ d ≤ 1) (hr : ∀ i, i < n → 0 ≤ a 8 i ∧ a 8 i ≤ 255) : ∀ k i : Nat, i + k = n → ∀ f, k < f → L_X8_firstShifted_2 f (n : Int) d ((i : Int) + 1) a = some (fstP (shP (a 8) n d) k i + 1, a) := by
  intro k
  induction k with
  | zero =>
    intro i hi f hf
    obtain ⟨f', rfl⟩ : ∃ f', f = f' + 1 := ⟨f - 1, by omega⟩
    show LB_X8_firstShifted_2 (L_X8_firstShifted_2 f') _ _ _ _ = _
    unfold LB_X8_firstShifted_2
    rw [if_pos (by omega)]
    rfl
  | succ k ih =>
    intro i hi f hf
    obtain ⟨f', rfl⟩ : ∃ f', f = f' + 1 := ⟨f - 1, by omega⟩
    show LB_X8_firstShifted_2 (L_X8_firstShifted_2 f') _ _ _ _ = _
    unfold LB_X8_firstShifted_2
    have e := ih (i + 1) (by omega) f' (by omega)
    rw [show ((i + 1 : Nat) : Int) + 1 = (i : Int) + 1 + 1 by omega] at e
    rw [if_neg (by omega), shifted_s hT hn h12 (by omega) hd (hr i (by omega)), cll_s, fstP_s]
    by_cases h : shP (a 8) n d i
    · rw [if_neg (fun z => h (by omega)), if_pos h]
    · rw [if_pos (by have := Classical.not_not.mp h; omega), if_neg h, nmv_s, wr_s (by omega)]; exact e
theorem firstS_s {a : Mm} (hT : a 7 1 ≤ 220) {n : Nat} (hn : (n : Int) ≤ a 7 1) (h12 : n ≤ 12) {d : Int} (hd : -1 ≤ d ∧ d ≤ 1) (hr : ∀ i, i < n → 0 ≤ a 8 i ∧ a 8 i ≤ 255) : F_X8_firstShifted (n : Int) d a = some (fstP (shP (a 8) n d) n 0 + 1, a) := by
  unfold F_X8_firstShifted
  have h := firstS_l hT hn h12 hd hr n 0 (by omega) 100000 (by omega)
  rw [show ((0 : Nat) : Int) + 1 = 1 from rfl] at h
  rw [nmv_s]; exact h
theorem manyS_l {a : Mm} (hT : a 7 1 ≤ 220) {n : Nat} (hn : (n : Int) ≤ a 7 1) (h12 : n ≤ 12) {d : Int} (hd : -1 ≤ d ∧ d ≤ 1) (hr : ∀ i, i < n → 0 ≤ a 8 i ∧ a 8 i ≤ 255) : ∀ k i : Nat, i + k = n → ∀ f, k < f → L_X8_howManyShifted_5 f (n : Int) d (cntP (shP (a 8) n d) i) ((i : Int) + 1) a = some (cntP (shP (a 8) n d) n, a) := by
  intro k
  induction k with
  | zero =>
    intro i hi f hf
    obtain ⟨f', rfl⟩ : ∃ f', f = f' + 1 := ⟨f - 1, by omega⟩
    show LB_X8_howManyShifted_5 (L_X8_howManyShifted_5 f') _ _ _ _ _ = _
    unfold LB_X8_howManyShifted_5
    rw [if_pos (by omega), show i = n by omega]
  | succ k ih =>
    intro i hi f hf
    obtain ⟨f', rfl⟩ : ∃ f', f = f' + 1 := ⟨f - 1, by omega⟩
    show LB_X8_howManyShifted_5 (L_X8_howManyShifted_5 f') _ _ _ _ _ = _
    unfold LB_X8_howManyShifted_5 J_X8_howManyShifted_30
    have e := ih (i + 1) (by omega) f' (by omega)
    have hb := cntP_b (shP (a 8) n d) i
    rw [show ((i + 1 : Nat) : Int) + 1 = (i : Int) + 1 + 1 by omega, cntP_s] at e
    rw [if_neg (by omega), shifted_s hT hn h12 (by omega) hd (hr i (by omega)), cll_s]
    simp only [nmv_s]
    rw [wr_s (x := (i : Int) + 1 + 1) (by omega), wr_s (x := cntP (shP (a 8) n d) i + 0) (by omega), wr_s (x := cntP (shP (a 8) n d) i + 1) (by omega)]
    by_cases h : shP (a 8) n d i
    · rw [if_pos h] at e
      rw [if_neg (fun z => h (by omega))]; exact e
    · rw [if_neg h] at e
      rw [if_pos (by have := Classical.not_not.mp h; omega)]; exact e
theorem manyS_s {a : Mm} (hT : a 7 1 ≤ 220) {n : Nat} (hn : (n : Int) ≤ a 7 1) (h12 : n ≤ 12) {d : Int} (hd : -1 ≤ d ∧ d ≤ 1) (hr : ∀ i, i < n → 0 ≤ a 8 i ∧ a 8 i ≤ 255) : F_X8_howManyShifted (n : Int) d a = some (cntP (shP (a 8) n d) n, a) := by
  unfold F_X8_howManyShifted
  have h := manyS_l hT hn h12 hd hr n 0 (by omega) 100000 (by omega)
  rw [show ((0 : Nat) : Int) + 1 = 1 from rfl, show cntP (shP (a 8) n d) 0 = 0 from rfl] at h
  rw [nmv_s, nmv_s]; exact h

/-! loops of copying: keep, undo, feed -/
theorem cpy2_r {m : Mm} {s d n k : Nat} (h : k ≠ d) : cpy2 m s d n k = m k := by unfold cpy2; rw [if_neg h]
theorem cpy2_d (m : Mm) (s d n : Nat) : cpy2 m s d n d = cpyR n (m s) (m d) := by unfold cpy2; rw [if_pos rfl]
/-- memory with rows c, d replaced -/
def row2 (m : Mm) (c : Nat) (f : Nat → Int) (d : Nat) (g : Nat → Int) : Mm := fun k => if k = c then f else if k = d then g else m k
def keepRow (m : Mm) (n : Nat) : Mm := row2 m 93 (cpyR n (m 61) (m 93)) 94 (cpyR n (m 62) (m 94))
theorem row_ext {m m' : Mm} (h : ∀ k i, m k i = m' k i) : m = m' := funext fun k => funext fun i => h k i
theorem keepRow_step (m : Mm) (n : Nat) : upd2 (upd2 (keepRow m n) 93 n (m 61 n)) 94 n (m 62 n) = keepRow m (n + 1) := by
  apply row_ext; intro k i
  unfold keepRow row2 upd2 upr cpyR
  dsimp only
  by_cases h1 : k = 94
  · subst h1
    by_cases h2 : i = n
    · subst h2; simp
    · have : (i < n + 1) = (i < n) := propext ⟨fun _ => by omega, fun _ => by omega⟩
      simp [h2, this]
  · by_cases h3 : k = 93
    · subst h3
      by_cases h2 : i = n
      · subst h2; simp
      · have : (i < n + 1) = (i < n) := propext ⟨fun _ => by omega, fun _ => by omega⟩
        simp [h2, this]
    · simp [h1, h3]
theorem keepB_l (m : Mm) : ∀ k n : Nat, k + n = 150 → ∀ f, k < f → L_X12_keep_23 f (n : Int) (keepRow m n) = some (m 54 5, keepRow m 150) := by
  intro k
  induction k with
  | zero =>
    intro n hn f hf
    obtain ⟨f', rfl⟩ : ∃ f', f = f' + 1 := ⟨f - 1, by omega⟩
    show LB_X12_keep_23 (L_X12_keep_23 f') _ _ = _
    unfold LB_X12_keep_23
    rw [if_pos (by omega), show n = 150 by omega]
    rfl
  | succ k ih =>
    intro n hn f hf
    obtain ⟨f', rfl⟩ : ∃ f', f = f' + 1 := ⟨f - 1, by omega⟩
    show LB_X12_keep_23 (L_X12_keep_23 f') _ _ = _
    unfold LB_X12_keep_23
    rw [if_neg (by omega), ald_s (by omega), ast_s (by omega), ald_s (by omega), ast_s (by omega), nmv_s, wr_s (by omega)]
    have e := keepRow_step m n
    have e1 : keepRow m n 61 = m 61 := rfl
    have e2 : keepRow m n 62 = m 62 := rfl
    rw [u2r (by decide), e1, e2, Int.toNat_natCast, e]
    exact ih (n + 1) (by omega) f' (by omega)
theorem keepB_s (m : Mm) : F_X12_keep m = some (m 54 5, keepRow (upd2 (upd2 (upd2 m 54 68 1) 54 69 (m 54 5)) 54 70 (m 54 6)) 150) := by
  have h := keepB_l (upd2 (upd2 (upd2 m 54 68 1) 54 69 (m 54 5)) 54 70 (m 54 6)) 150 0 rfl 100000 (by decide)
  have e : keepRow (upd2 (upd2 (upd2 m 54 68 1) 54 69 (m 54 5)) 54 70 (m 54 6)) 0 = upd2 (upd2 (upd2 m 54 68 1) 54 69 (m 54 5)) 54 70 (m 54 6) := by
    apply row_ext; intro k i
    unfold keepRow row2 cpyR
    by_cases h1 : k = 93
    · subst h1; simp
    · by_cases h2 : k = 94
      · subst h2; simp
      · simp [h1, h2]
  rw [e, show ((0 : Nat) : Int) = 0 from rfl] at h
  simp (disch := decide) only [u2n] at h
  unfold F_X12_keep
  simp (disch := decide) only [stf_s, nmv_s, u2n]
  exact h
def undoRow (m : Mm) (n : Nat) : Mm := row2 m 61 (cpyR n (m 93) (m 61)) 62 (cpyR n (m 94) (m 62))
theorem undoRow_step (m : Mm) (n : Nat) : upd2 (upd2 (undoRow m n) 61 n (m 93 n)) 62 n (m 94 n) = undoRow m (n + 1) := by
  apply row_ext; intro k i
  unfold undoRow row2 upd2 upr cpyR
  dsimp only
  by_cases h1 : k = 62
  · subst h1
    by_cases h2 : i = n
    · subst h2; simp
    · have : (i < n + 1) = (i < n) := propext ⟨fun _ => by omega, fun _ => by omega⟩
      simp [h2, this]
  · by_cases h3 : k = 61
    · subst h3
      by_cases h2 : i = n
      · subst h2; simp
      · have : (i < n + 1) = (i < n) := propext ⟨fun _ => by omega, fun _ => by omega⟩
        simp [h2, this]
    · simp [h1, h3]
theorem undoB_l (m : Mm) : ∀ k n : Nat, k + n = 150 → ∀ f, k < f → L_X12_undo_27 f (n : Int) (undoRow m n) = some (1, undoRow m 150) := by
  intro k
  induction k with
  | zero =>
    intro n hn f hf
    obtain ⟨f', rfl⟩ : ∃ f', f = f' + 1 := ⟨f - 1, by omega⟩
    show LB_X12_undo_27 (L_X12_undo_27 f') _ _ = _
    unfold LB_X12_undo_27
    rw [if_pos (by omega), show n = 150 by omega]
  | succ k ih =>
    intro n hn f hf
    obtain ⟨f', rfl⟩ : ∃ f', f = f' + 1 := ⟨f - 1, by omega⟩
    show LB_X12_undo_27 (L_X12_undo_27 f') _ _ = _
    unfold LB_X12_undo_27
    rw [if_neg (by omega), ald_s (by omega), ast_s (by omega), ald_s (by omega), ast_s (by omega), nmv_s, wr_s (by omega)]
    have e := undoRow_step m n
    have e1 : undoRow m n 93 = m 93 := rfl
    have e2 : undoRow m n 94 = m 94 := rfl
    rw [u2r (by decide), e1, e2, Int.toNat_natCast, e]
    exact ih (n + 1) (by omega) f' (by omega)
theorem undoB_s (m : Mm) : F_X12_undo m = if m 54 68 = 0 then some (0, m) else some (1, undoRow (upd2 (upd2 m 54 5 (m 54 69)) 54 6 (m 54 70)) 150) := by
  unfold F_X12_undo
  by_cases h0 : m 54 68 = 0
  · rw [if_neg (by simp [h0]), if_pos h0]
  · rw [if_pos h0, if_neg h0]
    have h := undoB_l (upd2 (upd2 m 54 5 (m 54 69)) 54 6 (m 54 70)) 150 0 rfl 100000 (by decide)
    have e : undoRow (upd2 (upd2 m 54 5 (m 54 69)) 54 6 (m 54 70)) 0 = upd2 (upd2 m 54 5 (m 54 69)) 54 6 (m 54 70) := by
      apply row_ext; intro k i
      unfold undoRow row2 cpyR
      by_cases h1 : k = 61
      · subst h1; simp
      · by_cases h2 : k = 62
        · subst h2; simp
        · simp [h1, h2]
    rw [e, show ((0 : Nat) : Int) = 0 from rfl] at h
    simp (disch := decide) only [stf_s, nmv_s, u2n]
    exact h

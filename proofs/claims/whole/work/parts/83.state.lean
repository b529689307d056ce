/-! states of a crowd: how many words each has out -/
def fiv (w : Nat) : Nat := if w = 0 then 1 else if w = 1 then 5 else if w = 2 then 25 else 125
def dg (st w : Nat) : Nat := st / fiv w % 5
theorem dg_add : ∀ st, st < 625 → ∀ w, w < 4 → dg st w < 4 → st + fiv w < 625 ∧ ∀ v, v < 4 → dg (st + fiv w) v = if v = w then dg st v + 1 else dg st v := by decide +kernel
theorem dg_0 : ∀ w, w < 4 → dg 0 w = 0 := by decide
theorem dg_lt (st w : Nat) : dg st w < 5 := Nat.mod_lt _ (by decide)
theorem fives_s {w : Nat} (hw : w < 4) (m : Mm) : F_X12_fives (w : Int) m = some ((fiv w : Int), m) := by
  have h : w = 0 ∨ w = 1 ∨ w = 2 ∨ w = 3 := by omega
  rcases h with e | e | e | e <;> subst e <;> rfl
theorem saidBy_s {st w : Nat} (hs : st < 625) (hw : w < 4) (m : Mm) : F_X12_saidBy (st : Int) (w : Int) m = some ((dg st w : Int), m) := by
  have stp : ∀ (f k : Nat) (v : Nat), v < 625 → k < w → L_X12_saidBy_4 (f + 1) (w : Int) (v : Int) (k : Int) m = L_X12_saidBy_4 f (w : Int) ((v / 5 : Nat) : Int) ((k + 1 : Nat) : Int) m := by
    intro f k v hv hk
    show LB_X12_saidBy_4 (L_X12_saidBy_4 f) _ _ _ _ = _
    unfold LB_X12_saidBy_4
    rw [if_neg (by omega), dvn_s (by decide), nmv_s, nmv_s, tdiv_p (by omega), wr_s (x := (v : Int) / 5) (by omega), wr_s (by omega)]
    rfl
  have en : ∀ (f : Nat) (v : Nat), v < 625 → L_X12_saidBy_4 (f + 1) (w : Int) (v : Int) (w : Int) m = some (((v % 5 : Nat) : Int), m) := by
    intro f v hv
    show LB_X12_saidBy_4 (L_X12_saidBy_4 f) _ _ _ _ = _
    unfold LB_X12_saidBy_4
    rw [if_pos (by omega), dvn_s (by decide), tmod_p (by omega), wr_s (by omega)]
    rfl
  have h0 : F_X12_saidBy (st : Int) (w : Int) m = L_X12_saidBy_4 (99996 + 1 + 1 + 1 + 1) (w : Int) (st : Int) ((0 : Nat) : Int) m := by
    unfold F_X12_saidBy
    rw [nmv_s, nmv_s]
    rfl
  rw [h0]
  unfold dg fiv
  have h : w = 0 ∨ w = 1 ∨ w = 2 ∨ w = 3 := by omega
  rcases h with e | e | e | e
  · subst e
    rw [en _ _ hs]
    congr 3
    show st % 5 = st / 1 % 5
    omega
  · subst e
    rw [stp _ 0 st hs (by decide), en _ _ (by omega)]
    rfl
  · subst e
    rw [stp _ 0 st hs (by decide), stp _ 1 _ (by omega) (by decide), en _ _ (by omega)]
    congr 3
    show st / 5 / 5 % 5 = st / 25 % 5
    omega
  · subst e
    rw [stp _ 0 st hs (by decide), stp _ 1 _ (by omega) (by decide), stp _ 2 _ (by omega) (by decide), en _ _ (by omega)]
    congr 3
    show st / 5 / 5 / 5 % 5 = st / 125 % 5
    omega
/-- the crowd's sentences -/
def LnS (b : Mm) (M : Nat) (c : Nat → Int) (Ln : Nat → Nat) : Prop := ∀ w, w < M → (0 ≤ c w ∧ c w < 8) ∧ b 59 (c w).toNat = (Ln w : Int) ∧ Ln w ≤ 4
def dnB (Ln : Nat → Nat) (st : Nat) : Nat → Nat → Bool
  | 0, _ => true
  | k + 1, w => decide (dg st w = Ln w) && dnB Ln st k (w + 1)
def stB (Ln : Nat → Nat) (M st : Nat) : Nat → Nat → Bool
  | 0, _ => true
  | k + 1, w => decide (dg st w ≤ if w < M then Ln w else 0) && stB Ln M st k (w + 1)
theorem dnB_iff {Ln : Nat → Nat} {st : Nat} : ∀ k w, dnB Ln st k w = true ↔ ∀ v, w ≤ v → v < w + k → dg st v = Ln v := by
  intro k
  induction k with
  | zero => intro w; exact ⟨fun _ v h1 h2 => by omega, fun _ => rfl⟩
  | succ k ih =>
    intro w
    unfold dnB
    rw [Bool.and_eq_true, decide_eq_true_eq, ih (w + 1)]
    constructor
    · rintro ⟨z1, z2⟩ v h1 h2
      by_cases e : v = w
      · subst e; exact z1
      · exact z2 v (by omega) (by omega)
    · intro z
      exact ⟨z w (Nat.le_refl _) (by omega), fun v h1 h2 => z v (by omega) (by omega)⟩
theorem stB_iff {Ln : Nat → Nat} {M st : Nat} : ∀ k w, stB Ln M st k w = true ↔ ∀ v, w ≤ v → v < w + k → dg st v ≤ if v < M then Ln v else 0 := by
  intro k
  induction k with
  | zero => intro w; exact ⟨fun _ v h1 h2 => by omega, fun _ => rfl⟩
  | succ k ih =>
    intro w
    unfold stB
    rw [Bool.and_eq_true, decide_eq_true_eq, ih (w + 1)]
    constructor
    · rintro ⟨z1, z2⟩ v h1 h2
      by_cases e : v = w
      · subst e; exact z1
      · exact z2 v (by omega) (by omega)
    · intro z
      exact ⟨z w (Nat.le_refl _) (by omega), fun v h1 h2 => z v (by omega) (by omega)⟩
theorem isDone_l {G : Tg} {M st : Nat} {c : Nat → Int} {Ln : Nat → Nat} (hs : st < 625) {b : Mm} (hC : CwS b G M c) (hL : LnS b M c Ln) : ∀ (k w f : Nat), w + k = M → k < f → L_X12_isDone_2 f (st : Int) (w : Int) b = some (b01 (dnB Ln st k w), b) := by
  obtain ⟨hB, hM, h57, h84⟩ := hC
  intro k
  induction k with
  | zero =>
    intro w f hw hf
    obtain ⟨f', rfl⟩ : ∃ f', f = f' + 1 := ⟨f - 1, by omega⟩
    show LB_X12_isDone_2 (L_X12_isDone_2 f') _ _ _ = _
    unfold LB_X12_isDone_2
    rw [if_pos (by omega)]
    rfl
  | succ k ih =>
    intro w f hw hf
    obtain ⟨f', rfl⟩ : ∃ f', f = f' + 1 := ⟨f - 1, by omega⟩
    have hl := hL w (by omega)
    show LB_X12_isDone_2 (L_X12_isDone_2 f') _ _ _ = _
    unfold LB_X12_isDone_2 dnB
    rw [if_neg (by omega), saidBy_s hs (by omega), cll_s, ald_s (by omega), Int.toNat_natCast, h84 w (by omega), ald_s (by omega), hl.2.1]
    by_cases e : dg st w = Ln w
    · rw [if_pos (by omega), nmv_s, wr_s (by omega), decide_eq_true e, Bool.true_and]
      exact ih (w + 1) f' (by omega) (by omega)
    · rw [if_neg (by omega), decide_eq_false e, Bool.false_and]
      rfl
theorem isDone_s {G : Tg} {M st : Nat} {c : Nat → Int} {Ln : Nat → Nat} (hs : st < 625) {b : Mm} (hC : CwS b G M c) (hL : LnS b M c Ln) : F_X12_isDone (st : Int) b = some (b01 (dnB Ln st M 0), b) := by
  unfold F_X12_isDone
  rw [nmv_s]
  exact isDone_l hs hC hL M 0 100000 (by omega) (by have := hC.2.1; omega)
theorem isState_l {G : Tg} {M st : Nat} {c : Nat → Int} {Ln : Nat → Nat} (hs : st < 625) {b : Mm} (hC : CwS b G M c) (hL : LnS b M c Ln) : ∀ (k w f : Nat), w + k = 4 → k < f → L_X12_isState_2 f (st : Int) (w : Int) b = some (b01 (stB Ln M st k w), b) := by
  obtain ⟨hB, hM, h57, h84⟩ := hC
  intro k
  induction k with
  | zero =>
    intro w f hw hf
    obtain ⟨f', rfl⟩ : ∃ f', f = f' + 1 := ⟨f - 1, by omega⟩
    show LB_X12_isState_2 (L_X12_isState_2 f') _ _ _ = _
    unfold LB_X12_isState_2
    rw [if_pos (by omega)]
    rfl
  | succ k ih =>
    intro w f hw hf
    obtain ⟨f', rfl⟩ : ∃ f', f = f' + 1 := ⟨f - 1, by omega⟩
    show LB_X12_isState_2 (L_X12_isState_2 f') _ _ _ = _
    unfold LB_X12_isState_2 stB J_X12_isState_40
    rw [if_neg (by omega), saidBy_s hs (by omega), cll_s]
    by_cases hwM : w < M
    · have hl := hL w hwM
      rw [if_neg (by omega), ald_s (by omega), Int.toNat_natCast, h84 w hwM, ald_s (by omega), hl.2.1, if_pos hwM]
      by_cases e : dg st w ≤ Ln w
      · rw [if_pos (by omega), nmv_s, wr_s (by omega), decide_eq_true e, Bool.true_and]
        exact ih (w + 1) f' (by omega) (by omega)
      · rw [if_neg (by omega), decide_eq_false e, Bool.false_and]
        rfl
    · rw [if_pos (by omega), if_neg hwM]
      by_cases e : dg st w ≤ 0
      · rw [if_pos (by omega), nmv_s, wr_s (by omega), decide_eq_true e, Bool.true_and]
        exact ih (w + 1) f' (by omega) (by omega)
      · rw [if_neg (by omega), decide_eq_false e, Bool.false_and]
        rfl
theorem isState_s {G : Tg} {M st : Nat} {c : Nat → Int} {Ln : Nat → Nat} (hs : st < 625) {b : Mm} (hC : CwS b G M c) (hL : LnS b M c Ln) : F_X12_isState (st : Int) b = some (b01 (stB Ln M st 4 0), b) := by
  unfold F_X12_isState
  rw [nmv_s]
  exact isState_l hs hC hL 4 0 100000 (by omega) (by omega)
/-- whether one means its next word: by the table -/
def syB (G : Tg) (c : Nat → Int) (Ln : Nat → Nat) (D : Nat → Int) (st l p w g : Nat) : Bool := decide (dg st w < Ln w) && decide (tvM G c w g l p = D (4 * (c w).toNat + dg st w))
theorem says_s {G : Tg} {M st l p w g : Nat} {c : Nat → Int} {Ln : Nat → Nat} (hs : st < 625) {b : Mm} (hC : CwS b G M c) (hL : LnS b M c Ln) (hT : TbM b G c M 9680) (ho : okM M w g l p) : F_X12_says (st : Int) (l : Int) (p : Int) (w : Int) (g : Int) b = some (b01 (syB G c Ln (b 60) st l p w g), b) := by
  obtain ⟨hB, hM, h57, h84⟩ := hC
  have ho' := ho
  unfold okM at ho'
  have hl := hL w (by omega)
  obtain ⟨q1, q2⟩ := plM_s (w := w) (g := g) (l := l) (p := p) (by omega) (by omega) (by omega) (by omega) b
  unfold F_X12_says syB
  rw [saidBy_s hs (by omega), cll_s, nmv_s, ald_s (by omega), Int.toNat_natCast, h84 w (by omega), ald_s (by omega), hl.2.1]
  by_cases e : dg st w < Ln w
  · have hd := dg_lt st w
    rw [if_neg (by omega), q1, cll_s, ald_s (by omega), Int.toNat_natCast, hT w g l p ho q2, ald_s (by omega), Int.toNat_natCast, h84 w (by omega), wr_s (x := 4 * c w) (by omega), wr_s (by omega), ald_s (by omega), decide_eq_true e, Bool.true_and, show (4 * c w + (dg st w : Int)).toNat = 4 * (c w).toNat + dg st w by omega]
    by_cases e2 : tvM G c w g l p = b 60 (4 * (c w).toNat + dg st w)
    · rw [if_neg (fun z => z e2), decide_eq_true e2]; rfl
    · rw [if_pos e2, decide_eq_false e2]; rfl
  · rw [if_pos (by omega), decide_eq_false e, Bool.false_and]; rfl
theorem soonPlace_s {st l p : Nat} (hs : st < 625) (hl : l < 5) (hp : p < 22) (m : Mm) : F_X12_soonPlace (st : Int) (l : Int) (p : Int) m = some ((((st * 5 + l) * 22 + p : Nat) : Int), m) ∧ (st * 5 + l) * 22 + p < 68750 := by
  constructor
  · unfold F_X12_soonPlace
    rw [wr_s (x := (st : Int) * 5) (by omega), wr_s (x := (st : Int) * 5 + l) (by omega), wr_s (x := ((st : Int) * 5 + l) * 22) (by omega), wr_s (by omega)]
    congr 2
  · omega
theorem costOf_s (g : Nat) (m : Mm) : F_X12_costOf (g : Int) m = some (if g = 21 then 0 else (g : Int), m) := by
  unfold F_X12_costOf
  by_cases h : g = 21
  · rw [if_neg (by omega), if_pos h]
  · rw [if_pos (by omega), if_neg h]

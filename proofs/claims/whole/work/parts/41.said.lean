/-! said -/
abbrev noDr (a : Mm) (e : Int) (s i : Nat) (j : Nat) : Prop := ∀ l : Nat, l < s → j ≤ l → ¬ (arA a e l = arA a e i ∧ nearR (a 2) (a 3) e (a 10 l) (a 10 i))
theorem noDr_step {a : Mm} {e : Int} {s i j : Nat} (h : j < s) : noDr a e s i j ↔ (¬ (arA a e j = arA a e i ∧ nearR (a 2) (a 3) e (a 10 j) (a 10 i)) ∧ noDr a e s i (j + 1)) := by
  constructor
  · intro g; exact ⟨g j h (Nat.le_refl _), fun l h1 h2 => g l h1 (by omega)⟩
  · intro g l h1 h2
    by_cases c : l = j
    · subst c; exact g.1
    · exact g.2 l h1 (by omega)
theorem drown_l {a : Mm} (hP : PpA a) (hS : SpA a) {e : Int} (he : 0 ≤ e ∧ e < a 1 5) {s i : Nat} (hs : a 9 4 = s) (hi : i < s) : ∀ k j : Nat, j + k = s → ∀ f, k < f → L_X3_drowned_10 f e (i : Int) (arA a e i) (j : Int) a = some (b2i (¬ noDr a e s i j), a) := by
  intro k
  induction k with
  | zero =>
    intro j hj f hf
    obtain ⟨f', rfl⟩ : ∃ f', f = f' + 1 := ⟨f - 1, by omega⟩
    show LB_X3_drowned_10 (L_X3_drowned_10 f') _ _ _ _ _ = _
    unfold LB_X3_drowned_10
    rw [if_pos (by omega), b2i_f (fun z => z (fun l h1 h2 => by omega))]
  | succ k ih =>
    intro j hj f hf
    obtain ⟨f', rfl⟩ : ∃ f', f = f' + 1 := ⟨f - 1, by omega⟩
    show LB_X3_drowned_10 (L_X3_drowned_10 f') _ _ _ _ _ = _
    unfold LB_X3_drowned_10 J_X3_drowned_60
    have h150 := hS.1
    have g := noDr_step (a := a) (e := e) (s := s) (i := i) (j := j) (by omega)
    have x := ih (j + 1) (by omega) f' (by omega)
    rw [show ((j + 1 : Nat) : Int) = (j : Int) + 1 by omega] at x
    simp only [nmv_s]
    rw [if_neg (by omega), arrival_s hP hS he (by omega), cll_s, wr_s (by omega)]
    have eb : noDr a e s i (j + 1) → ¬ (arA a e j = arA a e i ∧ nearR (a 2) (a 3) e (a 10 j) (a 10 i)) → b2i (¬ noDr a e s i (j + 1)) = b2i (¬ noDr a e s i j) := by
      intro h1 h2
      rw [b2i_f (fun z => z h1), b2i_f (fun z => z (g.mpr ⟨h2, h1⟩))]
    have en : ¬ (arA a e j = arA a e i ∧ nearR (a 2) (a 3) e (a 10 j) (a 10 i)) → b2i (¬ noDr a e s i (j + 1)) = b2i (¬ noDr a e s i j) := by
      intro h2
      by_cases h1 : noDr a e s i (j + 1)
      · exact eb h1 h2
      · have h3 : ¬ noDr a e s i j := fun z => h1 (g.mp z).2
        rw [b2i_t h1, b2i_t h3]
    by_cases c1 : arA a e j = arA a e i
    · rw [if_neg (by simp [c1]), whoA_s hS (by omega), cll_s, whoA_s hS (by omega), cll_s, nearer_s hP he (hS.2 j (by omega)).1 (hS.2 i (by omega)).1, cll_s, ib0]
      by_cases c2 : nearR (a 2) (a 3) e (a 10 j) (a 10 i)
      · have h3 : ¬ noDr a e s i j := fun z => (g.mp z).1 ⟨c1, c2⟩
        rw [if_pos c2, b2i_t h3]
      · rw [if_neg c2, x, en (fun z => c2 z.2)]
    · rw [if_pos c1, x, en (fun z => c1 z.1)]
theorem drowned_s {a : Mm} (hP : PpA a) (hS : SpA a) {e : Int} (he : 0 ≤ e ∧ e < a 1 5) {s i : Nat} (hs : a 9 4 = s) (hi : i < s) : F_X3_drowned e (i : Int) a = some (b2i (¬ noDr a e s i 0), a) := by
  have h150 := hS.1
  have h := drown_l hP hS he hs hi s 0 (by omega) 100000 (by omega)
  rw [show ((0 : Nat) : Int) = 0 from rfl] at h
  unfold F_X3_drowned
  rw [arrival_s hP hS he (by omega), cll_s, nmv_s, nmv_s, h]
abbrev hrdP (a : Mm) (s i : Nat) : Nat → Prop := fun e => wayR (a 2) (a 3) (e : Int) (a 10 i) ≤ a 1 6 ∧ noDr a (e : Int) s i 0
theorem ears_l {a : Mm} (hP : PpA a) (hS : SpA a) {n s i : Nat} (hn : a 1 5 = n) (hs : a 9 4 = s) (hi : i < s) : ∀ k e : Nat, e + k = n → ∀ f, k < f → L_X3_earsOf_4 f (i : Int) (cntP (hrdP a s i) e) (e : Int) a = some (cntP (hrdP a s i) n, a) := by
  intro k
  induction k with
  | zero =>
    intro e he f hf
    obtain ⟨f', rfl⟩ : ∃ f', f = f' + 1 := ⟨f - 1, by omega⟩
    show LB_X3_earsOf_4 (L_X3_earsOf_4 f') _ _ _ _ = _
    unfold LB_X3_earsOf_4
    rw [if_pos (by omega), show e = n by omega]
  | succ k ih =>
    intro e he f hf
    obtain ⟨f', rfl⟩ : ∃ f', f = f' + 1 := ⟨f - 1, by omega⟩
    show LB_X3_earsOf_4 (L_X3_earsOf_4 f') _ _ _ _ = _
    unfold LB_X3_earsOf_4 J_X3_earsOf_46
    have h8 := hP.1
    have x := ih (e + 1) (by omega) f' (by omega)
    have hb := cntP_b (hrdP a s i) e
    rw [show ((e + 1 : Nat) : Int) = (e : Int) + 1 by omega, cntP_s] at x
    simp only [nmv_s]
    rw [if_neg (by omega), whoA_s hS (by omega), cll_s, reaches_s hP (by omega) (hS.2 i (by omega)).1, cll_s, ib0, wr_s (x := (e : Int) + 1) (by omega), wr_s (by omega)]
    by_cases c1 : wayR (a 2) (a 3) (e : Int) (a 10 i) ≤ a 1 6
    · rw [if_pos c1, drowned_s hP hS (by omega) hs hi, cll_s, ibn]
      by_cases c2 : noDr a (e : Int) s i 0
      · rw [if_pos (show hrdP a s i e from ⟨c1, c2⟩)] at x
        rw [if_neg (fun z => z c2)]; exact x
      · rw [if_neg (show ¬ hrdP a s i e from fun z => c2 z.2), Int.add_zero] at x
        rw [if_pos c2]; exact x
    · rw [if_neg (show ¬ hrdP a s i e from fun z => c1 z.1), Int.add_zero] at x
      rw [if_neg c1]; exact x
theorem ears_s {a : Mm} (hP : PpA a) (hS : SpA a) {n s i : Nat} (hn : a 1 5 = n) (hs : a 9 4 = s) (hi : i < s) : F_X3_earsOf (i : Int) a = some (cntP (hrdP a s i) n, a) := by
  have h8 := hP.1
  have h := ears_l hP hS hn hs hi n 0 (by omega) 100000 (by omega)
  rw [show ((0 : Nat) : Int) = 0 from rfl, show cntP (hrdP a s i) 0 = 0 from rfl] at h
  unfold F_X3_earsOf
  rw [nmv_s, nmv_s, h]
theorem hrd_in {a : Mm} (hP : PpA a) (hS : SpA a) {e : Nat} (he : (e : Int) < a 1 5) {s i : Nat} (hs : a 9 4 = s) (hi : i < s) : hrdP a s i e ↔ InH (hrA a (e : Int) s) (arA a (e : Int) i) (a 10 i) := by
  rw [(hr_best hP hS (ear := (e : Int)) ⟨by omega, he⟩ s (by omega)).1]
  constructor
  · rintro ⟨h1, h2⟩
    exact ⟨⟨i, hi, h1, rfl, rfl⟩, fun j hj _ h3 h4 => h2 j hj (Nat.zero_le _) ⟨h3, h4⟩⟩
  · rintro ⟨⟨j, j1, j2, j3, j4⟩, h2⟩
    have hr : wayR (a 2) (a 3) (e : Int) (a 10 i) ≤ a 1 6 := by rw [← j4]; exact j2
    refine ⟨hr, fun l hl _ h3 => h2 l hl ?_ h3.1 h3.2⟩
    have h4 := h3.2
    unfold nearR at h4
    unfold rch
    omega
abbrev eqH (h : Hs) (t w : Int) : Nat → Prop := fun k => h.2.2 k = w ∧ h.2.1 k = t
theorem eqH_c {h : Hs} (hs : srt h.1 h.2.1) (t w : Int) : ∀ n : Nat, n ≤ h.1 → ((∃ k, k < n ∧ eqH h t w k) → cntP (eqH h t w) n = 1) ∧ ((¬ ∃ k, k < n ∧ eqH h t w k) → cntP (eqH h t w) n = 0) := by
  intro n
  induction n with
  | zero => intro _; exact ⟨fun ⟨k, hk, _⟩ => absurd hk (Nat.not_lt_zero _), fun _ => rfl⟩
  | succ n ih =>
    intro hn
    obtain ⟨i1, i2⟩ := ih (by omega)
    rw [cntP_s]
    by_cases c : eqH h t w n
    · have hno : ¬ ∃ k, k < n ∧ eqH h t w k := by
        rintro ⟨k, k1, k2⟩
        have := hs k n k1 (by omega)
        have := k2.2
        have := c.2
        omega
      rw [if_pos c, i2 hno]
      exact ⟨fun _ => rfl, fun z => absurd ⟨n, by omega, c⟩ z⟩
    · rw [if_neg c, Int.add_zero]
      constructor
      · rintro ⟨k, k1, k2⟩
        have : k ≠ n := by intro z; subst z; exact c k2
        exact i1 ⟨k, by omega, k2⟩
      · intro z
        exact i2 (fun ⟨k, k1, k2⟩ => z ⟨k, by omega, k2⟩)
theorem said104 {m : Mm} {h : Hs} {t e : Int} {i : Nat} (K : Int → Int → Int → Mm → Rs) (hI : HsIn (m 54 48) (m 78) (m 79) h) (h150 : h.1 ≤ 150) (hi : i < 150) (he : 0 ≤ e ∧ e < 8) {c0 : Int} (hc : 0 ≤ c0 ∧ c0 ≤ 2000) : ∀ d k : Nat, k + d = h.1 → ∀ f, d < f → L_X12_said_104 K f (i : Int) (c0 + cntP (eqH h t (m 61 i)) k) e t (k : Int) m = K (i : Int) (c0 + cntP (eqH h t (m 61 i)) h.1) (e + 1) m := by
  intro d
  induction d with
  | zero =>
    intro k hk f hf
    obtain ⟨f', rfl⟩ : ∃ f', f = f' + 1 := ⟨f - 1, by omega⟩
    show LB_X12_said_104 K (L_X12_said_104 K f') _ _ _ _ _ _ = _
    unfold LB_X12_said_104
    have := hI.1
    rw [if_pos (by omega), nmv_s, wr_s (by omega), show k = h.1 by omega]
  | succ d ih =>
    intro k hk f hf
    obtain ⟨f', rfl⟩ : ∃ f', f = f' + 1 := ⟨f - 1, by omega⟩
    show LB_X12_said_104 K (L_X12_said_104 K f') _ _ _ _ _ _ = _
    unfold LB_X12_said_104 J_X12_said_149
    have h1 := hI.1
    have hb := cntP_b (eqH h t (m 61 i)) k
    have x := ih (k + 1) (by omega) f' (by omega)
    rw [show ((k + 1 : Nat) : Int) = (k : Int) + 1 by omega, cntP_s] at x
    simp only [nmv_s]
    rw [if_neg (by omega), ald_s (by omega), ald_s (by omega), ald_s (by omega), Int.toNat_natCast, Int.toNat_natCast, (hI.2 k (by omega)).1, (hI.2 k (by omega)).2, wr_s (x := (k : Int) + 1) (by omega), wr_s (x := c0 + cntP (eqH h t (m 61 i)) k + 0) (by omega), wr_s (x := c0 + cntP (eqH h t (m 61 i)) k + 1) (by omega)]
    rw [← Int.add_assoc] at x
    by_cases c1 : h.2.2 k = m 61 i
    · by_cases c2 : h.2.1 k = t
      · rw [if_pos (show eqH h t (m 61 i) k from ⟨c1, c2⟩)] at x
        rw [if_neg (by simp [c1]), if_neg (by simp [c2])]; exact x
      · rw [if_neg (show ¬ eqH h t (m 61 i) k from fun z => c2 z.2)] at x
        rw [if_neg (by simp [c1]), if_pos c2]; exact x
    · rw [if_neg (show ¬ eqH h t (m 61 i) k from fun z => c1 z.1)] at x
      rw [if_pos c1]; exact x

/-! read, whole -/
def InvD (a : Mm) : Prop := ∃ cr ca : Nat, isRw cr ∧ isRw ca ∧ cr ≠ ca ∧ a 34 8 = (cr : Int) ∧ a 34 9 = (ca : Int)
def rdA (what : Int) (m3 : Mm) : Rs := if ¬ what = (-1) then cll (F_X5_whoMay what m3) (fun r5 m6 => some (r5, m6)) else cll (F_X5_howManyRows m3) (fun r7 m8 => some (r7, m8))
theorem rd102 {G : Tg} {N n L0 : Nat} {ear lg rg what : Int} {wy gp tl : Nat → Int} : ∀ (k i : Nat) (a : Mm) (cr ca f : Nat), i + k = n → RdS a G N n ear lg rg wy gp tl cr ca → (∀ v, v < 9 → a cr v = Aw (ftB G wy rg ear gp tl lg) N L0 i v) → (∀ j, j < i → MayO a (ftB G wy rg ear gp tl lg) N L0 j ∧ FolO a (ftB G wy rg ear gp tl lg) N L0 j) → k < f →
    ∃ a' cr' ca', L_X11_read_102 f (n : Int) what (i : Int) a = cll (F_X5_keepWhatGoesOn a') (fun r2 m3 => rdA what m3) ∧ RdS a' G N n ear lg rg wy gp tl cr' ca' ∧ (∀ v, v < 9 → a' cr' v = Aw (ftB G wy rg ear gp tl lg) N L0 n v) ∧ (∀ j, j < n → MayO a' (ftB G wy rg ear gp tl lg) N L0 j ∧ FolO a' (ftB G wy rg ear gp tl lg) N L0 j) ∧ Fr sGr a a' := by
  intro k
  induction k with
  | zero =>
    intro i a cr ca f hi hR hA hM hf
    obtain ⟨f', rfl⟩ : ∃ f', f = f' + 1 := ⟨f - 1, by omega⟩
    have e : i = n := by omega
    subst e
    refine ⟨a, cr, ca, ?_, hR, hA, hM, Fr.refl _ _⟩
    show LB_X11_read_102 (L_X11_read_102 f') _ _ _ _ = _
    unfold LB_X11_read_102
    rw [if_pos (by omega)]
    rfl
  | succ k ih =>
    intro i a cr ca f hi hR hA hM hf
    obtain ⟨f', rfl⟩ : ∃ f', f = f' + 1 := ⟨f - 1, by omega⟩
    have h12 := hR.2.1.2.2.2
    obtain ⟨a1, e1, e2, e3, e4, e5, e6, e7, e8⟩ := goOn_s (L0 := L0) (show i < n by omega) hR hA
    obtain ⟨a2, cr', ca', r1, r2, r3, r4, r5⟩ := ih (i + 1) a1 ca cr f' (by omega) e2 e3 (fun j hj => by
      by_cases e : j = i
      · subst e; exact ⟨e4, e5⟩
      · exact ⟨(hM j (by omega)).1.of (e6 j e), (hM j (by omega)).2.of (show j < i by omega) e7⟩) (by omega)
    refine ⟨a2, cr', ca', ?_, r2, r3, r4, e8.trans r5⟩
    rw [← r1]
    show LB_X11_read_102 (L_X11_read_102 f') _ _ _ _ = _
    unfold LB_X11_read_102
    rw [if_neg (by omega), e1, cll_s, nmv_s, wr_s (by omega)]
    rfl
theorem cp57 {n : Nat} {T : Nat → Int} {ear what : Int} (hn : n ≤ 12) : ∀ (k i : Nat) (b : Mm) (f : Nat), i + k = n → (∀ j, j < 2 * n → iand (b 55 j) 255 = T j) → (∀ j, j < i → b 80 j = T (2 * j) ∧ b 81 j = T (2 * j + 1)) → k < f → ∃ b', L_X12_read_57 f ear (n : Int) what (i : Int) b = L_X12_read_104 100000 ear (n : Int) what ((0 : Nat) : Int) b' ∧ (∀ j, j < n → b' 80 j = T (2 * j) ∧ b' 81 j = T (2 * j + 1)) ∧ (∀ c, c ≠ 80 → c ≠ 81 → b' c = b c) := by
  intro k
  induction k with
  | zero =>
    intro i b f hi hT hj hf
    obtain ⟨f', rfl⟩ : ∃ f', f = f' + 1 := ⟨f - 1, by omega⟩
    refine ⟨b, ?_, fun j h => hj j (by omega), fun _ _ _ => rfl⟩
    show LB_X12_read_57 (L_X12_read_57 f') _ _ _ _ _ = _
    unfold LB_X12_read_57
    rw [if_pos (by omega), nmv_s]
    rfl
  | succ k ih =>
    intro i b f hi hT hj hf
    obtain ⟨f', rfl⟩ : ∃ f', f = f' + 1 := ⟨f - 1, by omega⟩
    obtain ⟨b', r1, r2, r3⟩ := ih (i + 1) (upd2 (upd2 b 80 i (T (2 * i))) 81 i (T (2 * i + 1))) f' (by omega) (by rw [u2r (by decide), u2r (by decide)]; exact hT) (fun j h => by
      rw [u2r (show 80 ≠ 81 by decide)]
      by_cases e : j = i
      · subst e; rw [u2s, u2s]; exact ⟨rfl, rfl⟩
      · rw [u2n e, u2n e, u2r (by decide)]; exact hj j (by omega)) (by omega)
    refine ⟨b', ?_, r2, fun c h1 h2 => (r3 c h1 h2).trans ((u2r h2).trans (u2r h1))⟩
    rw [← r1]
    show LB_X12_read_57 (L_X12_read_57 f') _ _ _ _ _ = _
    unfold LB_X12_read_57 F_X12_byteAt
    rw [if_neg (by omega), wr_s (x := 2 * (i : Int)) (by omega), ald_s (by omega), cll_s, ast_s (by omega), wr_s (x := 2 * (i : Int) + 1) (by omega), ald_s (by omega), cll_s, ast_s (by omega), nmv_s, Int.toNat_natCast, wr_s (by omega), u2r (by decide), show (2 * (i : Int)).toNat = 2 * i by omega, show (2 * (i : Int) + 1).toNat = 2 * i + 1 by omega, hT _ (by omega), hT _ (by omega)]
    rfl
theorem ck104 {n : Nat} {ear what : Int} (hn : n ≤ 12) : ∀ (k i : Nat) (b : Mm) (f : Nat), i + k = n → k < f → ((∀ j, i ≤ j → j < n → (1 ≤ b 80 j ∧ b 80 j ≤ 63) ∧ 0 ≤ b 81 j ∧ b 81 j ≤ 32) ∧ L_X12_read_104 f ear (n : Int) what (i : Int) b = cll (F_X12_laysLast ear b) (fun r2 m3 => L_X12_read_164 100000 ear (n : Int) what ((0 : Nat) : Int) m3)) ∨ ((∃ j, j < n ∧ ¬ ((1 ≤ b 80 j ∧ b 80 j ≤ 63) ∧ 0 ≤ b 81 j ∧ b 81 j ≤ 32)) ∧ L_X12_read_104 f ear (n : Int) what (i : Int) b = some (-2, b)) := by
  intro k
  induction k with
  | zero =>
    intro i b f hi hf
    obtain ⟨f', rfl⟩ : ∃ f', f = f' + 1 := ⟨f - 1, by omega⟩
    refine Or.inl ⟨fun j h1 h2 => absurd h1 (by omega), ?_⟩
    show LB_X12_read_104 (L_X12_read_104 f') _ _ _ _ _ = _
    unfold LB_X12_read_104
    rw [if_pos (by omega)]
    simp only [nmv_s]
    rfl
  | succ k ih =>
    intro i b f hi hf
    obtain ⟨f', rfl⟩ : ∃ f', f = f' + 1 := ⟨f - 1, by omega⟩
    have hst : L_X12_read_104 (f' + 1) ear (n : Int) what (i : Int) b = if (1 ≤ b 80 i ∧ b 80 i ≤ 63) ∧ 0 ≤ b 81 i ∧ b 81 i ≤ 32 then L_X12_read_104 f' ear (n : Int) what ((i + 1 : Nat) : Int) b else some (-2, b) := by
      show LB_X12_read_104 (L_X12_read_104 f') _ _ _ _ _ = _
      unfold LB_X12_read_104
      rw [if_neg (by omega), ald_s (by omega), Int.toNat_natCast, lies_s, cll_s, ib0]
      by_cases h1 : 1 ≤ b 80 i ∧ b 80 i ≤ 63
      · rw [if_pos h1, ald_s (by omega), Int.toNat_natCast, lies_s, cll_s, ibn]
        by_cases h2 : 0 ≤ b 81 i ∧ b 81 i ≤ 32
        · rw [if_pos h2, if_pos ⟨h1, h2⟩, nmv_s, wr_s (by omega)]
          rfl
        · rw [if_neg h2, if_neg (fun z => h2 z.2)]
      · rw [if_neg h1, if_neg (fun z => h1 z.1)]
    rw [hst]
    by_cases hc : (1 ≤ b 80 i ∧ b 80 i ≤ 63) ∧ 0 ≤ b 81 i ∧ b 81 i ≤ 32
    · rw [if_pos hc]
      rcases ih (i + 1) b f' (by omega) (by omega) with ⟨z1, z2⟩ | z
      · refine Or.inl ⟨fun j h1 h2 => ?_, z2⟩
        by_cases e : j = i
        · subst e; exact hc
        · exact z1 j (by omega) h2
      · exact Or.inr z
    · rw [if_neg hc]
      exact Or.inr ⟨⟨i, by omega, hc⟩, rfl⟩
def sRd (k i : Nat) : Bool := sM k i || sL k i || (decide (34 ≤ k) && decide (k ≤ 42)) || (k == 7 && i == 1)
def sRe (k i : Nat) : Bool := sN k i || sHb k i || (decide (80 ≤ k) && decide (k ≤ 83)) || (k == 54 && (i == 1 || i == 55 || i == 56))
theorem toRd {S : Nat → Nat → Bool} {m m' : Mm} (h : Fr S m m') (hs : ∀ k i, sRd k i = false → S k i = false) : Fr sRd m m' := h.mono hs
theorem toRe {S : Nat → Nat → Bool} {m m' : Mm} (h : Fr S m m') (hs : ∀ k i, sRe k i = false → S k i = false) : Fr sRe m m' := h.mono hs
theorem GA.frRd {m m' : Mm} {G : Tg} (h : GA m G) (hf : Fr sRd m m') : GA m' G := by
  refine h.fr (hf 17 3 rfl) (fun k i h1 h2 => hf k i ?_)
  unfold sRd sM sL sH
  simp only [Bool.or_eq_false_iff, Bool.and_eq_false_iff, beq_eq_false_iff_ne, decide_eq_false_iff_not]
  omega
theorem GB.frRe {m m' : Mm} {G : Tg} (h : GB m G) (hf : Fr sRe m m') : GB m' G := by
  refine h.fr (hf 54 14 rfl) (fun k i h1 h2 => hf k i ?_)
  unfold sRe sN sHb
  simp only [Bool.or_eq_false_iff, Bool.and_eq_false_iff, beq_eq_false_iff_ne, decide_eq_false_iff_not]
  omega
theorem Re_Gr {k i : Nat} (e : sRd k i = false) : sGr k i = false := by
  unfold sRd at e
  unfold sGr sGo
  simp only [Bool.or_eq_false_iff, Bool.and_eq_false_iff, beq_eq_false_iff_ne, decide_eq_false_iff_not] at e ⊢
  exact ⟨⟨⟨⟨⟨e.1.1.1, by omega⟩, by omega⟩, by omega⟩, by omega⟩, by omega⟩
theorem Re_Bg {k i : Nat} (e : sRd k i = false) : sBg k i = false := by
  unfold sRd at e
  unfold sBg
  simp only [Bool.or_eq_false_iff, Bool.and_eq_false_iff, beq_eq_false_iff_ne, decide_eq_false_iff_not] at e ⊢
  omega
theorem Re_L {k i : Nat} (e : sRd k i = false) : sL k i = false := by
  unfold sRd at e
  simp only [Bool.or_eq_false_iff] at e
  exact e.1.1.2
theorem Re_M {k i : Nat} (e : sRd k i = false) : sM k i = false := by
  unfold sRd at e
  simp only [Bool.or_eq_false_iff] at e
  exact e.1.1.1
theorem Re_Ll {k i : Nat} (e : sRe k i = false) : sLl k i = false := by
  unfold sRe at e
  unfold sLl
  simp only [Bool.or_eq_false_iff, Bool.and_eq_false_iff, beq_eq_false_iff_ne, decide_eq_false_iff_not] at e ⊢
  exact ⟨e.1.1.2, by omega⟩
theorem Re_Fw {k i : Nat} (e : sRe k i = false) : sFw k i = false := by
  unfold sRe at e
  unfold sFw
  simp only [Bool.or_eq_false_iff, Bool.and_eq_false_iff, beq_eq_false_iff_ne, decide_eq_false_iff_not] at e ⊢
  exact ⟨⟨e.1.1.1, by omega⟩, by omega⟩

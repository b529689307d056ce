/-! pure facts: what the words of the methods' functions do -/
def b2i (p : Prop) [Decidable p] : Int := if p then 1 else 0
theorem b2i_t {p : Prop} [Decidable p] (h : p) : b2i p = 1 := if_pos h
theorem b2i_f {p : Prop} [Decidable p] (h : ¬ p) : b2i p = 0 := if_neg h
theorem b2i_0 {p : Prop} [Decidable p] : (b2i p = 0) = ¬ p := by
  unfold b2i; split <;> simp_all
theorem cll_s (r : Int) (m : Mm) (K : Int → Mm → Rs) : cll (some (r, m)) K = K r m := Eq.trans rfl rfl
theorem nmv_s (v : Int) (K : Int → Rs) : nmv v K = K v := Eq.trans rfl rfl
theorem stf_s (m : Mm) (c i : Nat) (v : Int) (K : Mm → Rs) : stf m c i v K = K (upd2 m c i v) := Eq.trans rfl rfl
theorem ald_s {m : Mm} {a n : Nat} {i : Int} {K : Int → Rs} (h : 0 ≤ i ∧ i < (n : Int)) : ald m a n i K = K (m a i.toNat) := if_pos h
theorem ast_s {m : Mm} {a n : Nat} {i v : Int} {K : Mm → Rs} (h : 0 ≤ i ∧ i < (n : Int)) : ast m a n i v K = K (upd2 m a i.toNat v) := if_pos h
theorem dvn_s {y : Int} {K : Rs} (h : ¬ y = 0) : dvn y K = K := if_neg h
theorem grd_s {c : Prop} [Decidable c] {K : Rs} (h : c) : grd c K = K := if_pos h
theorem wr_s {x : Int} (h : -2147483648 ≤ x ∧ x ≤ 2147483647) : wr x = x := wr_id h
theorem u2r {m : Mm} {c i k : Nat} {v : Int} (h : k ≠ c) : upd2 m c i v k = m k := u2_ne m i v h
theorem u2n {m : Mm} {c i j : Nat} {v : Int} (h : j ≠ i) : upd2 m c i v c j = m c j := by rw [u2_row]; unfold upr; rw [if_neg h]
theorem u2s (m : Mm) (c i : Nat) (v : Int) : upd2 m c i v c i = v := u2_same m c i v
theorem within_s (a l h : Int) (m : Mm) : F_X11_within a l h m = some (b2i (l ≤ a ∧ a ≤ h), m) := by
  unfold F_X11_within b2i
  by_cases h1 : a < l
  · rw [if_pos h1, if_neg (by omega)]
  · rw [if_neg h1]
    by_cases h2 : h < a
    · rw [if_pos h2, if_neg (by omega)]
    · rw [if_neg h2, if_pos (by omega)]
theorem lies_s (a l h : Int) (m : Mm) : F_X12_lies a l h m = some (b2i (l ≤ a ∧ a ≤ h), m) := by
  unfold F_X12_lies b2i lcmp
  by_cases h1 : a < l
  · rw [if_pos (by rw [if_pos h1]; decide), if_neg (by omega)]
  · rw [if_neg (by rw [if_neg h1]; split <;> decide)]
    by_cases h2 : h < a
    · rw [if_pos (by rw [if_neg (by omega), if_neg (by omega)]; decide), if_neg (by omega)]
    · rw [if_neg (by split <;> (try split) <;> omega), if_pos (by omega)]
theorem has_s (a : Int) (m : Mm) : F_X4_has a m = some (b2i (0 ≤ a ∧ a < m 1 5), m) := by
  unfold F_X4_has b2i
  by_cases h1 : a < 0
  · rw [if_pos h1, if_neg (by omega)]
  · rw [if_neg h1]
    by_cases h2 : m 1 5 ≤ a
    · rw [if_pos h2, if_neg (by omega)]
    · rw [if_neg h2, if_pos (by omega)]
theorem isMouth_s (a : Int) (m : Mm) (h : 0 ≤ m 54 2 ∧ m 54 2 ≤ 8) : F_X12_isMouth a m = some (b2i (0 ≤ a ∧ a < m 54 2), m) := by
  unfold F_X12_isMouth
  rw [lies_s, cll_s, wr_s (by omega)]
  congr 2
  unfold b2i
  by_cases h1 : 0 ≤ a ∧ a < m 54 2
  · rw [if_pos h1, if_pos (by omega)]
  · rw [if_neg h1, if_neg (by omega)]
theorem max_s (a b : Int) (m : Mm) : F_J9_max_7cf53 a b m = some (max a b, m) := by
  unfold F_J9_max_7cf53
  by_cases h : a < b
  · rw [if_pos h, Int.max_eq_right (by omega)]
  · rw [if_neg h, Int.max_eq_left (by omega)]
theorem min_s (a b : Int) (m : Mm) : F_J9_min_7cf53 a b m = some (min a b, m) := by
  unfold F_J9_min_7cf53
  by_cases h : b < a
  · rw [if_pos h, Int.min_eq_right (by omega)]
  · rw [if_neg h, Int.min_eq_left (by omega)]
def iabs (a : Int) : Int := if 0 ≤ a then a else -a
theorem abs_s (a : Int) (m : Mm) (h : -2147483647 ≤ a ∧ a ≤ 2147483647) : F_J9_abs_0f7a4 a m = some (iabs a, m) := by
  unfold F_J9_abs_0f7a4 iabs
  split
  · rfl
  · rw [wr_s (by omega)]
theorem size_s (a : Int) (m : Mm) (h : -2147483647 ≤ a ∧ a ≤ 2147483647) : F_X12_size a m = some (iabs a, m) := by
  unfold F_X12_size iabs
  split
  · rfl
  · rw [wr_s (by omega)]
/-! people: places, the way -/
/-- the class's and the reference's people are the same -/
def IvP (n rg sp : Int) (x y th ln wd : Nat → Int) (n' rg' sp' : Int) (x' y' th' ln' wd' : Nat → Int) : Prop :=
  (n' = n ∧ rg' = rg ∧ sp' = sp ∧ 0 ≤ n ∧ n ≤ 8 ∧ 0 ≤ rg ∧ rg ≤ 200 ∧ 1 ≤ sp ∧ sp ≤ 100) ∧
  (∀ i : Nat, (i : Int) < n → (x' i = x i ∧ y' i = y i ∧ th' i = th i ∧ ln' i = ln i) ∧ (-50 ≤ x i ∧ x i ≤ 50 ∧ -50 ≤ y i ∧ y i ≤ 50) ∧ (0 ≤ th i ∧ th i ≤ 1000) ∧ 0 ≤ ln i ∧ ln i ≤ 4) ∧
  (∀ i : Nat, n ≤ (i : Int) → i < 8 → ln i = 0 ∧ ln' i = 0) ∧
  (∀ i j : Nat, (i : Int) < n → (j : Int) < ln i → wd' (4 * i + j) = wd (4 * i + j) ∧ 1 ≤ wd (4 * i + j) ∧ wd (4 * i + j) ≤ 31)
def InvP (a b : Mm) : Prop := IvP (a 1 5) (a 1 6) (a 1 7) (a 2) (a 3) (a 4) (a 5) (a 6) (b 54 2) (b 54 3) (b 54 4) (b 56) (b 57) (b 58) (b 59) (b 60)
/-- what of the class's memory makes its people good -/
def PpA (m : Mm) : Prop := (0 ≤ m 1 5 ∧ m 1 5 ≤ 8 ∧ 0 ≤ m 1 6 ∧ m 1 6 ≤ 200 ∧ 1 ≤ m 1 7 ∧ m 1 7 ≤ 100) ∧ ∀ i : Nat, (i : Int) < m 1 5 → (-50 ≤ m 2 i ∧ m 2 i ≤ 50 ∧ -50 ≤ m 3 i ∧ m 3 i ≤ 50) ∧ 0 ≤ m 5 i ∧ m 5 i ≤ 4
theorem InvP.A {a b : Mm} (h : InvP a b) : PpA a := ⟨⟨h.1.2.2.2.1, h.1.2.2.2.2.1, h.1.2.2.2.2.2.1, h.1.2.2.2.2.2.2.1, h.1.2.2.2.2.2.2.2.1, h.1.2.2.2.2.2.2.2.2⟩, fun i hi => ⟨(h.2.1 i hi).2.1, (h.2.1 i hi).2.2.2⟩⟩
def wayA (m : Mm) (a b : Int) : Int := iabs (m 2 a.toNat - m 2 b.toNat) + iabs (m 3 a.toNat - m 3 b.toNat)
theorem wayA_in {m : Mm} (h : PpA m) {a b : Int} (ha : 0 ≤ a ∧ a < m 1 5) (hb : 0 ≤ b ∧ b < m 1 5) : 0 ≤ wayA m a b ∧ wayA m a b ≤ 200 := by
  have h1 := h.2 a.toNat (by omega)
  have h2 := h.2 b.toNat (by omega)
  unfold wayA iabs
  split <;> split <;> omega
theorem wayB_s {m : Mm} (h : PpA m) {a b : Int} (ha : 0 ≤ a ∧ a < m 1 5) (hb : 0 ≤ b ∧ b < m 1 5) : F_X4_wayBetween a b m = some (wayA m a b, m) := by
  have hn := h.1
  have h1 := h.2 a.toNat (by omega)
  have h2 := h.2 b.toNat (by omega)
  have hw := wayA_in h ha hb
  unfold F_X4_wayBetween
  rw [has_s, cll_s, if_neg (by rw [b2i_t ha]; decide), has_s, cll_s, if_pos (by rw [b2i_t hb]; decide), ald_s (by omega), ald_s (by omega), wr_s (by omega), abs_s _ _ (by omega), cll_s, ald_s (by omega), ald_s (by omega), wr_s (by omega), abs_s _ _ (by omega), cll_s]
  unfold wayA at hw
  rw [wr_s (by omega)]
  rfl
theorem wayB_0 {m : Mm} {a b : Int} (h : ¬ ((0 ≤ a ∧ a < m 1 5) ∧ (0 ≤ b ∧ b < m 1 5))) : F_X4_wayBetween a b m = some (0, m) := by
  unfold F_X4_wayBetween
  rw [has_s, cll_s]
  by_cases ha : 0 ≤ a ∧ a < m 1 5
  · rw [if_neg (by rw [b2i_t ha]; decide), has_s, cll_s, if_neg (by rw [b2i_f (fun z => h ⟨ha, z⟩)]; decide)]
  · rw [if_pos (by rw [b2i_f ha])]
theorem wayOf_s {a b : Mm} (h : InvP a b) {x y : Int} (hx : 0 ≤ x ∧ x < a 1 5) (hy : 0 ≤ y ∧ y < a 1 5) : F_X12_wayOf x y b = some (wayA a x y, b) := by
  have hn := h.A.1
  have h1 := h.2.1 x.toNat (by omega)
  have h2 := h.2.1 y.toNat (by omega)
  have hw := wayA_in h.A hx hy
  unfold F_X12_wayOf
  rw [ald_s (by omega), ald_s (by omega), h1.1.1, h2.1.1, wr_s (by omega), size_s _ _ (by omega), cll_s, ald_s (by omega), ald_s (by omega), h1.1.2.1, h2.1.2.1, wr_s (by omega), size_s _ _ (by omega), cll_s]
  unfold wayA at hw
  rw [wr_s (by omega)]
  rfl

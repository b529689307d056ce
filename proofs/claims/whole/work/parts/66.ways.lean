/-! rows counted from the front and from the back -/
def Aw (ft : Nat → Nat → Nat → Bool) (N L0 : Nat) : Nat → Nat → Int
  | 0, l => if l = L0 then 1 else 0
  | i + 1, w => if w < N then sg 9 (fun l => if ft i w l then Aw ft N L0 i l else 0) else 0
def Bw (ft : Nat → Nat → Nat → Bool) (N : Nat) : Nat → Nat → Nat → Int
  | 0, _, _ => 1
  | r + 1, i, l => sg N (fun w => if ft i w l then Bw ft N r (i + 1) w else 0)
theorem Aw_s (ft : Nat → Nat → Nat → Bool) (N L0 i w : Nat) : Aw ft N L0 (i + 1) w = if w < N then sg 9 (fun l => if ft i w l then Aw ft N L0 i l else 0) else 0 := Eq.trans rfl rfl
theorem Bw_s (ft : Nat → Nat → Nat → Bool) (N r i l : Nat) : Bw ft N (r + 1) i l = sg N (fun w => if ft i w l then Bw ft N r (i + 1) w else 0) := Eq.trans rfl rfl
theorem p9 (i : Nat) : (1 : Int) ≤ 9 ^ i := by
  induction i with
  | zero => decide
  | succ i ih => rw [Int.pow_succ]; omega
theorem p9_s (i : Nat) : (9 : Int) ^ (i + 1) = 9 * 9 ^ i := by rw [Int.pow_succ, Int.mul_comm]
theorem p9_m {i j : Nat} (h : i ≤ j) : (9 : Int) ^ i ≤ 9 ^ j := by
  induction j with
  | zero => rw [show i = 0 by omega]; exact Int.le_refl _
  | succ j ih =>
    by_cases e : i = j + 1
    · rw [e]; exact Int.le_refl _
    · have := ih (by omega)
      rw [p9_s]
      have := p9 j
      omega
theorem Aw_in (ft : Nat → Nat → Nat → Bool) (N L0 : Nat) : ∀ i l, 0 ≤ Aw ft N L0 i l ∧ Aw ft N L0 i l ≤ 9 ^ i := by
  intro i
  induction i with
  | zero =>
    intro l
    unfold Aw
    split <;> decide
  | succ i ih =>
    intro l
    rw [Aw_s, p9_s]
    have := p9 i
    split
    · refine (sg_in (M := 9 ^ i) 9 fun j _ => ?_)
      split
      · exact ih j
      · omega
    · omega
theorem Bw_in (ft : Nat → Nat → Nat → Bool) {N : Nat} (hN : N ≤ 8) : ∀ r i l, 0 ≤ Bw ft N r i l ∧ Bw ft N r i l ≤ 9 ^ r := by
  intro r
  induction r with
  | zero => intro i l; unfold Bw; decide
  | succ r ih =>
    intro i l
    rw [Bw_s, p9_s]
    have h9 := p9 r
    have := sg_in (M := 9 ^ r) (f := fun w => if ft i w l then Bw ft N r (i + 1) w else 0) N fun j _ => by
      show 0 ≤ (if ft i j l then Bw ft N r (i + 1) j else 0) ∧ (if ft i j l then Bw ft N r (i + 1) j else 0) ≤ 9 ^ r
      split
      · exact ih (i + 1) j
      · omega
    have h2 : (N : Int) * 9 ^ r ≤ 9 * 9 ^ r := Int.mul_le_mul_of_nonneg_right (by omega) (by omega)
    omega
theorem Aw_8 (ft : Nat → Nat → Nat → Bool) {N : Nat} (L0 i : Nat) {w : Nat} (h : N ≤ w) : Aw ft N L0 (i + 1) w = 0 := by rw [Aw_s, if_neg (by omega)]
theorem sg_ext {f : Nat → Int} {n : Nat} : ∀ k, n ≤ k → (∀ j, n ≤ j → j < k → f j = 0) → sg k f = sg n f := by
  intro k
  induction k with
  | zero => intro h _; rw [show n = 0 by omega]
  | succ k ih =>
    intro h hz
    by_cases e : n = k + 1
    · rw [e]
    · rw [sg_s, ih (by omega) (fun j h1 h2 => hz j h1 (by omega)), hz k (by omega) (by omega), Int.add_zero]
theorem dual (ft : Nat → Nat → Nat → Bool) {N : Nat} (hN : N ≤ 8) (L0 : Nat) : ∀ r i, sg 9 (fun l => Aw ft N L0 i l * Bw ft N r i l) = sg 9 (fun l => Aw ft N L0 (i + r) l) := by
  intro r
  induction r with
  | zero => intro i; exact sg_congr 9 fun l _ => Int.mul_one _
  | succ r ih =>
    intro i
    rw [show i + (r + 1) = (i + 1) + r by omega, ← ih (i + 1)]
    rw [sg_ext (f := fun l => Aw ft N L0 (i + 1) l * Bw ft N r (i + 1) l) (n := N) 9 (by omega) (fun j h1 _ => by
      show Aw ft N L0 (i + 1) j * Bw ft N r (i + 1) j = 0
      rw [Aw_8 ft L0 i h1, Int.zero_mul])]
    have h1 : sg 9 (fun l => Aw ft N L0 i l * Bw ft N (r + 1) i l) = sg 9 (fun l => sg N (fun w => if ft i w l then Aw ft N L0 i l * Bw ft N r (i + 1) w else 0)) := sg_congr 9 fun l _ => by
      show Aw ft N L0 i l * Bw ft N (r + 1) i l = _
      rw [Bw_s, ← sg_mul]
      refine sg_congr N fun w _ => ?_
      show Aw ft N L0 i l * (if ft i w l then Bw ft N r (i + 1) w else 0) = _
      split
      · rfl
      · exact Int.mul_zero _
    rw [h1, sg_swap]
    refine sg_congr N fun w hw => ?_
    show sg 9 (fun l => if ft i w l then Aw ft N L0 i l * Bw ft N r (i + 1) w else 0) = Aw ft N L0 (i + 1) w * Bw ft N r (i + 1) w
    rw [Aw_s, if_pos hw, ← sg_mulr]
    refine sg_congr 9 fun l _ => ?_
    show (if ft i w l then Aw ft N L0 i l * Bw ft N r (i + 1) w else 0) = (if ft i w l then Aw ft N L0 i l else 0) * Bw ft N r (i + 1) w
    split
    · rfl
    · exact (Int.zero_mul _).symm
theorem allWays (ft : Nat → Nat → Nat → Bool) {N : Nat} (hN : N ≤ 8) {L0 : Nat} (hL : L0 < 9) (n : Nat) : Bw ft N (n + 1) 0 L0 = sg 8 (Aw ft N L0 (n + 1)) := by
  have h := dual ft hN L0 (n + 1) 0
  rw [Nat.zero_add] at h
  have h1 : sg 9 (fun l => Aw ft N L0 0 l * Bw ft N (n + 1) 0 l) = Bw ft N (n + 1) 0 L0 := by
    have := sg_one (fun l => Bw ft N (n + 1) 0 l) L0 9
    rw [if_pos hL] at this
    rw [← this]
    refine sg_congr 9 fun l _ => ?_
    show (if l = L0 then 1 else 0) * Bw ft N (n + 1) 0 l = if l = L0 then Bw ft N (n + 1) 0 l else 0
    split
    · exact Int.one_mul _
    · exact Int.zero_mul _
  rw [← h1, h]
  show sg 9 (Aw ft N L0 (n + 1)) = _
  rw [sg_s, Aw_8 ft L0 n hN, Int.add_zero]
theorem Aw_pos (ft : Nat → Nat → Nat → Bool) (N L0 i w : Nat) : 0 < Aw ft N L0 (i + 1) w ↔ w < N ∧ ∃ l, l < 9 ∧ ft i w l = true ∧ 0 < Aw ft N L0 i l := by
  rw [Aw_s]
  by_cases hw : w < N
  · rw [if_pos hw, sg_pos 9 (fun l _ => by
      show 0 ≤ (if ft i w l then Aw ft N L0 i l else 0)
      have := Aw_in ft N L0 i l
      split <;> omega)]
    constructor
    · rintro ⟨l, h1, h2⟩
      refine ⟨hw, l, h1, ?_⟩
      have h2' : 0 < (if ft i w l then Aw ft N L0 i l else 0) := h2
      split at h2'
      · rename_i h; exact ⟨h, h2'⟩
      · omega
    · rintro ⟨_, l, h1, h2, h3⟩
      refine ⟨l, h1, ?_⟩
      show 0 < (if ft i w l then Aw ft N L0 i l else 0)
      rw [if_pos h2]; exact h3
  · rw [if_neg hw]
    constructor
    · intro h; omega
    · intro h; exact absurd h.1 hw
theorem Bw_pos (ft : Nat → Nat → Nat → Bool) {N : Nat} (hN : N ≤ 8) (r i l : Nat) : 0 < Bw ft N (r + 1) i l ↔ ∃ w, w < N ∧ ft i w l = true ∧ 0 < Bw ft N r (i + 1) w := by
  rw [Bw_s, sg_pos N (fun w _ => by
    show 0 ≤ (if ft i w l then Bw ft N r (i + 1) w else 0)
    have := Bw_in ft hN r (i + 1) w
    split <;> omega)]
  constructor
  · rintro ⟨w, h1, h2⟩
    have h2' : 0 < (if ft i w l then Bw ft N r (i + 1) w else 0) := h2
    split at h2'
    · rename_i h; exact ⟨w, h1, h, h2'⟩
    · omega
  · rintro ⟨w, h1, h2, h3⟩
    refine ⟨w, h1, ?_⟩
    show 0 < (if ft i w l then Bw ft N r (i + 1) w else 0)
    rw [if_pos h2]; exact h3
/-! whether the ear can have heard it so -/
def ftB (G : Tg) (wy : Nat → Int) (rg ear : Int) (gp tl : Nat → Int) (lg : Int) (i w l : Nat) : Bool := decide (wy w ≤ rg) && (decide (tl i = 32) || decide (mn G (gp i) (w : Int) (l : Int) (if i = 0 then lg else gp (i - 1)) ear (wy w) = tl i))
theorem fitsG {m : Mm} {G : Tg} (hP : PpA m) (hG : GA m G) {ear : Int} (h11 : m 34 11 = ear) (he : 0 ≤ ear ∧ ear < m 1 5) {i w : Nat} (hi : i < 12) (hw : (w : Int) < m 1 5) (g l p : Int) : ∃ m', F_X5_fits (i : Int) g (w : Int) l p m = some (b2i (wayA m ear (w : Int) ≤ m 1 6 ∧ (m 36 i = 32 ∨ mn G g (w : Int) l p ear (wayA m ear (w : Int)) = m 36 i)), m') ∧ Fr sM m m' := by
  unfold F_X5_fits
  rw [if_neg (by omega), if_neg (by omega), h11, reaches_s hP he (by omega), cll_s, ibn]
  show ∃ m', (if wayA m ear (w : Int) ≤ m 1 6 then _ else _) = _ ∧ _
  by_cases h1 : wayA m ear (w : Int) ≤ m 1 6
  · rw [if_pos h1, ald_s (by omega), Int.toNat_natCast]
    by_cases h2 : m 36 i = 32
    · rw [if_pos h2, b2i_t ⟨h1, Or.inl h2⟩]
      exact ⟨m, rfl, Fr.refl _ _⟩
    · rw [if_neg h2]
      obtain ⟨m1, e1, e2⟩ := byEar_s hG hP g l p he (show 0 ≤ (w : Int) ∧ (w : Int) < m 1 5 by omega)
      rw [h11, e1, cll_s, ald_s (by omega), Int.toNat_natCast, e2 36 i rfl]
      refine ⟨m1, ?_, e2⟩
      by_cases h3 : mn G g (w : Int) l p ear (wayA m ear (w : Int)) = m 36 i
      · rw [if_neg (fun z => z h3), b2i_t ⟨h1, Or.inr h3⟩]
      · rw [if_pos h3, b2i_f (fun z => by rcases z.2 with z | z; exact h2 z; exact h3 z)]
  · rw [if_neg h1, b2i_f (fun z => h1 z.1)]
    exact ⟨m, rfl, Fr.refl _ _⟩

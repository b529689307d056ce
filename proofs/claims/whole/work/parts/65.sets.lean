/-! sets of eight as numbers; sums -/
def sg : Nat → (Nat → Int) → Int
  | 0, _ => 0
  | k + 1, f => sg k f + f k
theorem sg_s (k : Nat) (f : Nat → Int) : sg (k + 1) f = sg k f + f k := Eq.trans rfl rfl
theorem sg_congr {f g : Nat → Int} : ∀ k, (∀ i, i < k → f i = g i) → sg k f = sg k g := by
  intro k
  induction k with
  | zero => intro _; rfl
  | succ k ih => intro h; rw [sg_s, sg_s, ih (fun i hi => h i (by omega)), h k (by omega)]
theorem sg_add (f g : Nat → Int) : ∀ k, sg k (fun i => f i + g i) = sg k f + sg k g := by
  intro k
  induction k with
  | zero => rfl
  | succ k ih => rw [sg_s, sg_s, sg_s, ih]; show sg k f + sg k g + (f k + g k) = _; omega
theorem sg_mul (c : Int) (f : Nat → Int) : ∀ k, sg k (fun i => c * f i) = c * sg k f := by
  intro k
  induction k with
  | zero => show (0 : Int) = c * 0; rw [Int.mul_zero]
  | succ k ih => rw [sg_s, sg_s, ih, Int.mul_add]
theorem sg_mulr (c : Int) (f : Nat → Int) (k : Nat) : sg k (fun i => f i * c) = sg k f * c := by
  rw [Int.mul_comm, ← sg_mul]
  exact sg_congr k fun i _ => Int.mul_comm _ _
theorem sg_zero : ∀ k, sg k (fun _ => 0) = 0 := by
  intro k
  induction k with
  | zero => rfl
  | succ k ih => rw [sg_s, ih]; rfl
theorem sg_swap (f : Nat → Nat → Int) (b : Nat) : ∀ a, sg a (fun i => sg b (fun j => f i j)) = sg b (fun j => sg a (fun i => f i j)) := by
  intro a
  induction a with
  | zero => show 0 = sg b (fun _ => 0); rw [sg_zero]
  | succ a ih => rw [sg_s, ih, ← sg_add]; exact sg_congr b fun j _ => (sg_s a _).symm
theorem sg_in {f : Nat → Int} {M : Int} : ∀ k, (∀ i, i < k → 0 ≤ f i ∧ f i ≤ M) → 0 ≤ sg k f ∧ sg k f ≤ k * M := by
  intro k
  induction k with
  | zero => intro _; show (0 : Int) ≤ 0 ∧ (0 : Int) ≤ ((0 : Nat) : Int) * M; simp
  | succ k ih =>
    intro h
    have h1 := ih (fun i hi => h i (by omega))
    have h2 := h k (by omega)
    rw [sg_s]
    have : ((k + 1 : Nat) : Int) * M = k * M + M := by push_cast; rw [Int.add_mul, Int.one_mul]
    omega
theorem sg_pos {f : Nat → Int} : ∀ k, (∀ i, i < k → 0 ≤ f i) → (0 < sg k f ↔ ∃ i, i < k ∧ 0 < f i) := by
  intro k
  induction k with
  | zero => intro _; constructor; (intro h; exact absurd h (Int.lt_irrefl 0)); (rintro ⟨i, hi, _⟩; omega)
  | succ k ih =>
    intro h
    have h1 := ih (fun i hi => h i (by omega))
    have h0 : 0 ≤ sg k f := by
      have : ∀ j, j ≤ k → 0 ≤ sg j f := by
        intro j
        induction j with
        | zero => intro _; exact Int.le_refl _
        | succ j ihj => intro hj; have := ihj (by omega); have := h j (by omega); rw [sg_s]; omega
      exact this k (Nat.le_refl _)
    have h2 := h k (by omega)
    rw [sg_s]
    constructor
    · intro hp
      by_cases hk : 0 < f k
      · exact ⟨k, by omega, hk⟩
      · obtain ⟨i, hi, hf⟩ := h1.mp (by omega)
        exact ⟨i, by omega, hf⟩
    · rintro ⟨i, hi, hf⟩
      by_cases e : i = k
      · subst e; omega
      · have := h1.mpr ⟨i, by omega, hf⟩
        omega
theorem sg_one (f : Nat → Int) (j : Nat) : ∀ k, sg k (fun i => if i = j then f i else 0) = if j < k then f j else 0 := by
  intro k
  induction k with
  | zero => rfl
  | succ k ih =>
    rw [sg_s, ih]
    show _ + (if k = j then f k else 0) = _
    by_cases h1 : j < k
    · rw [if_pos h1, if_neg (show ¬ k = j by omega), if_pos (show j < k + 1 by omega), Int.add_zero]
    · rw [if_neg h1]
      by_cases h2 : k = j
      · subst h2; rw [if_pos rfl, if_pos (show k < k + 1 by omega), Int.zero_add]
      · rw [if_neg h2, if_neg (show ¬ j < k + 1 by omega)]; rfl
/-! bits of numbers under 256 -/
theorem bit_bt {x : Int} (h : 0 ≤ x ∧ x ≤ 2147483647) {i : Nat} (hi : i < 32) : bit x i = if bt (Int32.ofInt x) i then 1 else 0 := by
  have key : (Int32.ofInt x >>> (nI i &&& 31)) &&& 1 = if bt (Int32.ofInt x) i then 1 else 0 := by
    apply b_ext
    intro j hj
    rw [b_and, b_sshr i hi _ hj]
    have h1 : bt (1 : Int32) j = decide (j = 0) := (by decide +kernel : ∀ j, j < 32 → bt (1 : Int32) j = decide (j = 0)) j hj
    rw [h1]
    by_cases e : j = 0
    · subst e
      rw [if_pos (show i + 0 < 32 by omega), Nat.add_zero]
      cases hb : bt (Int32.ofInt x) i with
      | false => exact (b_0 0).symm
      | true => exact h1.symm
    · rw [decide_eq_false e, Bool.and_false]
      cases hb : bt (Int32.ofInt x) i with
      | false => exact (b_0 j).symm
      | true => exact (h1.trans (decide_eq_false e)).symm
  unfold bit iand ishr
  rw [of_tI, nI_of_nat, show Int32.ofInt 1 = (1 : Int32) from rfl, key]
  cases bt (Int32.ofInt x) i with
  | false => decide
  | true => decide
def S8 (x : Int) : Prop := 0 ≤ x ∧ x ≤ 255
theorem S8_and {x : Int} (h : S8 x) : Int32.ofInt x &&& 255 = Int32.ofInt x := by
  have h1 : iand x 255 = x := by
    have := iand_mask (x := x) 8 (by decide) (by unfold S8 at h; omega)
    rw [show (2 : Int) ^ 8 - 1 = 255 by decide] at this
    rw [this]
    unfold S8 at h
    have : (2 : Int) ^ 8 = 256 := by decide
    omega
  unfold iand at h1
  have h2 := congrArg Int32.ofInt h1
  rw [of_tI] at h2
  exact h2
theorem S8_of {z : Int32} (h : z &&& 255 = z) : S8 z.toInt := by
  have := iand_byte z.toInt
  unfold iand at this
  rw [of_tI, show Int32.ofInt 255 = (255 : Int32) from rfl, h] at this
  exact this
theorem S8_bt {x : Int} (h : S8 x) {i : Nat} (hi : 8 ≤ i) : bt (Int32.ofInt x) i = false := by
  have := congrArg (fun z => bt z i) (S8_and h)
  simp only [b_and, b_255] at this
  rw [← this]
  simp [show ¬ i < 8 by omega]
theorem S8_ext {x y : Int} (hx : S8 x) (hy : S8 y) (h : ∀ i, i < 8 → bit x i = bit y i) : x = y := by
  have h2 : Int32.ofInt x = Int32.ofInt y := by
    apply b_ext
    intro i hi
    by_cases h8 : i < 8
    · have := h i h8
      rw [bit_bt (by unfold S8 at hx; omega) (by omega), bit_bt (by unfold S8 at hy; omega) (by omega)] at this
      cases h1 : bt (Int32.ofInt x) i <;> cases h2 : bt (Int32.ofInt y) i <;> rw [h1, h2] at this <;> simp_all
    · rw [S8_bt hx (by omega), S8_bt hy (by omega)]
  have h3 := congrArg Int32.toInt h2
  unfold S8 at hx hy
  rw [t_ofI' (by unfold inR; omega), t_ofI' (by unfold inR; omega)] at h3
  exact h3
theorem S8_op {z : Int32} {f : Nat → Bool} (h8 : ∀ i, 8 ≤ i → i < 32 → bt z i = false) (hf : ∀ i, i < 8 → bt z i = f i) : S8 z.toInt ∧ ∀ i, i < 8 → bit z.toInt i = if f i then 1 else 0 := by
  have hs : S8 z.toInt := S8_of (b_ext fun i hi => by
    rw [b_and, b_255]
    by_cases h : i < 8
    · simp [h]
    · rw [h8 i (by omega) hi]; rfl)
  refine ⟨hs, fun i hi => ?_⟩
  rw [bit_bt (by unfold S8 at hs; omega) (by omega), of_tI, hf i hi]
theorem bit_or {x y : Int} (hx : S8 x) (hy : S8 y) : S8 (ior x y) ∧ ∀ i, i < 8 → (bit (ior x y) i = 1 ↔ bit x i = 1 ∨ bit y i = 1) := by
  obtain ⟨h1, h2⟩ := S8_op (z := Int32.ofInt x ||| Int32.ofInt y) (f := fun i => bt (Int32.ofInt x) i || bt (Int32.ofInt y) i) (fun i h _ => by rw [b_or, S8_bt hx h, S8_bt hy h]; rfl) (fun i _ => b_or _ _ _)
  refine ⟨h1, fun i hi => ?_⟩
  have := h2 i hi
  unfold ior
  rw [this, bit_bt (by unfold S8 at hx; omega) (by omega), bit_bt (by unfold S8 at hy; omega) (by omega)]
  cases bt (Int32.ofInt x) i <;> cases bt (Int32.ofInt y) i <;> simp
theorem bit_and {x y : Int} (hx : S8 x) (hy : S8 y) : S8 (iand x y) ∧ ∀ i, i < 8 → (bit (iand x y) i = 1 ↔ bit x i = 1 ∧ bit y i = 1) := by
  obtain ⟨h1, h2⟩ := S8_op (z := Int32.ofInt x &&& Int32.ofInt y) (f := fun i => bt (Int32.ofInt x) i && bt (Int32.ofInt y) i) (fun i h _ => by rw [b_and, S8_bt hx h]; rfl) (fun i _ => b_and _ _ _)
  refine ⟨h1, fun i hi => ?_⟩
  have := h2 i hi
  unfold iand
  rw [this, bit_bt (by unfold S8 at hx; omega) (by omega), bit_bt (by unfold S8 at hy; omega) (by omega)]
  cases bt (Int32.ofInt x) i <;> cases bt (Int32.ofInt y) i <;> simp
theorem bit_clr {x : Int} (hx : S8 x) {v : Nat} (hv : v < 8) : S8 (iand x (ixor (ishl 1 (v : Int)) (-1))) ∧ ∀ i, i < 8 → (bit (iand x (ixor (ishl 1 (v : Int)) (-1))) i = 1 ↔ bit x i = 1 ∧ i ≠ v) := by
  have hm : ∀ v : Nat, v < 8 → ∀ i, i < 32 → bt (Int32.ofInt (ixor (ishl 1 (v : Int)) (-1))) i = decide (i ≠ v) := by decide +kernel
  obtain ⟨h1, h2⟩ := S8_op (z := Int32.ofInt x &&& Int32.ofInt (ixor (ishl 1 (v : Int)) (-1))) (f := fun i => bt (Int32.ofInt x) i && decide (i ≠ v)) (fun i h _ => by rw [b_and, S8_bt hx h]; rfl) (fun i hi => by rw [b_and, hm v hv i (by omega)])
  refine ⟨h1, fun i hi => ?_⟩
  have := h2 i hi
  unfold iand
  rw [this, bit_bt (by unfold S8 at hx; omega) (by omega)]
  cases bt (Int32.ofInt x) i <;> by_cases e : i = v <;> simp [e]
theorem bit_one {v : Nat} (hv : v < 8) : S8 (ishl 1 (v : Int)) ∧ ∀ i, i < 8 → (bit (ishl 1 (v : Int)) i = 1 ↔ i = v) := by
  have : ∀ v : Nat, v < 8 → (0 ≤ ishl 1 (v : Int) ∧ ishl 1 (v : Int) ≤ 255) ∧ ∀ i : Nat, i < 8 → (bit (ishl 1 (v : Int)) i = 1 ↔ i = v) := by decide +kernel
  exact this v hv
theorem S8_0 {x : Int} (hx : S8 x) : x = 0 ↔ ∀ i, i < 8 → ¬ bit x i = 1 := by
  have h0 : ∀ i : Nat, i < 8 → bit 0 i = 0 := by decide +kernel
  constructor
  · intro h i hi
    rw [h, h0 i hi]; decide
  · intro h
    refine S8_ext hx ⟨by decide, by decide⟩ fun i hi => ?_
    rw [h0 i hi]
    have := bit_01 (x := x) (by unfold S8 at hx; omega) (i := i) (by omega)
    have := h i hi
    omega
theorem S8_eq {x y : Int} (hx : S8 x) (hy : S8 y) (h : ∀ i, i < 8 → (bit x i = 1 ↔ bit y i = 1)) : x = y := by
  refine S8_ext hx hy fun i hi => ?_
  have h1 := bit_01 (x := x) (by unfold S8 at hx; omega) (i := i) (by omega)
  have h2 := bit_01 (x := y) (by unfold S8 at hy; omega) (i := i) (by omega)
  have := h i hi
  omega
/-- longs: the set grows upward -/
theorem lor_up : ∀ k : Nat, k < 8 → ∀ v : Nat, v < 2 ^ k → lor (v : Int) (lshl 1 (k : Int)) = ior (v : Int) (ishl 1 (k : Int)) ∧ ior (v : Int) (ishl 1 (k : Int)) < 2 ^ (k + 1) := by decide +kernel

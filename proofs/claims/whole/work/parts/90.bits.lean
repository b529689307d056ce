/-! sets of gaps as bits of a number -/
theorem bit_bt' (x : Int) {i : Nat} (hi : i < 32) : bit x i = b01 (bt (Int32.ofInt x) i) := by
  have key : (Int32.ofInt x >>> (nI i &&& 31)) &&& 1 = if bt (Int32.ofInt x) i then 1 else 0 := by
    apply b_ext
    intro j hj
    rw [b_and, b_sshr i hi _ hj]
    have h1 : bt (1 : Int32) j = decide (j = 0) := (by decide +kernel : ∀ j, j < 32 → bt (1 : Int32) j = decide (j = 0)) j hj
    rw [h1]
    by_cases e : j = 0
    · subst e
      rw [if_pos (show i + 0 < 32 by omega), Nat.add_zero]
      cases hb : bt (Int32.ofInt x) i with
      | false => exact (b_0 0).symm
      | true => exact h1.symm
    · rw [decide_eq_false e, Bool.and_false]
      cases hb : bt (Int32.ofInt x) i with
      | false => exact (b_0 j).symm
      | true => exact (h1.trans (decide_eq_false e)).symm
  unfold bit iand ishr
  rw [of_tI, nI_of_nat, show Int32.ofInt 1 = (1 : Int32) from rfl, key]
  cases bt (Int32.ofInt x) i with
  | false => decide
  | true => decide
def isB (v : Int) (f : Nat → Bool) : Prop := inR v ∧ ∀ i, i < 32 → bt (Int32.ofInt v) i = (decide (i < 21) && f i)
theorem isB.bit {v : Int} {f : Nat → Bool} (h : isB v f) {i : Nat} (hi : i < 21) : bit v i = b01 (f i) := by
  rw [bit_bt' v (by omega), h.2 i (by omega), decide_eq_true hi, Bool.true_and]
theorem isB.cong {v : Int} {f f' : Nat → Bool} (h : isB v f) (e : ∀ i, i < 21 → f i = f' i) : isB v f' := by
  refine ⟨h.1, fun i hi => ?_⟩
  rw [h.2 i hi]
  by_cases c : i < 21
  · rw [e i c]
  · rw [decide_eq_false c, Bool.false_and, Bool.false_and]
theorem isB_0 : isB 0 (fun _ => false) := ⟨by unfold inR; decide, fun i _ => by
  rw [show Int32.ofInt 0 = (0 : Int32) from rfl, b_0, Bool.and_false]⟩
theorem isB_1 {g : Nat} (hg : g < 21) : isB (ishl 1 (g : Int)) (fun i => decide (i = g)) := by
  have h1 : ∀ g : Nat, g < 21 → (-2147483648 ≤ ishl 1 (g : Int) ∧ ishl 1 (g : Int) ≤ 2147483647) ∧ ∀ i : Nat, i < 32 → bt (Int32.ofInt (ishl 1 (g : Int))) i = (decide (i < 21) && decide (i = g)) := by decide +kernel
  exact h1 g hg
theorem isB.or {u v : Int} {f h : Nat → Bool} (hu : isB u f) (hv : isB v h) : isB (ior u v) (fun i => f i || h i) := by
  refine ⟨rg_tI _, fun i hi => ?_⟩
  unfold ior
  rw [of_tI, b_or, hu.2 i hi, hv.2 i hi]
  cases decide (i < 21) <;> rfl
theorem isB.and {u v : Int} {f h : Nat → Bool} (hu : isB u f) (hv : isB v h) : isB (iand u v) (fun i => f i && h i) := by
  refine ⟨rg_tI _, fun i hi => ?_⟩
  unfold iand
  rw [of_tI, b_and, hu.2 i hi, hv.2 i hi]
  cases decide (i < 21) <;> rfl
theorem isB.z {v : Int} {f : Nat → Bool} (h : isB v f) : v = 0 ↔ ∀ i, i < 21 → f i = false := by
  constructor
  · intro e i hi
    have := h.2 i (by omega)
    rw [e, show Int32.ofInt 0 = (0 : Int32) from rfl, b_0, decide_eq_true hi, Bool.true_and] at this
    exact this.symm
  · intro e
    have h2 : Int32.ofInt v = Int32.ofInt 0 := b_ext fun i hi => by
      rw [h.2 i hi, show Int32.ofInt 0 = (0 : Int32) from rfl, b_0]
      by_cases c : i < 21
      · rw [e i c, Bool.and_false]
      · rw [decide_eq_false c, Bool.false_and]
    have h3 := congrArg Int32.toInt h2
    rw [t_ofI' h.1, t_ofI' (by unfold inR; decide)] at h3
    exact h3
theorem bt_nat {n i : Nat} (hi : i < 32) : bt (Int32.ofInt (n : Int)) i = n.testBit i := by
  rw [nI_of_nat]
  show (Int32.ofNat n).toBitVec.getLsbD i = _
  rw [Int32.toBitVec_ofNat', BitVec.getLsbD_ofNat, decide_eq_true hi, Bool.true_and]
theorem isB.nat {v : Int} {f : Nat → Bool} (h : isB v f) : ∃ n : Nat, v = (n : Int) ∧ n < 2097152 ∧ ∀ i, i < 32 → n.testBit i = (decide (i < 21) && f i) := by
  have h1 : iand v 2147483647 = v := by
    have h2 : Int32.ofInt v &&& Int32.ofInt 2147483647 = Int32.ofInt v := b_ext fun i hi => by
      rw [b_and, h.2 i hi]
      have h3 : ∀ i, i < 21 → bt (Int32.ofInt 2147483647) i = true := by decide +kernel
      by_cases c : i < 21
      · rw [h3 i c, Bool.and_true]
      · rw [decide_eq_false c, Bool.false_and, Bool.false_and]
    unfold iand
    rw [h2, t_ofI' h.1]
  have hpos : 0 ≤ v := by
    have hb : (Int32.ofInt v).toBitVec.msb = false := by
      rw [BitVec.msb_eq_getLsbD_last]
      have := h.2 31 (by decide)
      exact this
    have h3 := BitVec.toInt_nonneg_of_msb_false hb
    have h4 : (Int32.ofInt v).toInt = v := t_ofI' h.1
    have h5 : (Int32.ofInt v).toInt = (Int32.ofInt v).toBitVec.toInt := rfl
    omega
  obtain ⟨n, hn⟩ : ∃ n : Nat, v = (n : Int) := ⟨v.toNat, by omega⟩
  subst hn
  have ht : ∀ i, i < 32 → n.testBit i = (decide (i < 21) && f i) := fun i hi => by rw [← bt_nat hi]; exact h.2 i hi
  refine ⟨n, rfl, ?_, ht⟩
  have hr := h.1
  unfold inR at hr
  refine Nat.lt_pow_two_of_testBit (n := 21) n (fun j hj => ?_)
  by_cases c : j < 32
  · rw [ht j c, decide_eq_false (by omega), Bool.false_and]
  · exact Nat.testBit_lt_two_pow (Nat.lt_of_lt_of_le (by omega : n < 2 ^ 31) (Nat.pow_le_pow_right (by decide) (by omega)))
def ntzV (x : Int) : Int := if 0 < x then
    (let v1 := if x ≤ 65536 then 1 else wr (1 + 16)
     let x1 := if x ≤ 65536 then x else iushr x 16
     let v2 := if x1 ≤ 256 then v1 else wr (v1 + 8)
     let x2 := if x1 ≤ 256 then x1 else iushr x1 8
     let v3 := if x2 ≤ 16 then v2 else wr (v2 + 4)
     let x3 := if x2 ≤ 16 then x2 else iushr x2 4
     let v4 := if x3 ≤ 4 then v3 else wr (v3 + 2)
     let x4 := if x3 ≤ 4 then x3 else iushr x3 2
     wr (v4 + iushr x4 1)) else iand x 32
theorem ntz_e (v : Int) (m : Mm) : F_J6_numberOfTrailingZeros_0f7a4 v m = some (ntzV (iand (ixor v (-1)) (wr (v - 1))), m) := by
  unfold F_J6_numberOfTrailingZeros_0f7a4 J_J6_numberOfTrailingZeros_0f7a4_34 J_J6_numberOfTrailingZeros_0f7a4_49 J_J6_numberOfTrailingZeros_0f7a4_62 J_J6_numberOfTrailingZeros_0f7a4_74 ntzV
  generalize iand (ixor v (-1)) (wr (v - 1)) = x
  simp only [nmv_s]
  by_cases h0 : 0 < x
  · rw [if_pos h0, if_pos h0]
    by_cases h1 : x ≤ 65536
    · simp only [if_pos h1]
      by_cases h2 : x ≤ 256
      · simp only [if_pos h2]
        by_cases h3 : x ≤ 16
        · simp only [if_pos h3]
          by_cases h4 : x ≤ 4
          · simp only [if_pos h4]
          · simp only [if_neg h4]
        · simp only [if_neg h3]
          by_cases h4 : iushr x 4 ≤ 4
          · simp only [if_pos h4]
          · simp only [if_neg h4]
      · simp only [if_neg h2]
        by_cases h3 : iushr x 8 ≤ 16
        · simp only [if_pos h3]
          by_cases h4 : iushr x 8 ≤ 4
          · simp only [if_pos h4]
          · simp only [if_neg h4]
        · simp only [if_neg h3]
          by_cases h4 : iushr (iushr x 8) 4 ≤ 4
          · simp only [if_pos h4]
          · simp only [if_neg h4]
    · simp only [if_neg h1]
      by_cases h2 : iushr x 16 ≤ 256
      · simp only [if_pos h2]
        by_cases h3 : iushr x 16 ≤ 16
        · simp only [if_pos h3]
          by_cases h4 : iushr x 16 ≤ 4
          · simp only [if_pos h4]
          · simp only [if_neg h4]
        · simp only [if_neg h3]
          by_cases h4 : iushr (iushr x 16) 4 ≤ 4
          · simp only [if_pos h4]
          · simp only [if_neg h4]
      · simp only [if_neg h2]
        by_cases h3 : iushr (iushr x 16) 8 ≤ 16
        · simp only [if_pos h3]
          by_cases h4 : iushr (iushr x 16) 8 ≤ 4
          · simp only [if_pos h4]
          · simp only [if_neg h4]
        · simp only [if_neg h3]
          by_cases h4 : iushr (iushr (iushr x 16) 8) 4 ≤ 4
          · simp only [if_pos h4]
          · simp only [if_neg h4]
  · rw [if_neg h0, if_neg h0]
theorem ntz_tab : ∀ g : Nat, g < 21 → ntzV ((2 ^ g - 1 : Nat) : Int) = (g : Int) := by decide +kernel
theorem ntz_low {n g : Nat} (hg : g < 21) (hn : n < 2097152) (h0 : ∀ j, j < g → n.testBit j = false) (h1 : n.testBit g = true) : iand (ixor (n : Int) (-1)) (wr ((n : Int) - 1)) = ((2 ^ g - 1 : Nat) : Int) := by
  have hp : 0 < 2 ^ g := Nat.two_pow_pos g
  have hmod : n % 2 ^ g = 0 := Nat.eq_of_testBit_eq fun i => by
    rw [Nat.testBit_mod_two_pow, Nat.zero_testBit]
    by_cases c : i < g
    · rw [h0 i c, Bool.and_false]
    · rw [decide_eq_false c, Bool.false_and]
  have hodd : n / 2 ^ g % 2 = 1 := by
    rw [Nat.testBit_eq_decide_div_mod_eq, decide_eq_true_eq] at h1
    exact h1
  obtain ⟨m, hm⟩ : ∃ m, n / 2 ^ g = 2 * m + 1 := ⟨n / 2 ^ g / 2, by omega⟩
  have hnm : n = 2 ^ (g + 1) * m + 2 ^ g := by
    have := Nat.div_add_mod n (2 ^ g)
    rw [hm, hmod, Nat.add_zero, Nat.mul_add, Nat.mul_one, ← Nat.mul_assoc] at this
    rw [Nat.pow_succ]
    exact this.symm
  have hn1 : (n : Int) - 1 = ((2 ^ (g + 1) * m + (2 ^ g - 1) : Nat) : Int) := by omega
  have hlt1 : 2 ^ g < 2 ^ (g + 1) := Nat.pow_lt_pow_right (by decide) (by omega)
  have hpg : 2 ^ g ≤ 2 ^ 20 := Nat.pow_le_pow_right (by decide) (by omega)
  rw [wr_s (by omega), hn1]
  unfold iand ixor
  rw [of_tI]
  have hz : (Int32.ofInt (n : Int) ^^^ Int32.ofInt (-1)) &&& Int32.ofInt ((2 ^ (g + 1) * m + (2 ^ g - 1) : Nat) : Int) = Int32.ofInt ((2 ^ g - 1 : Nat) : Int) := b_ext fun i hi => by
    rw [b_and, b_xor, bt_nat hi, bt_nat hi, bt_nat hi, show Int32.ofInt (-1) = (-1 : Int32) from rfl, b_m1 i hi, Bool.xor_true, Nat.testBit_two_pow_sub_one, hnm, Nat.testBit_two_pow_mul_add _ hlt1, Nat.testBit_two_pow_mul_add _ (by omega)]
    by_cases c : i < g + 1
    · rw [if_pos c, if_pos c, Nat.testBit_two_pow_sub_one, Nat.testBit_two_pow]
      by_cases e : g = i
      · rw [decide_eq_true e, decide_eq_false (by omega : ¬ i < g)]; rfl
      · rw [decide_eq_false e, decide_eq_true (by omega : i < g)]; rfl
    · rw [if_neg c, if_neg c, decide_eq_false (by omega : ¬ i < g), Bool.not_and_self]
  rw [hz, t_ofI' (by unfold inR; omega)]
theorem ntz_s {v : Int} {f : Nat → Bool} (h : isB v f) {g : Nat} (hg : g < 21) (h1 : f g = true) (h0 : ∀ j, j < g → f j = false) (m : Mm) : F_J6_numberOfTrailingZeros_0f7a4 v m = some ((g : Int), m) := by
  obtain ⟨n, e, hn, ht⟩ := h.nat
  subst e
  rw [ntz_e, ntz_low hg hn (fun j hj => by rw [ht j (by omega), h0 j hj, Bool.and_false]) (by rw [ht g (by omega), h1, decide_eq_true hg]; rfl), ntz_tab g hg]

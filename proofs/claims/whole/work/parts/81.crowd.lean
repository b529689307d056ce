/-! how a crowd gets its sentences out soonest: the crowd -/
def pcN (v : Nat) : Nat := v % 2 + v / 2 % 2 + v / 4 % 2 + v / 8 % 2 + v / 16 % 2 + v / 32 % 2 + v / 64 % 2 + v / 128 % 2
def bc1 (a : Int) : Int := wr (a - (iand (iushr a 1) 1431655765))
def bc2 (x : Int) : Int := wr ((iand x 858993459) + (iand (iushr x 2) 858993459))
def bc3 (x : Int) : Int := iand (wr (x + (iushr x 4))) 252645135
def bc4 (x : Int) : Int := wr (x + (iushr x 8))
def bc5 (x : Int) : Int := wr (x + (iushr x 16))
theorem bc_all : ∀ k : Nat, k < 256 → iand (bc5 (bc4 (bc3 (bc2 (bc1 (k : Int)))))) 63 = (pcN k : Int) := by decide +kernel
theorem bitCount_s {k : Nat} (hk : k < 256) (m : Mm) : F_J6_bitCount_0f7a4 (k : Int) m = some ((pcN k : Int), m) := by
  unfold F_J6_bitCount_0f7a4
  rw [nmv_s, nmv_s, nmv_s, nmv_s, nmv_s]
  show some (iand (bc5 (bc4 (bc3 (bc2 (bc1 (k : Int)))))) 63, m) = _
  rw [bc_all k hk]
def lowN (v : Nat) : Nat := (iand (v : Int) (wr ((v : Int) - 1))).toNat
theorem low_all : ∀ v : Nat, v < 256 → 0 < v → iand (v : Int) (wr ((v : Int) - 1)) = (lowN v : Int) ∧ lowN v < v ∧ pcN v = pcN (lowN v) + 1 := by decide +kernel
theorem sizeOf_l : ∀ (n v : Nat) (acc : Nat) (m : Mm) (f : Nat), v ≤ n → v < 256 → acc + v ≤ 1000 → n < f → L_X12_sizeOf_4 f (acc : Int) (v : Int) m = some (((acc + pcN v : Nat) : Int), m) := by
  intro n
  induction n with
  | zero =>
    intro v acc m f hv h256 ha hf
    obtain ⟨f', rfl⟩ : ∃ f', f = f' + 1 := ⟨f - 1, by omega⟩
    have e : v = 0 := by omega
    subst e
    show LB_X12_sizeOf_4 (L_X12_sizeOf_4 f') _ _ _ = _
    unfold LB_X12_sizeOf_4
    rw [if_pos (show ((0 : Nat) : Int) = 0 from rfl)]
    rfl
  | succ n ih =>
    intro v acc m f hv h256 ha hf
    obtain ⟨f', rfl⟩ : ∃ f', f = f' + 1 := ⟨f - 1, by omega⟩
    by_cases e : v = 0
    · subst e
      show LB_X12_sizeOf_4 (L_X12_sizeOf_4 f') _ _ _ = _
      unfold LB_X12_sizeOf_4
      rw [if_pos (show ((0 : Nat) : Int) = 0 from rfl)]
      rfl
    · obtain ⟨l1, l2, l3⟩ := low_all v h256 (by omega)
      have h1 := ih (lowN v) (acc + 1) m f' (by omega) (by omega) (by omega) (by omega)
      rw [show acc + 1 + pcN (lowN v) = acc + pcN v by omega] at h1
      rw [← h1]
      show LB_X12_sizeOf_4 (L_X12_sizeOf_4 f') _ _ _ = _
      unfold LB_X12_sizeOf_4
      rw [if_neg (by omega), nmv_s, nmv_s, l1, wr_s (by omega)]
      rfl
theorem sizeOf_s {k : Nat} (hk : k < 256) (m : Mm) : F_X12_sizeOf (k : Int) m = some ((pcN k : Int), m) := by
  unfold F_X12_sizeOf
  rw [nmv_s, nmv_s]
  have := sizeOf_l k k 0 m 100000 (Nat.le_refl _) hk (by omega) (by omega)
  rw [Nat.zero_add, show ((0 : Nat) : Int) = 0 from rfl] at this
  exact this
/-- how many of the first i are in the set; pc by bits -/
def cnX (x : Int) : Nat → Nat
  | 0 => 0
  | i + 1 => cnX x i + (if bit x i = 0 then 0 else 1)
theorem cn_s (x : Int) (i : Nat) : cnX x (i + 1) = cnX x i + (if bit x i = 0 then 0 else 1) := Eq.trans rfl rfl
theorem cn_all : ∀ k : Nat, k < 256 → cnX (k : Int) 8 = pcN k := by decide +kernel
theorem cn_mono {x : Int} : ∀ {i j : Nat}, i ≤ j → cnX x i ≤ cnX x j := by
  intro i j h
  induction j with
  | zero => rw [show i = 0 by omega]; exact Nat.le_refl _
  | succ j ih =>
    by_cases e : i = j + 1
    · rw [e]; exact Nat.le_refl _
    · have := ih (by omega)
      rw [cn_s]
      omega
def sCr (k i : Nat) : Bool := k == 84 || (k == 54 && i == 57)
/-- the reference lays its crowd -/
theorem lays7 {x : Int} {n : Nat} (hx : 0 ≤ x ∧ x ≤ 2147483647) (h8 : n ≤ 8) (h4 : cnX x n ≤ 4) : ∀ (k i : Nat) (b : Mm) (f : Nat), i + k = n → b 54 2 = (n : Int) → b 54 57 = (cnX x i : Int) → (∀ j, j < i → bit x j = 1 → b 84 (cnX x j) = (j : Int)) → (∀ q, q < cnX x i → 0 ≤ b 84 q ∧ b 84 q < (n : Int)) → k < f → ∃ b', L_X12_laysCrowd_7 f x (i : Int) b = L_X12_laysCrowd_54 100000 ((0 : Nat) : Int) b' ∧ Fr sCr b b' ∧ b' 54 57 = (cnX x n : Int) ∧ (∀ j, j < n → bit x j = 1 → b' 84 (cnX x j) = (j : Int)) ∧ (∀ q, q < cnX x n → 0 ≤ b' 84 q ∧ b' 84 q < (n : Int)) := by
  intro k
  induction k with
  | zero =>
    intro i b f hi hn h57 hc hq hf
    obtain ⟨f', rfl⟩ : ∃ f', f = f' + 1 := ⟨f - 1, by omega⟩
    have e : i = n := by omega
    subst e
    refine ⟨b, ?_, Fr.refl _ _, h57, hc, hq⟩
    show LB_X12_laysCrowd_7 (L_X12_laysCrowd_7 f') _ _ _ = _
    unfold LB_X12_laysCrowd_7
    rw [if_pos (by omega), nmv_s]
    rfl
  | succ k ih =>
    intro i b f hi hn h57 hc hq hf
    obtain ⟨f', rfl⟩ : ∃ f', f = f' + 1 := ⟨f - 1, by omega⟩
    have h01 := bit_01 hx (i := i) (by omega)
    have hm := cn_mono (x := x) (show i + 1 ≤ n by omega)
    show ∃ b', LB_X12_laysCrowd_7 (L_X12_laysCrowd_7 f') _ _ _ = _ ∧ _
    unfold LB_X12_laysCrowd_7 J_X12_laysCrowd_46
    rw [if_neg (by omega), has2_s hx (by omega), cll_s]
    by_cases hb : bit x i = 0
    · have e : cnX x (i + 1) = cnX x i := by rw [cn_s, if_pos hb, Nat.add_zero]
      rw [if_neg (fun z => z hb)]
      obtain ⟨b', r1, r2⟩ := ih (i + 1) b f' (by omega) hn (by rw [e]; exact h57) (fun j hj h1 => by
        by_cases e2 : j = i
        · subst e2; omega
        · exact hc j (by omega) h1) (by rw [e]; exact hq) (by omega)
      refine ⟨b', ?_, r2⟩
      rw [nmv_s, wr_s (by omega)]
      exact r1
    · have hb1 : bit x i = 1 := by omega
      have e : cnX x (i + 1) = cnX x i + 1 := by
        show cnX x i + (if bit x i = 0 then 0 else 1) = _
        rw [if_neg hb]
      rw [if_pos hb, h57, ast_s (by omega), stf_s, u2r (by decide), h57, Int.toNat_natCast, wr_s (x := (cnX x i : Int) + 1) (by omega)]
      obtain ⟨b', r1, r2, r3⟩ := ih (i + 1) (upd2 (upd2 b 84 (cnX x i) (i : Int)) 54 57 ((cnX x i : Int) + 1)) f' (by omega) (by rw [u2n (by decide), u2r (by decide)]; exact hn) (by rw [u2s, e]; rfl) (fun j hj h1 => by
        rw [u2r (by decide)]
        by_cases e2 : j = i
        · subst e2; rw [u2s]
        · have hlt : cnX x (j + 1) ≤ cnX x i := cn_mono (by omega)
          have : cnX x (j + 1) = cnX x j + 1 := by
            show cnX x j + (if bit x j = 0 then 0 else 1) = _
            rw [if_neg (by omega)]
          rw [u2n (by omega)]; exact hc j (by omega) h1) (fun q hq2 => by
        rw [u2r (by decide)]
        by_cases e2 : q = cnX x i
        · subst e2; rw [u2s]; omega
        · rw [u2n e2]; exact hq q (by omega)) (by omega)
      refine ⟨b', ?_, (Fr.upd (Fr.upd (Fr.refl _ _) _ rfl) _ rfl).trans r2, r3⟩
      rw [nmv_s, wr_s (by omega)]
      exact r1

/-! alike, reference -/
theorem fstP_cg (p q : Nat → Prop) [DecidablePred p] [DecidablePred q] : ∀ k i : Nat, (∀ j, j < i + k → (p j ↔ q j)) → fstP p k i = fstP q k i := by
  intro k
  induction k with
  | zero => intro i _; rfl
  | succ k ih =>
    intro i h
    rw [fstP_s, fstP_s, ih (i + 1) (fun j hj => h j (by omega))]
    by_cases e : p i
    · rw [if_pos e, if_pos ((h i (by omega)).mp e)]
    · rw [if_neg e, if_neg (fun z => e ((h i (by omega)).mpr z))]
theorem cntP_cg (p q : Nat → Prop) [DecidablePred p] [DecidablePred q] (n : Nat) (h : ∀ j, j < n → (p j ↔ q j)) : cntP p n = cntP q n := by
  apply sumN_c
  intro j hj
  by_cases e : p j
  · rw [if_pos e, if_pos ((h j hj).mp e)]
  · rw [if_neg e, if_neg (fun z => e ((h j hj).mpr z))]
theorem mnG_c {r u : Nat → Int} {n : Nat} (e : ∀ i, i < n → u i = r i) (g : Int) : mnG u n g = mnG r n g := by
  apply fstP_cg
  intro j hj
  show u j = g ↔ r j = g
  rw [e j (by omega)]
theorem shP_c {r u : Nat → Int} {n : Nat} (e : ∀ i, i < n → u i = r i) (d : Int) {i : Nat} (hi : i < n) : shP u n d i ↔ shP r n d i := by
  show ¬ mnG u n (u i + d) = -1 ↔ ¬ mnG r n (r i + d) = -1
  rw [e i hi, mnG_c e]
def alikeV (r : Nat → Int) (n : Nat) (w : Int) : Int := if w = 0 then fstP (shP r n 1) n 0 + 1 else if w = 1 then fstP (shP r n (-1)) n 0 + 1 else if w = 2 then mnG r n (r (fstP (shP r n 1) n 0).toNat + 1) + 1 else mnG r n (r (fstP (shP r n (-1)) n 0).toNat + (-1)) + 1
def alikeR (r : Nat → Int) (n : Nat) (w : Int) : Int := if okG r 0 n then (if w = 4 then cntP (shP r n 1) n * cntP (shP r n (-1)) n else if fstP (shP r n 1) n 0 = -1 ∨ fstP (shP r n (-1)) n 0 = -1 then -3 else alikeV r n w) else -2
theorem alikeR_c {r u : Nat → Int} {n : Nat} (e : ∀ i, i < n → u i = r i) (w : Int) : alikeR u n w = alikeR r n w := by
  have h1 : ∀ d, fstP (shP u n d) n 0 = fstP (shP r n d) n 0 := fun d => fstP_cg _ _ n 0 (fun j hj => shP_c e d (by omega))
  have h2 : ∀ d, cntP (shP u n d) n = cntP (shP r n d) n := fun d => cntP_cg _ _ n (fun j hj => shP_c e d hj)
  have h3 : okG u 0 n = okG r 0 n := propext ⟨fun h j hj hi => by have := h j hj hi; rw [e j hj, mnG_c e] at this; exact this, fun h j hj hi => by have := h j hj hi; rw [e j hj, mnG_c e]; exact this⟩
  unfold alikeR alikeV
  rw [h1, h1, h2, h2]
  have h4 : ∀ d, fstP (shP r n d) n 0 = -1 ∨ u (fstP (shP r n d) n 0).toNat = r (fstP (shP r n d) n 0).toNat := by
    intro d
    rcases fstP_r (shP r n d) n 0 with z | ⟨j, z1, z2, z3, z4⟩
    · exact Or.inl z.1
    · right; rw [z1]; exact e _ (by omega)
  simp only [h3]
  by_cases c1 : okG r 0 n
  · rw [if_pos c1, if_pos c1]
    by_cases c2 : w = 4
    · rw [if_pos c2, if_pos c2]
    · rw [if_neg c2, if_neg c2]
      by_cases c3 : fstP (shP r n 1) n 0 = -1 ∨ fstP (shP r n (-1)) n 0 = -1
      · rw [if_pos c3, if_pos c3]
      · rw [if_neg c3, if_neg c3]
        have h5 := (h4 1).resolve_left (fun z => c3 (Or.inl z))
        have h6 := (h4 (-1)).resolve_left (fun z => c3 (Or.inr z))
        rw [h5, h6, mnG_c e, mnG_c e]
  · rw [if_neg c1, if_neg c1]
theorem cnt_mul {x y : Int} (hx : 0 ≤ x ∧ x ≤ 12) (hy : 0 ≤ y ∧ y ≤ 12) : 0 ≤ x * y ∧ x * y ≤ 144 := by
  have h1 : 0 ≤ x * y := Int.mul_nonneg hx.1 hy.1
  have h2 : x * y ≤ 12 * 12 := Int.mul_le_mul hx.2 hy.2 hy.1 (by decide)
  omega
theorem alikeA_s {a b : Mm} (hT : InvT a b) (n w : Int) : F_X11_alike n w a = if (1 ≤ n ∧ n ≤ 12) ∧ (0 ≤ w ∧ w ≤ 4) ∧ n ≤ a 7 1 then some (alikeR (a 8) n.toNat w, upd2 a 7 1 0) else some (-1, a) := by
  have ht := hT.1
  unfold F_X11_alike J_X11_alike_72 F_X10_empty F_X10_has
  rw [within_s, cll_s, ib0]
  by_cases h1 : 1 ≤ n ∧ n ≤ 12
  · rw [if_pos h1, within_s, cll_s, ib0]
    by_cases h2 : 0 ≤ w ∧ w ≤ 4
    · rw [if_pos h2]
      by_cases h3 : n ≤ a 7 1
      · obtain ⟨k, rfl⟩ : ∃ k : Nat, n = k := ⟨n.toNat, by omega⟩
        have hr : ∀ i, i < k → 0 ≤ a 8 i ∧ a 8 i ≤ 255 := fun i hi => (hT.2 i (by omega)).2
        rw [if_neg (by omega), cll_s, if_pos (by decide), nmv_s, areG_s ht.2.2 h3 (by omega), cll_s, ib0, if_pos (show (1 ≤ (k : Int) ∧ (k : Int) ≤ 12) ∧ (0 ≤ w ∧ w ≤ 4) ∧ (k : Int) ≤ a 7 1 from ⟨h1, h2, h3⟩), Int.toNat_natCast]
        unfold alikeR
        by_cases c1 : okG (a 8) 0 k
        · rw [if_pos c1, if_pos c1]
          by_cases c2 : w = 4
          · have b1 := cntP_b (shP (a 8) k 1) k
            have b2 := cntP_b (shP (a 8) k (-1)) k
            have b3 := cnt_mul (x := cntP (shP (a 8) k 1) k) (y := cntP (shP (a 8) k (-1)) k) (by omega) (by omega)
            rw [if_neg (by simp [c2]), if_pos c2]
            unfold F_X8_howManyAlike
            rw [manyS_s ht.2.2 h3 (by omega) (by decide) hr, cll_s, manyS_s ht.2.2 h3 (by omega) (by decide) hr, cll_s, cll_s, nmv_s, stf_s, cll_s, wr_s (by omega)]
          · rw [if_pos c2, if_neg c2]
            unfold F_X8_firstAlike
            rw [firstS_s ht.2.2 h3 (by omega) (by decide) hr, cll_s, nmv_s, firstS_s ht.2.2 h3 (by omega) (by decide) hr, cll_s, nmv_s]
            by_cases c3 : fstP (shP (a 8) k 1) k 0 = -1
            · rw [if_pos (by omega), if_pos (show fstP (shP (a 8) k 1) k 0 = -1 ∨ fstP (shP (a 8) k (-1)) k 0 = -1 from Or.inl c3), cll_s, nmv_s, stf_s, cll_s]
            · by_cases c4 : fstP (shP (a 8) k (-1)) k 0 = -1
              · rw [if_neg (by omega), if_neg (by omega), if_pos (show fstP (shP (a 8) k 1) k 0 = -1 ∨ fstP (shP (a 8) k (-1)) k 0 = -1 from Or.inr c4), cll_s, nmv_s, stf_s, cll_s]
              · have c5 : ¬ (fstP (shP (a 8) k 1) k 0 = -1 ∨ fstP (shP (a 8) k (-1)) k 0 = -1) := fun z => z.elim c3 c4
                rw [if_neg (by omega), if_pos (by omega), if_neg c5]
                unfold alikeV
                by_cases w0 : w = 0
                · rw [if_pos w0, if_pos w0, cll_s, nmv_s, stf_s, cll_s]
                · rw [if_neg w0, if_neg w0]
                  by_cases w1 : w = 1
                  · rw [if_pos w1, if_pos w1, cll_s, nmv_s, stf_s, cll_s]
                  · rw [if_neg w1, if_neg w1]
                    by_cases w2 : w = 2
                    · rw [if_pos w2, if_pos w2]
                      obtain ⟨j, z1, z2, z3, z4⟩ := (fstP_r (shP (a 8) k 1) k 0).resolve_left (fun z => c3 z.1)
                      rw [z1, shifted_s ht.2.2 h3 (by omega) (by omega) (by decide) (hr j (by omega)), cll_s, cll_s, nmv_s, stf_s, cll_s, Int.toNat_natCast]
                    · rw [if_neg w2, if_neg w2]
                      obtain ⟨j, z1, z2, z3, z4⟩ := (fstP_r (shP (a 8) k (-1)) k 0).resolve_left (fun z => c4 z.1)
                      rw [z1, shifted_s ht.2.2 h3 (by omega) (by omega) (by decide) (hr j (by omega)), cll_s, cll_s, nmv_s, stf_s, cll_s, Int.toNat_natCast]
        · rw [if_neg c1, if_neg c1, stf_s, cll_s]
      · rw [if_pos (by omega), cll_s, if_neg (by decide), if_neg (fun z => h3 z.2.2)]
    · rw [if_neg h2, if_neg (fun z => h2 z.2.1)]
  · rw [if_neg h1, if_neg (fun z => h1 z.1)]

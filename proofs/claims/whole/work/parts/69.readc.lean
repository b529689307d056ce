/-! read: the reference counts from the front and from the back -/
def RbS (a b : Mm) (G : Tg) (N n : Nat) (ear lg : Int) (gp tl : Nat → Int) : Prop :=
  (InvP a b ∧ GB b G ∧ a 1 5 = (N : Int) ∧ (0 ≤ ear ∧ ear < (N : Int)) ∧ n ≤ 12) ∧ b 54 56 = lg ∧ (∀ i, i < n → b 80 i = gp i ∧ b 81 i = tl i)
def sFw (k i : Nat) : Bool := sN k i || k == 82 || k == 83
theorem frNF {m m' : Mm} (h : Fr sN m m') : Fr sFw m m' := h.mono fun k i e => by
  unfold sFw at e
  cases hs : sN k i with
  | false => rfl
  | true => rw [hs] at e; exact (nomatch e)
theorem RbS.fr {a b b' : Mm} {G : Tg} {N n : Nat} {ear lg : Int} {gp tl : Nat → Int} (h : RbS a b G N n ear lg gp tl) (f : Fr sFw b b') : RbS a b' G N n ear lg gp tl := by
  obtain ⟨⟨h1, h2, h3, h4, h5⟩, h6, h7⟩ := h
  refine ⟨⟨h1.fr (Fr.refl (fun _ _ => false) a) f, h2.fr (f 54 14 rfl) (fun k i g1 g2 => f k i (by
    unfold sFw sN
    simp only [Bool.or_eq_false_iff, Bool.and_eq_false_iff, beq_eq_false_iff_ne]
    omega)), h3, h4, h5⟩, (f 54 56 rfl).trans h6, fun i hi => ?_⟩
  rw [f.row 80 (fun _ => rfl), f.row 81 (fun _ => rfl)]
  exact h7 i hi
theorem fitsB_s {a b : Mm} {G : Tg} {N n : Nat} {ear lg : Int} {gp tl : Nat → Int} (h : RbS a b G N n ear lg gp tl) {i w : Nat} (hi : i < n) (hw : w < N) (l : Nat) : ∃ b', F_X12_fits ear (i : Int) (w : Int) (l : Int) b = some (b2i (ftB G (fun w => wayA a ear (w : Int)) (a 1 6) ear gp tl lg i w l = true), b') ∧ Fr sN b b' := by
  obtain ⟨⟨h1, h2, h3, h4, h5⟩, h6, h7⟩ := h
  have hf : ftB G (fun w => wayA a ear (w : Int)) (a 1 6) ear gp tl lg i w l = true ↔ wayA a ear (w : Int) ≤ a 1 6 ∧ (tl i = 32 ∨ mn G (gp i) (w : Int) (l : Int) (if i = 0 then lg else gp (i - 1)) ear (wayA a ear (w : Int)) = tl i) := by
    unfold ftB
    rw [Bool.and_eq_true, Bool.or_eq_true, decide_eq_true_eq, decide_eq_true_eq, decide_eq_true_eq]
  have hN := h1.A.1
  have hwe : 0 ≤ (w : Int) ∧ (w : Int) < a 1 5 := by omega
  have hee : 0 ≤ ear ∧ ear < a 1 5 := by omega
  unfold F_X12_fits
  rw [isNear_s h1 hee hwe, cll_s, ib0]
  show ∃ b', (if wayA a ear (w : Int) ≤ a 1 6 then _ else _) = _ ∧ _
  by_cases hn : wayA a ear (w : Int) ≤ a 1 6
  · rw [if_pos hn, ald_s (by omega), ald_s (by omega), Int.toNat_natCast, (h7 i hi).1, (h7 i hi).2]
    have key : ∀ p : Int, p = (if i = 0 then lg else gp (i - 1)) → ∃ b', cll (F_X12_wayOf ear (w : Int) b) (fun r8 m9 => cll (F_X12_means ear (gp i) (w : Int) (l : Int) p r8 m9) (fun r10 m11 => cll (F_X12_isAs (tl i) r10 m11) (fun r12 m13 => if r12 = 0 then some (0, m13) else some (1, m13)))) = some (b2i (ftB G (fun w => wayA a ear (w : Int)) (a 1 6) ear gp tl lg i w l = true), b') ∧ Fr sN b b' := by
      intro p hp
      obtain ⟨b1, e1, e2, _⟩ := means_s h2 ear (gp i) (w : Int) (l : Int) p (wayA a ear (w : Int))
      rw [wayOf_s h1 hee hwe, cll_s, e1, cll_s]
      unfold F_X12_isAs
      refine ⟨b1, ?_, e2⟩
      by_cases z1 : tl i = 32
      · rw [if_pos z1, cll_s, if_neg (by decide), b2i_t (hf.mpr ⟨hn, Or.inl z1⟩)]
      · rw [if_neg z1]
        by_cases z2 : mn G (gp i) (w : Int) (l : Int) p ear (wayA a ear (w : Int)) = tl i
        · rw [if_neg (fun z => z z2.symm), cll_s, if_neg (by decide), b2i_t (hf.mpr ⟨hn, Or.inr (by rw [← hp]; exact z2)⟩)]
        · rw [if_pos (fun z => z2 z.symm), cll_s, if_pos rfl, b2i_f (fun z => by
            rcases (hf.mp z).2 with y | y
            · exact z1 y
            · rw [← hp] at y; exact z2 y)]
    by_cases h0 : i = 0
    · rw [if_neg (by omega), h6]
      exact key lg (by rw [if_pos h0])
    · rw [if_pos (by omega), wr_s (by omega), ald_s (by omega), show ((i : Int) - 1).toNat = i - 1 by omega, (h7 (i - 1) (by omega)).1]
      exact key _ (by rw [if_neg h0])
  · rw [if_neg hn, b2i_f (fun z => hn (hf.mp z).1)]
    exact ⟨b, rfl, Fr.refl _ _⟩
abbrev K4 : Type := Int → Int → Int → Int → Mm → Rs
abbrev K5 : Type := Int → Int → Int → Int → Int → Mm → Rs
def Pw (ft : Nat → Nat → Nat → Bool) (N L0 i l v : Nat) : Int := if v < N then sg l (fun l' => if ft i v l' then Aw ft N L0 i l' else 0) else 0
theorem Pw_in (ft : Nat → Nat → Nat → Bool) (N L0 i : Nat) {l : Nat} (hl : l ≤ 9) (v : Nat) : 0 ≤ Pw ft N L0 i l v ∧ Pw ft N L0 i l v ≤ 9 * 9 ^ i := by
  unfold Pw
  have h9 := p9 i
  split
  · have := sg_in (M := 9 ^ i) (f := fun l' => if ft i v l' then Aw ft N L0 i l' else 0) l fun j _ => by
      show 0 ≤ (if ft i v j then Aw ft N L0 i j else 0) ∧ (if ft i v j then Aw ft N L0 i j else 0) ≤ 9 ^ i
      have := Aw_in ft N L0 i j
      split <;> omega
    have h2 : (l : Int) * 9 ^ i ≤ 9 * 9 ^ i := Int.mul_le_mul_of_nonneg_right (by omega) (by omega)
    omega
  · omega
theorem Aw_b (ft : Nat → Nat → Nat → Bool) (N L0 : Nat) {i : Nat} (hi : i ≤ 12) (l : Nat) : 0 ≤ Aw ft N L0 i l ∧ Aw ft N L0 i l ≤ 282429536481 := ⟨(Aw_in ft N L0 i l).1, Int.le_trans (Aw_in ft N L0 i l).2 (p912 hi)⟩
theorem Pw_b (ft : Nat → Nat → Nat → Bool) (N L0 : Nat) {i : Nat} (hi : i ≤ 12) {l : Nat} (hl : l ≤ 9) (v : Nat) : 0 ≤ Pw ft N L0 i l v ∧ Pw ft N L0 i l v ≤ 2541865828329 := by
  have h1 := Pw_in ft N L0 i hl v
  have h2 := p912 hi
  refine ⟨h1.1, Int.le_trans h1.2 ?_⟩
  generalize (9 : Int) ^ i = z at h2
  omega
theorem Pw_s (ft : Nat → Nat → Nat → Bool) {N : Nat} (L0 i l : Nat) {v : Nat} (hv : v < N) : Pw ft N L0 i (l + 1) v = Pw ft N L0 i l v + (if ft i v l then Aw ft N L0 i l else 0) := by
  unfold Pw
  rw [if_pos hv, if_pos hv, sg_s]
theorem Pw_z (ft : Nat → Nat → Nat → Bool) (N L0 i : Nat) {l : Nat} (h : Aw ft N L0 i l = 0) (v : Nat) : Pw ft N L0 i (l + 1) v = Pw ft N L0 i l v := by
  by_cases hv : v < N
  · rw [Pw_s ft L0 i l hv, h]
    split <;> exact Int.add_zero _
  · unfold Pw; rw [if_neg hv, if_neg hv]
theorem ix1 {i l : Nat} (hi : i < 13) (hl : l < 10) : wr (wr (9 * (i : Int)) + (l : Int)) = ((9 * i + l : Nat) : Int) := by
  rw [wr_s (x := 9 * (i : Int)) (by omega), wr_s (by omega)]; omega
theorem ix2 {i w : Nat} (hi : i < 13) (hw : w < 10) : wr (wr (wr (9 * (i : Int)) + 9) + (w : Int)) = ((9 * i + 9 + w : Nat) : Int) := by
  rw [wr_s (x := 9 * (i : Int)) (by omega), wr_s (x := 9 * (i : Int) + 9) (by omega), wr_s (by omega)]; omega
theorem fw225 {K : K4} {K2 : K5} {a : Mm} {G : Tg} {N n L0 i l : Nat} {ear lg what : Int} {gp tl : Nat → Int} (hi : i < n) (hl : l < 9) : ∀ (k w : Nat) (b : Mm) (f : Nat), w + k = N → RbS a b G N n ear lg gp tl → b 82 (9 * i + l) = Aw (ftB G (fun w => wayA a ear (w : Int)) (a 1 6) ear gp tl lg) N L0 i l → (∀ v, v < 9 → b 82 (9 * i + 9 + v) = if v < w then Pw (ftB G (fun w => wayA a ear (w : Int)) (a 1 6) ear gp tl lg) N L0 i (l + 1) v else Pw (ftB G (fun w => wayA a ear (w : Int)) (a 1 6) ear gp tl lg) N L0 i l v) → k < f →
    ∃ b', L_X12_read_225 K K2 f ear (n : Int) what (i : Int) (l : Int) (w : Int) b = K2 ear (n : Int) what (i : Int) ((l + 1 : Nat) : Int) b' ∧ Fr sFw b b' ∧ (∀ v, v < 9 → b' 82 (9 * i + 9 + v) = Pw (ftB G (fun w => wayA a ear (w : Int)) (a 1 6) ear gp tl lg) N L0 i (l + 1) v) ∧ (∀ m, (m < 9 * i + 9 ∨ 9 * i + 18 ≤ m) → b' 82 m = b 82 m) ∧ b' 83 = b 83 := by
  intro k
  induction k with
  | zero =>
    intro w b f hw hR hA hv hf
    obtain ⟨f', rfl⟩ : ∃ f', f = f' + 1 := ⟨f - 1, by omega⟩
    have hn2 := hR.1.1.n
    have hn3 := hR.1.2.2.1
    have hN8 := hR.1.1.A.1
    refine ⟨b, ?_, Fr.refl _ _, fun v h9 => ?_, fun _ _ => rfl, rfl⟩
    · show LB_X12_read_225 K K2 (L_X12_read_225 K K2 f') _ _ _ _ _ _ _ = _
      unfold LB_X12_read_225 J_X12_read_304
      rw [if_pos (by omega), nmv_s, wr_s (by omega)]
      rfl
    · rw [hv v h9]
      by_cases c : v < w
      · rw [if_pos c]
      · rw [if_neg c]
        unfold Pw
        rw [if_neg (by omega), if_neg (by omega)]
  | succ k ih =>
    intro w b f hw hR hA hv hf
    obtain ⟨f', rfl⟩ : ∃ f', f = f' + 1 := ⟨f - 1, by omega⟩
    have hn2 := hR.1.1.n
    have hn3 := hR.1.2.2.1
    have hn5 := hR.1.2.2.2.2
    have hN8 := hR.1.1.A.1
    generalize hft : ftB G (fun w => wayA a ear (w : Int)) (a 1 6) ear gp tl lg = ft at *
    have hAi := Aw_b ft N L0 (show i ≤ 12 by omega) l
    by_cases hz : Aw ft N L0 i l = 0
    · refine ⟨b, ?_, Fr.refl _ _, fun v h9 => ?_, fun _ _ => rfl, rfl⟩
      · show LB_X12_read_225 K K2 (L_X12_read_225 K K2 f') _ _ _ _ _ _ _ = _
        unfold LB_X12_read_225 J_X12_read_304
        rw [if_neg (by omega), ix1 (by omega) (by omega), ald_s (by omega), Int.toNat_natCast, hA, if_pos (by rw [hz]; decide), nmv_s, wr_s (by omega)]
        rfl
      · rw [hv v h9, Pw_z ft N L0 i hz]
        split <;> rfl
    · have hlc : ¬ lcmp (Aw ft N L0 i l) 0 ≤ 0 := by
        unfold lcmp
        rw [if_neg (by omega), if_neg hz]; decide
      obtain ⟨b1, e1, e2⟩ := fitsB_s hR (i := i) (w := w) hi (by omega) l
      rw [hft] at e1
      have r82 : b1 82 = b 82 := e2.row 82 (fun _ => rfl)
      have hvw := hv w (by omega)
      rw [if_neg (Nat.lt_irrefl w)] at hvw
      have hPw := Pw_b ft N L0 (show i ≤ 12 by omega) (show l ≤ 9 by omega) w
      have hst : L_X12_read_225 K K2 (f' + 1) ear (n : Int) what (i : Int) (l : Int) (w : Int) b = if ft i w l = true then L_X12_read_225 K K2 f' ear (n : Int) what (i : Int) (l : Int) ((w + 1 : Nat) : Int) (upd2 b1 82 (9 * i + 9 + w) (Pw ft N L0 i l w + Aw ft N L0 i l)) else L_X12_read_225 K K2 f' ear (n : Int) what (i : Int) (l : Int) ((w + 1 : Nat) : Int) b1 := by
        show LB_X12_read_225 K K2 (L_X12_read_225 K K2 f') _ _ _ _ _ _ _ = _
        unfold LB_X12_read_225 J_X12_read_298
        rw [if_neg (by omega), ix1 (by omega) (by omega), ald_s (by omega), Int.toNat_natCast, hA, if_neg hlc, e1, cll_s, ib0]
        by_cases hc : ft i w l = true
        · rw [if_pos hc, if_pos hc, ix2 (by omega) (by omega), ald_s (by omega), ald_s (by omega), ast_s (by omega), nmv_s, Int.toNat_natCast, Int.toNat_natCast, r82, hvw, hA, wl_id (by unfold inL; omega), wr_s (by omega)]
          rfl
        · rw [if_neg hc, if_neg hc, nmv_s, wr_s (by omega)]
          rfl
      rw [hst]
      by_cases hc : ft i w l = true
      · rw [if_pos hc]
        have hfr : Fr sFw b (upd2 b1 82 (9 * i + 9 + w) (Pw ft N L0 i l w + Aw ft N L0 i l)) := Fr.upd (frNF e2) _ rfl
        obtain ⟨b2, r1, r2, r3, r4, r5⟩ := ih (w + 1) (upd2 b1 82 (9 * i + 9 + w) (Pw ft N L0 i l w + Aw ft N L0 i l)) f' (by omega) (hR.fr hfr) (by rw [u2n (by omega), r82]; exact hA) (fun v h9 => by
          by_cases e : v = w
          · subst e
            rw [u2s, if_pos (by omega), Pw_s ft L0 i l (by omega), if_pos hc]
          · rw [u2n (by omega), r82, hv v h9]
            by_cases c : v < w
            · rw [if_pos c, if_pos (by omega)]
            · rw [if_neg c, if_neg (by omega)]) (by omega)
        exact ⟨b2, r1, hfr.trans r2, r3, fun m hm => by rw [r4 m hm, u2n (by omega), r82], by rw [r5, u2r (by decide)]; exact e2.row 83 (fun _ => rfl)⟩
      · rw [if_neg hc]
        obtain ⟨b2, r1, r2, r3, r4, r5⟩ := ih (w + 1) b1 f' (by omega) (hR.fr (frNF e2)) (by rw [r82]; exact hA) (fun v h9 => by
          rw [r82, hv v h9]
          by_cases e : v = w
          · subst e
            rw [if_neg (Nat.lt_irrefl _), if_pos (by omega), Pw_s ft L0 i l (by omega), if_neg hc, Int.add_zero]
          · by_cases c : v < w
            · rw [if_pos c, if_pos (by omega)]
            · rw [if_neg c, if_neg (by omega)]) (by omega)
        exact ⟨b2, r1, (frNF e2).trans r2, r3, fun m hm => by rw [r4 m hm, r82], by rw [r5]; exact e2.row 83 (fun _ => rfl)⟩
theorem fw215 {K : K4} {a : Mm} {G : Tg} {N n L0 i : Nat} {ear lg what : Int} {gp tl : Nat → Int} (hi : i < n) : ∀ (k l : Nat) (b : Mm) (f : Nat), l + k = 9 → RbS a b G N n ear lg gp tl → (∀ v, v < 9 → b 82 (9 * i + v) = Aw (ftB G (fun w => wayA a ear (w : Int)) (a 1 6) ear gp tl lg) N L0 i v) → (∀ v, v < 9 → b 82 (9 * i + 9 + v) = Pw (ftB G (fun w => wayA a ear (w : Int)) (a 1 6) ear gp tl lg) N L0 i l v) → k < f →
    ∃ b', L_X12_read_215 K f ear (n : Int) what (i : Int) (l : Int) b = K ear (n : Int) what ((i + 1 : Nat) : Int) b' ∧ Fr sFw b b' ∧ (∀ v, v < 9 → b' 82 (9 * i + 9 + v) = Aw (ftB G (fun w => wayA a ear (w : Int)) (a 1 6) ear gp tl lg) N L0 (i + 1) v) ∧ (∀ m, (m < 9 * i + 9 ∨ 9 * i + 18 ≤ m) → b' 82 m = b 82 m) ∧ b' 83 = b 83 := by
  intro k
  induction k with
  | zero =>
    intro l b f hl hR hA hv hf
    obtain ⟨f', rfl⟩ : ∃ f', f = f' + 1 := ⟨f - 1, by omega⟩
    have hn5 := hR.1.2.2.2.2
    have e9 : l = 9 := by omega
    subst e9
    refine ⟨b, ?_, Fr.refl _ _, fun v h9 => by rw [hv v h9, Aw_s]; rfl, fun _ _ => rfl, rfl⟩
    show LB_X12_read_215 K (L_X12_read_215 K f') _ _ _ _ _ _ = _
    unfold LB_X12_read_215
    rw [if_pos (by decide), nmv_s, wr_s (by omega)]
    rfl
  | succ k ih =>
    intro l b f hl hR hA hv hf
    obtain ⟨f', rfl⟩ : ∃ f', f = f' + 1 := ⟨f - 1, by omega⟩
    have hN8 := hR.1.1.A.1
    have hn3 := hR.1.2.2.1
    obtain ⟨b1, e1, e2, e3, e4, e5⟩ := fw225 (K := K) (K2 := L_X12_read_215 K f') (what := what) (L0 := L0) hi (show l < 9 by omega) N 0 b 100000 (by omega) hR (hA l (by omega)) (fun v h9 => by rw [if_neg (by omega)]; exact hv v h9) (by omega)
    obtain ⟨b2, r1, r2, r3, r4, r5⟩ := ih (l + 1) b1 f' (by omega) (hR.fr e2) (fun v h9 => by rw [e4 _ (by omega)]; exact hA v h9) e3 (by omega)
    refine ⟨b2, ?_, e2.trans r2, r3, fun m hm => by rw [r4 m hm, e4 m hm], r5.trans e5⟩
    rw [← r1, ← e1]
    show LB_X12_read_215 K (L_X12_read_215 K f') _ _ _ _ _ _ = _
    unfold LB_X12_read_215
    rw [if_neg (by omega), nmv_s]
    rfl
theorem fw206 {a : Mm} {G : Tg} {N n L0 : Nat} {ear lg what : Int} {gp tl : Nat → Int} : ∀ (k i : Nat) (b : Mm) (f : Nat), i + k = n → RbS a b G N n ear lg gp tl → (∀ j v, j ≤ i → v < 9 → b 82 (9 * j + v) = Aw (ftB G (fun w => wayA a ear (w : Int)) (a 1 6) ear gp tl lg) N L0 j v) → (∀ m, 9 * i + 9 ≤ m → m < 126 → b 82 m = 0) → k < f →
    ∃ b', L_X12_read_206 f ear (n : Int) what (i : Int) b = L_X12_read_319 100000 ear (n : Int) what ((0 : Nat) : Int) b' ∧ Fr sFw b b' ∧ (∀ j v, j ≤ n → v < 9 → b' 82 (9 * j + v) = Aw (ftB G (fun w => wayA a ear (w : Int)) (a 1 6) ear gp tl lg) N L0 j v) ∧ b' 83 = b 83 := by
  intro k
  induction k with
  | zero =>
    intro i b f hi hR hA hz hf
    obtain ⟨f', rfl⟩ : ∃ f', f = f' + 1 := ⟨f - 1, by omega⟩
    refine ⟨b, ?_, Fr.refl _ _, fun j v h1 h2 => hA j v (by omega) h2, rfl⟩
    show LB_X12_read_206 (L_X12_read_206 f') _ _ _ _ _ = _
    unfold LB_X12_read_206
    rw [if_pos (by omega), nmv_s]
    rfl
  | succ k ih =>
    intro i b f hi hR hA hz hf
    obtain ⟨f', rfl⟩ : ∃ f', f = f' + 1 := ⟨f - 1, by omega⟩
    have hn5 := hR.1.2.2.2.2
    obtain ⟨b1, e1, e2, e3, e4, e5⟩ := fw215 (K := L_X12_read_206 f') (what := what) (L0 := L0) (show i < n by omega) 9 0 b 100000 (by omega) hR (fun v h9 => hA i v (Nat.le_refl _) h9) (fun v h9 => by
      rw [hz _ (by omega) (by omega)]
      unfold Pw
      split <;> rfl) (by omega)
    obtain ⟨b2, r1, r2, r3, r4⟩ := ih (i + 1) b1 f' (by omega) (hR.fr e2) (fun j v h1 h2 => by
      by_cases e : j = i + 1
      · subst e; exact e3 v h2
      · rw [e4 _ (by omega)]; exact hA j v (by omega) h2) (fun m h1 h2 => by rw [e4 _ (by omega)]; exact hz m (by omega) h2) (by omega)
    refine ⟨b2, ?_, e2.trans r2, r3, r4.trans e5⟩
    rw [← r1, ← e1]
    show LB_X12_read_206 (L_X12_read_206 f') _ _ _ _ _ = _
    unfold LB_X12_read_206
    rw [if_neg (by omega), nmv_s]
    rfl

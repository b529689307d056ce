/-! read: the class, all gaps; what goes on -/
theorem go33 {i cr : Nat} (hcr : isRw cr) (hi : i < 12) : ∀ (k w : Nat) (a : Mm) (f : Nat), w + k = 9 → a 34 8 = (cr : Int) → (∀ v, v < w → a cr v = 0) → k < f → ∃ a', L_X5_goOn_33 f (i : Int) (w : Int) a = L_X5_goOn_61 100000 (i : Int) ((0 : Nat) : Int) a' ∧ (∀ v, v < 9 → a' cr v = 0) ∧ (∀ c, c ≠ cr → c ≠ 38 → a' c = a c) ∧ a' 38 = upr (a 38) i 0 := by
  intro k
  induction k with
  | zero =>
    intro w a f hw h8 hz hf
    obtain ⟨f', rfl⟩ : ∃ f', f = f' + 1 := ⟨f - 1, by omega⟩
    refine ⟨upd2 a 38 i 0, ?_, fun v hv => by rw [u2r (by omega)]; exact hz v (by omega), fun c _ h => u2r h, by rw [u2_row]⟩
    show LB_X5_goOn_33 (L_X5_goOn_33 f') _ _ _ = _
    unfold LB_X5_goOn_33
    rw [if_pos (by omega), ast_s (by omega), nmv_s, Int.toNat_natCast]
    rfl
  | succ k ih =>
    intro w a f hw h8 hz hf
    obtain ⟨f', rfl⟩ : ∃ f', f = f' + 1 := ⟨f - 1, by omega⟩
    obtain ⟨a', r1, r2, r3, r4⟩ := ih (w + 1) (upd2 a cr w 0) f' (by omega) (by rw [u2r (by omega)]; exact h8) (fun v hv => by
      by_cases e : v = w
      · subst e; rw [u2s]
      · rw [u2n e]; exact hz v (by omega)) (by omega)
    refine ⟨a', ?_, r2, fun c h1 h2 => (r3 c h1 h2).trans (u2r h1), by rw [r4, u2r (by omega)]⟩
    rw [← r1]
    show LB_X5_goOn_33 (L_X5_goOn_33 f') _ _ _ = _
    unfold LB_X5_goOn_33
    rw [if_neg (by omega), h8, Int.toNat_natCast, grd_s hcr, ast_s (by omega), nmv_s, Int.toNat_natCast, wr_s (by omega)]
    rfl
def MayO (a : Mm) (ft : Nat → Nat → Nat → Bool) (N L0 j : Nat) : Prop := S8 (a 38 j) ∧ ∀ v, v < 8 → (bit (a 38 j) v = 1 ↔ 0 < Aw ft N L0 (j + 1) v)
def FolO (a : Mm) (ft : Nat → Nat → Nat → Bool) (N L0 j : Nat) : Prop := ∀ l', l' < 9 → S8 (a 37 (9 * j + l')) ∧ ∀ v, v < 8 → (bit (a 37 (9 * j + l')) v = 1 ↔ v < N ∧ ft j v l' = true ∧ 0 < Aw ft N L0 j l')
def sGr (k i : Nat) : Bool := sGo k i || (k == 34 && (i == 8 || i == 9))
theorem frGG {m m' : Mm} (h : Fr sGo m m') : Fr sGr m m' := h.mono fun k i e => by
  unfold sGr at e
  cases hs : sGo k i with
  | false => rfl
  | true => rw [hs] at e; exact (nomatch e)
theorem goOn_s {G : Tg} {N n : Nat} {ear lg rg : Int} {wy gp tl : Nat → Int} {cr ca i L0 : Nat} (hi : i < n) {a : Mm} (hR : RdS a G N n ear lg rg wy gp tl cr ca) (hca : ∀ v, v < 9 → a cr v = Aw (ftB G wy rg ear gp tl lg) N L0 i v) :
    ∃ a', F_X5_goOn (i : Int) a = some (0, a') ∧ RdS a' G N n ear lg rg wy gp tl ca cr ∧ (∀ v, v < 9 → a' ca v = Aw (ftB G wy rg ear gp tl lg) N L0 (i + 1) v) ∧ MayO a' (ftB G wy rg ear gp tl lg) N L0 i ∧ FolO a' (ftB G wy rg ear gp tl lg) N L0 i ∧ (∀ j, j ≠ i → a' 38 j = a 38 j) ∧ (∀ j, j < 9 * i → a' 37 j = a 37 j) ∧ Fr sGr a a' := by
  have hR' := hR
  obtain ⟨⟨h1, h2, h3, h4, h5, h6⟩, ⟨h7, h8', h9, h10⟩, h11, h12, h13, h14, h15, h16⟩ := hR
  have hN8 := h1.1
  have hRs : RdS (upd2 (upd2 a 34 8 (ca : Int)) 34 9 (cr : Int)) G N n ear lg rg wy gp tl ca cr := by
    have f0 : Fr (fun k i => k == 34 && (i == 8 || i == 9)) a (upd2 (upd2 a 34 8 (ca : Int)) 34 9 (cr : Int)) := Fr.upd (Fr.upd (Fr.refl _ _) _ rfl) _ rfl
    refine ⟨⟨h1.fr f0, h2.fr (f0 17 3 rfl) (fun k i g1 g2 => f0 k i (by simp only [Bool.and_eq_false_iff, beq_eq_false_iff_ne]; omega)), (f0 1 5 rfl).trans h3, h4, (f0 1 6 rfl).trans h5, fun w => by rw [wayA_fr f0]; exact h6 w⟩, ⟨(f0 34 10 rfl).trans h7, (f0 34 11 rfl).trans h8', (f0 34 13 rfl).trans h9, h10⟩, fun j hj => by rw [f0.row 35 (fun _ => rfl), f0.row 36 (fun _ => rfl)]; exact h11 j hj, h13, h12, fun z => h14 z.symm, by rw [u2n (by decide), u2s], u2s _ _ _ _⟩
  obtain ⟨a1, e1, e2, e3, e4⟩ := go33 h13 (show i < 12 by omega) 9 0 (upd2 (upd2 a 34 8 (ca : Int)) 34 9 (cr : Int)) 100000 (by omega) (by rw [u2n (by decide), u2s]) (fun v hv => absurd hv (by omega)) (by omega)
  have f1 : Fr sGo (upd2 (upd2 a 34 8 (ca : Int)) 34 9 (cr : Int)) a1 := by
    intro c j hcj
    have n38 : c ≠ 38 := fun z => by subst z; exact (nomatch (show true = false from hcj))
    have nca : c ≠ ca := fun z => by subst z; rw [sGo_r h13] at hcj; exact absurd hcj (by decide)
    rw [e3 c nca n38]
  have h0 : ∀ v : Nat, v < 8 → bit 0 v = 0 := by decide +kernel
  obtain ⟨a2, t1, t2, t3, t4, t5, t6, t7, t8, t9⟩ := go61 (L0 := L0) hi 9 0 a1 100000 (by omega) (hRs.frG f1) (fun v hv => by rw [e3 cr h14 (by omega), u2r (by omega), u2r (by omega)]; exact hca v hv) (fun v hv => by
      rw [e2 v (by omega)]
      split <;> rfl) (e2 8 (by omega)) (by rw [e4, upr_s]; exact ⟨by decide, by decide⟩) (fun v hv => by
      rw [e4, upr_s, h0 v hv]
      constructor
      · intro z; exact absurd z (by decide)
      · rintro ⟨_, l', z, _⟩; omega) (fun l' hl' => absurd hl' (by omega)) (by omega)
  refine ⟨a2, ?_, (hRs.frG f1).frG t2, t4, ⟨t5, t6⟩, t7, fun j hj => ?_, fun j hj => ?_, ((Fr.upd (Fr.upd (Fr.refl _ _) _ rfl) _ rfl).trans (frGG f1)).trans (frGG t2)⟩
  · unfold F_X5_goOn
    rw [if_neg (by omega), if_pos (by omega), stf_s, stf_s, nmv_s, h16, h15, Int.toNat_natCast, Int.toNat_natCast]
    rw [show ((0 : Nat) : Int) = 0 from rfl] at e1 t1
    rw [e1, t1]
  · rw [t8 j hj, e4, upr_n hj, u2r (by decide), u2r (by decide)]
  · rw [t9 j hj, e3 37 (by omega) (by decide), u2r (by decide), u2r (by decide)]
theorem MayO.of {a a' : Mm} {ft : Nat → Nat → Nat → Bool} {N L0 j : Nat} (h : MayO a ft N L0 j) (e : a' 38 j = a 38 j) : MayO a' ft N L0 j := by unfold MayO; rw [e]; exact h
theorem FolO.of {a a' : Mm} {ft : Nat → Nat → Nat → Bool} {N L0 j i : Nat} (h : FolO a ft N L0 j) (hj : j < i) (e : ∀ k, k < 9 * i → a' 37 k = a 37 k) : FolO a' ft N L0 j := fun l' hl' => by rw [e _ (by omega)]; exact h l' hl'
/-- one who goes on nowhere is taken out -/
theorem keep13 {K : Int → Mm → Rs} {ft : Nat → Nat → Nat → Bool} {N L0 i r : Nat} (hN : N ≤ 8) (hi : i + 1 < 12) : ∀ (k w : Nat) (a : Mm) (f : Nat), w + k = 8 → FolO a ft N L0 (i + 1) → S8 (a 38 (i + 1)) → (∀ v, v < 8 → (bit (a 38 (i + 1)) v = 1 ↔ 0 < Aw ft N L0 (i + 2) v ∧ 0 < Bw ft N r (i + 2) v)) → S8 (a 38 i) → (∀ v, v < 8 → (bit (a 38 i) v = 1 ↔ 0 < Aw ft N L0 (i + 1) v ∧ (v < w → 0 < Bw ft N (r + 1) (i + 1) v))) → k < f → ∃ a', L_X5_keepWhatGoesOn_13 K f (i : Int) (w : Int) a = K (wr ((i : Int) + -1)) a' ∧ S8 (a' 38 i) ∧ (∀ v, v < 8 → (bit (a' 38 i) v = 1 ↔ 0 < Aw ft N L0 (i + 1) v ∧ 0 < Bw ft N (r + 1) (i + 1) v)) ∧ (∀ j, j ≠ i → a' 38 j = a 38 j) ∧ (∀ c, c ≠ 38 → a' c = a c) := by
  intro k
  induction k with
  | zero =>
    intro w a f hw hF s1 b1 s0 b0 hf
    obtain ⟨f', rfl⟩ : ∃ f', f = f' + 1 := ⟨f - 1, by omega⟩
    refine ⟨a, ?_, s0, fun v hv => ?_, fun _ _ => rfl, fun _ _ => rfl⟩
    · show LB_X5_keepWhatGoesOn_13 K (L_X5_keepWhatGoesOn_13 K f') _ _ _ = _
      unfold LB_X5_keepWhatGoesOn_13
      rw [if_pos (by omega), nmv_s]
    · rw [b0 v hv]
      constructor
      · rintro ⟨z1, z2⟩; exact ⟨z1, z2 (by omega)⟩
      · rintro ⟨z1, z2⟩; exact ⟨z1, fun _ => z2⟩
  | succ k ih =>
    intro w a f hw hF s1 b1 s0 b0 hf
    obtain ⟨f', rfl⟩ : ∃ f', f = f' + 1 := ⟨f - 1, by omega⟩
    have hbw := b0 w (by omega)
    have h01 := bit_01 (x := a 38 i) (by unfold S8 at s0; omega) (i := w) (by omega)
    obtain ⟨fs, fb⟩ := hF w (by omega)
    obtain ⟨n1, n2⟩ := bit_and fs s1
    -- what goes on
    have hon : 0 < Aw ft N L0 (i + 1) w → (¬ iand (a 37 (9 * (i + 1) + w)) (a 38 (i + 1)) = 0 ↔ 0 < Bw ft N (r + 1) (i + 1) w) := by
      intro hA
      rw [Bw_pos ft hN]
      constructor
      · intro hz
        by_cases hex : ∃ v, v < 8 ∧ bit (iand (a 37 (9 * (i + 1) + w)) (a 38 (i + 1))) v = 1
        · obtain ⟨v, hv, hb⟩ := hex
          obtain ⟨z1, z2⟩ := (n2 v hv).mp hb
          obtain ⟨z3, z4, _⟩ := (fb v hv).mp z1
          exact ⟨v, z3, z4, ((b1 v hv).mp z2).2⟩
        · exact absurd ((S8_0 n1).mpr fun v hv hb => hex ⟨v, hv, hb⟩) hz
      · rintro ⟨v, z1, z2, z3⟩ hz
        have hv : v < 8 := by omega
        refine (S8_0 n1).mp hz v hv ((n2 v hv).mpr ⟨(fb v hv).mpr ⟨z1, z2, hA⟩, (b1 v hv).mpr ⟨?_, z3⟩⟩)
        rw [Aw_pos]
        exact ⟨z1, w, by omega, z2, hA⟩
    have hnx : ∀ a1 : Mm, (∀ j, j ≠ i → a1 38 j = a 38 j) → (∀ c, c ≠ 38 → a1 c = a c) → S8 (a1 38 i) → (∀ v, v < 8 → (bit (a1 38 i) v = 1 ↔ 0 < Aw ft N L0 (i + 1) v ∧ (v < w + 1 → 0 < Bw ft N (r + 1) (i + 1) v))) → ∃ a', J_X5_keepWhatGoesOn_81 K (L_X5_keepWhatGoesOn_13 K f') (i : Int) (w : Int) a1 = K (wr ((i : Int) + -1)) a' ∧ S8 (a' 38 i) ∧ (∀ v, v < 8 → (bit (a' 38 i) v = 1 ↔ 0 < Aw ft N L0 (i + 1) v ∧ 0 < Bw ft N (r + 1) (i + 1) v)) ∧ (∀ j, j ≠ i → a' 38 j = a 38 j) ∧ (∀ c, c ≠ 38 → a' c = a c) := by
      intro a1 c1 c2 c3 c4
      obtain ⟨a', r1, r2, r3, r4, r5⟩ := ih (w + 1) a1 f' (by omega) (fun l' hl' => by rw [c2 37 (by decide)]; exact hF l' hl') (by rw [c1 _ (by omega)]; exact s1) (by rw [c1 _ (by omega)]; exact b1) c3 c4 (by omega)
      refine ⟨a', ?_, r2, r3, fun j hj => (r4 j hj).trans (c1 j hj), fun c hc => (r5 c hc).trans (c2 c hc)⟩
      unfold J_X5_keepWhatGoesOn_81
      rw [nmv_s, wr_s (x := (w : Int) + 1) (by omega)]
      exact r1
    show ∃ a', LB_X5_keepWhatGoesOn_13 K (L_X5_keepWhatGoesOn_13 K f') _ _ _ = _ ∧ _
    unfold LB_X5_keepWhatGoesOn_13
    rw [if_neg (by omega), ald_s (by omega), Int.toNat_natCast]
    show ∃ a', (if bit (a 38 i) w = 0 then _ else _) = _ ∧ _
    unfold J_X5_keepWhatGoesOn_38
    by_cases hb : bit (a 38 i) w = 0
    · rw [if_pos hb, nmv_s, if_pos rfl]
      refine hnx a (fun _ _ => rfl) (fun _ _ => rfl) s0 fun v hv => ?_
      rw [b0 v hv]
      constructor
      · rintro ⟨z1, z2⟩
        refine ⟨z1, fun z => ?_⟩
        by_cases e : v = w
        · subst e
          have := hbw.mpr ⟨z1, z2⟩
          omega
        · exact z2 (by omega)
      · rintro ⟨z1, z2⟩; exact ⟨z1, fun z => z2 (by omega)⟩
    · have hb1 : bit (a 38 i) w = 1 := by omega
      have hAw := (hbw.mp hb1).1
      rw [if_neg hb, nmv_s, if_neg (by decide), wr_s (x := (i : Int) + 1) (by omega), wr_s (x := ((i : Int) + 1) * 9) (by omega), wr_s (by omega), ald_s (by omega), ald_s (by omega), show (((i : Int) + 1) * 9 + (w : Int)).toNat = 9 * (i + 1) + w by omega, show ((i : Int) + 1).toNat = i + 1 by omega]
      by_cases hg : iand (a 37 (9 * (i + 1) + w)) (a 38 (i + 1)) = 0
      · rw [if_neg (fun z => z hg), ald_s (by omega), ast_s (by omega), Int.toNat_natCast]
        obtain ⟨c1, c2⟩ := bit_clr s0 (v := w) (by omega)
        have hnB : ¬ 0 < Bw ft N (r + 1) (i + 1) w := fun z => (hon hAw).mpr z hg
        refine hnx _ (fun j hj => u2n hj) (fun c hc => u2r hc) (by rw [u2s]; exact c1) fun v hv => ?_
        rw [u2s, c2 v hv, b0 v hv]
        constructor
        · rintro ⟨⟨z1, z2⟩, z3⟩; exact ⟨z1, fun z => z2 (by omega)⟩
        · rintro ⟨z1, z2⟩
          refine ⟨⟨z1, fun z => z2 (by omega)⟩, fun e => ?_⟩
          subst e
          exact hnB (z2 (by omega))
      · rw [if_pos hg]
        refine hnx a (fun _ _ => rfl) (fun _ _ => rfl) s0 fun v hv => ?_
        rw [b0 v hv]
        constructor
        · rintro ⟨z1, z2⟩
          refine ⟨z1, fun z => ?_⟩
          by_cases e : v = w
          · subst e; exact (hon hAw).mp hg
          · exact z2 (by omega)
        · rintro ⟨z1, z2⟩; exact ⟨z1, fun z => z2 (by omega)⟩
theorem keep7 {ft : Nat → Nat → Nat → Bool} {N L0 n : Nat} (hN : N ≤ 8) (hn : n ≤ 12) : ∀ (i : Nat) (a : Mm) (f : Nat), i + 1 ≤ n → (∀ j, j < n → FolO a ft N L0 j) → (∀ j, j < n → S8 (a 38 j) ∧ ∀ v, v < 8 → (bit (a 38 j) v = 1 ↔ 0 < Aw ft N L0 (j + 1) v ∧ (i ≤ j → 0 < Bw ft N (n - 1 - j) (j + 1) v))) → i < f → ∃ a', L_X5_keepWhatGoesOn_7 f ((i : Int) - 1) a = some (0, a') ∧ (∀ j, j < n → S8 (a' 38 j) ∧ ∀ v, v < 8 → (bit (a' 38 j) v = 1 ↔ 0 < Aw ft N L0 (j + 1) v ∧ 0 < Bw ft N (n - 1 - j) (j + 1) v)) ∧ (∀ c, c ≠ 38 → a' c = a c) := by
  intro i
  induction i with
  | zero =>
    intro a f hi hF hM hf
    obtain ⟨f', rfl⟩ : ∃ f', f = f' + 1 := ⟨f - 1, by omega⟩
    refine ⟨a, ?_, fun j hj => ⟨(hM j hj).1, fun v hv => ?_⟩, fun _ _ => rfl⟩
    · show LB_X5_keepWhatGoesOn_7 (L_X5_keepWhatGoesOn_7 f') _ _ = _
      unfold LB_X5_keepWhatGoesOn_7
      rw [if_pos (by omega)]
    · rw [(hM j hj).2 v hv]
      constructor
      · rintro ⟨z1, z2⟩; exact ⟨z1, z2 (by omega)⟩
      · rintro ⟨z1, z2⟩; exact ⟨z1, fun _ => z2⟩
  | succ i ih =>
    intro a f hi hF hM hf
    obtain ⟨f', rfl⟩ : ∃ f', f = f' + 1 := ⟨f - 1, by omega⟩
    have er : n - 1 - i = (n - 1 - (i + 1)) + 1 := by omega
    obtain ⟨a1, r1, r2, r3, r4, r5⟩ := keep13 (K := L_X5_keepWhatGoesOn_7 f') (ft := ft) (N := N) (L0 := L0) (i := i) (r := n - 1 - (i + 1)) hN (by omega) 8 0 a 100000 (by omega) (hF (i + 1) (by omega)) (hM (i + 1) (by omega)).1 (fun v hv => by
        rw [(hM (i + 1) (by omega)).2 v hv]
        constructor
        · rintro ⟨z1, z2⟩; exact ⟨z1, z2 (Nat.le_refl _)⟩
        · rintro ⟨z1, z2⟩; exact ⟨z1, fun _ => z2⟩) (hM i (by omega)).1 (fun v hv => by
        rw [(hM i (by omega)).2 v hv]
        constructor
        · rintro ⟨z1, z2⟩; exact ⟨z1, fun z => absurd z (by omega)⟩
        · rintro ⟨z1, z2⟩; exact ⟨z1, fun z => absurd z (by omega)⟩) (by omega)
    obtain ⟨a2, t1, t2, t3⟩ := ih a1 f' (by omega) (fun j hj l' hl' => by rw [r5 37 (by decide)]; exact hF j hj l' hl') (fun j hj => by
        by_cases e : j = i
        · subst e
          refine ⟨r2, fun v hv => ?_⟩
          rw [r3 v hv, er]
          constructor
          · rintro ⟨z1, z2⟩; exact ⟨z1, fun _ => z2⟩
          · rintro ⟨z1, z2⟩; exact ⟨z1, z2 (Nat.le_refl _)⟩
        · rw [r4 j e]
          refine ⟨(hM j hj).1, fun v hv => ?_⟩
          rw [(hM j hj).2 v hv]
          constructor
          · rintro ⟨z1, z2⟩; exact ⟨z1, fun z => z2 (by omega)⟩
          · rintro ⟨z1, z2⟩; exact ⟨z1, fun z => z2 (by omega)⟩) (by omega)
    refine ⟨a2, ?_, t2, fun c hc => (t3 c hc).trans (r5 c hc)⟩
    rw [show ((i + 1 : Nat) : Int) - 1 = (i : Int) by omega]
    show LB_X5_keepWhatGoesOn_7 (L_X5_keepWhatGoesOn_7 f') _ _ = _
    unfold LB_X5_keepWhatGoesOn_7
    rw [if_neg (by omega), nmv_s]
    rw [show ((0 : Nat) : Int) = 0 from rfl, wr_s (by omega), show (i : Int) + -1 = (i : Int) - 1 by omega] at r1
    rw [r1, t1]
theorem many_l {cr : Nat} {A : Nat → Int} {M : Int} (hcr : isRw cr) (hM : M ≤ 1000000000000) : ∀ (k w : Nat) (a : Mm) (acc : Int) (f : Nat), w + k = 8 → a 34 8 = (cr : Int) → (∀ v, v < 8 → a cr v = A v ∧ 0 ≤ A v ∧ A v ≤ M) → acc = sg w A → (0 ≤ acc ∧ acc ≤ w * M) → k < f → L_X5_howManyRows_4 f acc (w : Int) a = some (sg 8 A, a) := by
  intro k
  induction k with
  | zero =>
    intro w a acc f hw h8 hA hacc hb hf
    obtain ⟨f', rfl⟩ : ∃ f', f = f' + 1 := ⟨f - 1, by omega⟩
    show LB_X5_howManyRows_4 (L_X5_howManyRows_4 f') _ _ _ = _
    unfold LB_X5_howManyRows_4
    rw [if_pos (by omega), hacc, show w = 8 by omega]
  | succ k ih =>
    intro w a acc f hw h8 hA hacc hb hf
    obtain ⟨f', rfl⟩ : ∃ f', f = f' + 1 := ⟨f - 1, by omega⟩
    have hw8 := hA w (by omega)
    have h3 : ((w + 1 : Nat) : Int) * M = w * M + M := by push_cast; rw [Int.add_mul, Int.one_mul]
    have h4 : (w : Int) * M ≤ 8 * M := Int.mul_le_mul_of_nonneg_right (by omega) (by omega)
    show LB_X5_howManyRows_4 (L_X5_howManyRows_4 f') _ _ _ = _
    unfold LB_X5_howManyRows_4
    rw [if_neg (by omega), h8, Int.toNat_natCast, grd_s hcr, ald_s (by omega), nmv_s, nmv_s, Int.toNat_natCast, hw8.1, wl_id (by unfold inL; omega), wr_s (by omega)]
    exact ih (w + 1) a (acc + A w) f' (by omega) h8 hA (by rw [sg_s, hacc]) (by omega) (by omega)

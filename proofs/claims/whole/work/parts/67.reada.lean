/-! read: the class goes on by one gap -/
def RdS (a : Mm) (G : Tg) (N n : Nat) (ear lg rg : Int) (wy gp tl : Nat → Int) (cr ca : Nat) : Prop :=
  (PpA a ∧ GA a G ∧ a 1 5 = (N : Int) ∧ (0 ≤ ear ∧ ear < (N : Int)) ∧ a 1 6 = rg ∧ ∀ w : Nat, wayA a ear (w : Int) = wy w) ∧ (a 34 10 = (n : Int) ∧ a 34 11 = ear ∧ a 34 13 = lg ∧ n ≤ 12) ∧ (∀ i, i < n → a 35 i = gp i ∧ a 36 i = tl i) ∧ (isRw cr ∧ isRw ca ∧ cr ≠ ca ∧ a 34 8 = (cr : Int) ∧ a 34 9 = (ca : Int))
theorem RdS.fr {a a' : Mm} {G : Tg} {N n : Nat} {ear lg rg : Int} {wy gp tl : Nat → Int} {cr ca : Nat} {S : Nat → Nat → Bool} (h : RdS a G N n ear lg rg wy gp tl cr ca) (f : Fr S a a') (s1 : ∀ i, S 1 i = false := by intro i; rfl) (s2 : ∀ i, S 2 i = false := by intro i; rfl) (s3 : ∀ i, S 3 i = false := by intro i; rfl) (s5 : ∀ i, S 5 i = false := by intro i; rfl) (s17 : S 17 3 = false := by rfl) (sc : ∀ k i, 20 ≤ k → k ≤ 31 → S k i = false) (s34 : S 34 10 = false ∧ S 34 11 = false ∧ S 34 13 = false ∧ S 34 8 = false ∧ S 34 9 = false := by decide) (s35 : ∀ i, S 35 i = false := by intro i; rfl) (s36 : ∀ i, S 36 i = false := by intro i; rfl) : RdS a' G N n ear lg rg wy gp tl cr ca := by
  obtain ⟨⟨h1, h2, h3, h4, h5, h6⟩, ⟨h7, h8, h9, h10⟩, h11, h12, h13, h14, h15, h16⟩ := h
  refine ⟨⟨h1.fr f s1 s2 s3 s5, h2.fr (f _ _ s17) (fun k i g1 g2 => f k i (sc k i g1 g2)), (f _ _ (s1 _)).trans h3, h4, (f _ _ (s1 _)).trans h5, fun w => ?_⟩, ⟨(f _ _ s34.1).trans h7, (f _ _ s34.2.1).trans h8, (f _ _ s34.2.2.1).trans h9, h10⟩, fun i hi => ?_, h12, h13, h14, (f _ _ s34.2.2.2.1).trans h15, (f _ _ s34.2.2.2.2).trans h16⟩
  · rw [wayA_fr f s2 s3]; exact h6 w
  · rw [f.row 35 s35, f.row 36 s36]; exact h11 i hi
theorem RdS.frM {a a' : Mm} {G : Tg} {N n : Nat} {ear lg rg : Int} {wy gp tl : Nat → Int} {cr ca : Nat} (h : RdS a G N n ear lg rg wy gp tl cr ca) (f : Fr sM a a') : RdS a' G N n ear lg rg wy gp tl cr ca :=
  h.fr f (sc := fun k i g1 g2 => by
    unfold sM
    simp only [Bool.or_eq_false_iff, Bool.and_eq_false_iff, beq_eq_false_iff_ne]
    omega)
theorem fol_l {G : Tg} {N n : Nat} {ear lg rg : Int} {wy gp tl : Nat → Int} {cr ca i l : Nat} (hi : i < n) : ∀ (k w : Nat) (a : Mm) (y : Int) (f : Nat), w + k = N → RdS a G N n ear lg rg wy gp tl cr ca → S8 y → (∀ v, v < 8 → (bit y v = 1 ↔ v < w ∧ ftB G wy rg ear gp tl lg i v l = true)) → k < f → ∃ y' a', L_X5_followers_26 f (i : Int) (l : Int) (if i = 0 then lg else gp (i - 1)) y (w : Int) a = some (y', a') ∧ Fr sM a a' ∧ S8 y' ∧ (∀ v, v < 8 → (bit y' v = 1 ↔ v < N ∧ ftB G wy rg ear gp tl lg i v l = true)) := by
  intro k
  induction k with
  | zero =>
    intro w a y f hw hR hy hb hf
    obtain ⟨f', rfl⟩ : ∃ f', f = f' + 1 := ⟨f - 1, by omega⟩
    have h3 := hR.1.2.2.1
    refine ⟨y, a, ?_, Fr.refl _ _, hy, by rw [← show w = N by omega]; exact hb⟩
    show LB_X5_followers_26 (L_X5_followers_26 f') _ _ _ _ _ _ = _
    unfold LB_X5_followers_26
    rw [if_pos (by omega)]
  | succ k ih =>
    intro w a y f hw hR hy hb hf
    obtain ⟨f', rfl⟩ : ∃ f', f = f' + 1 := ⟨f - 1, by omega⟩
    have hR' := hR
    obtain ⟨⟨h1, h2, h3, h4, h5, h6⟩, ⟨h7, h8, h9, h10⟩, h11, h12, h13, h14, h15, h16⟩ := hR
    have hN8 := h1.1
    obtain ⟨a1, e1, e2⟩ := fitsG h1 h2 h8 (by omega) (i := i) (w := w) (by omega) (by omega) (gp i) (l : Int) (if i = 0 then lg else gp (i - 1))
    have hft : (wayA a ear (w : Int) ≤ a 1 6 ∧ (a 36 i = 32 ∨ mn G (gp i) (w : Int) (l : Int) (if i = 0 then lg else gp (i - 1)) ear (wayA a ear (w : Int)) = a 36 i)) ↔ ftB G wy rg ear gp tl lg i w l = true := by
      unfold ftB
      rw [h6 w, h5, (h11 i hi).2, Bool.and_eq_true, Bool.or_eq_true, decide_eq_true_eq, decide_eq_true_eq, decide_eq_true_eq]
    show ∃ y' a', LB_X5_followers_26 (L_X5_followers_26 f') _ _ _ _ _ _ = _ ∧ _
    unfold LB_X5_followers_26 J_X5_followers_65
    rw [if_neg (by omega), ald_s (by omega), Int.toNat_natCast, (h11 i hi).1, e1, cll_s, ib0]
    have hnx : ∀ y1, S8 y1 → (∀ v, v < 8 → (bit y1 v = 1 ↔ v < w + 1 ∧ ftB G wy rg ear gp tl lg i v l = true)) → ∃ y' a', nmv (wr ((w : Int) + 1)) (fun x1 => L_X5_followers_26 f' (i : Int) (l : Int) (if i = 0 then lg else gp (i - 1)) y1 x1 a1) = some (y', a') ∧ Fr sM a a' ∧ S8 y' ∧ (∀ v, v < 8 → (bit y' v = 1 ↔ v < N ∧ ftB G wy rg ear gp tl lg i v l = true)) := by
      intro y1 hy1 hb1
      obtain ⟨y', a', r1, r2, r3, r4⟩ := ih (w + 1) a1 y1 f' (by omega) (hR'.frM e2) hy1 hb1 (by omega)
      refine ⟨y', a', ?_, e2.trans r2, r3, r4⟩
      rw [nmv_s, wr_s (by omega)]
      exact r1
    by_cases hc : wayA a ear (w : Int) ≤ a 1 6 ∧ (a 36 i = 32 ∨ mn G (gp i) (w : Int) (l : Int) (if i = 0 then lg else gp (i - 1)) ear (wayA a ear (w : Int)) = a 36 i)
    · rw [if_pos hc, nmv_s]
      obtain ⟨o1, o2⟩ := bit_one (v := w) (by omega)
      obtain ⟨p1, p2⟩ := bit_or hy o1
      refine hnx _ p1 fun v hv => ?_
      rw [p2 v hv, hb v hv, o2 v hv]
      constructor
      · rintro (⟨z1, z2⟩ | z)
        · exact ⟨by omega, z2⟩
        · exact ⟨by omega, by rw [z]; exact hft.mp hc⟩
      · rintro ⟨z1, z2⟩
        by_cases e : v = w
        · exact Or.inr e
        · exact Or.inl ⟨by omega, z2⟩
    · rw [if_neg hc]
      refine hnx y hy fun v hv => ?_
      rw [hb v hv]
      constructor
      · rintro ⟨z1, z2⟩; exact ⟨by omega, z2⟩
      · rintro ⟨z1, z2⟩
        by_cases e : v = w
        · rw [e] at z2; exact absurd (hft.mpr z2) hc
        · exact ⟨by omega, z2⟩
theorem fol_s {G : Tg} {N n : Nat} {ear lg rg : Int} {wy gp tl : Nat → Int} {cr ca i : Nat} (hi : i < n) (l : Nat) {a : Mm} (hR : RdS a G N n ear lg rg wy gp tl cr ca) : ∃ y a', F_X5_followers (i : Int) (l : Int) a = some (y, a') ∧ Fr sM a a' ∧ S8 y ∧ (∀ v, v < 8 → (bit y v = 1 ↔ v < N ∧ ftB G wy rg ear gp tl lg i v l = true)) := by
  have hN8 := hR.1.1.1
  have h3 := hR.1.2.2.1
  have h0 : ∀ v : Nat, v < 8 → bit 0 v = 0 := by decide +kernel
  obtain ⟨y, a', r1, r2, r3, r4⟩ := fol_l (G := G) (ear := ear) (lg := lg) (rg := rg) (wy := wy) (gp := gp) (tl := tl) (l := l) hi N 0 a 0 100000 (by omega) hR ⟨by decide, by decide⟩ (fun v hv => by rw [h0 v hv]; constructor; (intro z; exact absurd z (by decide)); (rintro ⟨z, _⟩; omega)) (by omega)
  refine ⟨y, a', ?_, r2, r3, r4⟩
  have h10 := hR.2.1.2.2.2
  unfold F_X5_followers J_X5_followers_20
  rw [show ((0 : Nat) : Int) = 0 from rfl] at r1
  by_cases e : i = 0
  · rw [if_neg (by omega), nmv_s, nmv_s, nmv_s, hR.2.1.2.2.1]
    rw [if_pos e] at r1
    exact r1
  · rw [if_pos (by omega), wr_s (by omega), ald_s (by omega), nmv_s, nmv_s, nmv_s, show ((i : Int) - 1).toNat = i - 1 by omega, (hR.2.2.1 (i - 1) (by omega)).1]
    rw [if_neg e] at r1
    exact r1
/-- one mouth ahead is added to the rows -/
theorem go117 {K : Int → Int → Mm → Rs} {i l cr ca : Nat} {y x : Int} (hcr : isRw cr) (hca : isRw ca) (hne : cr ≠ ca) (hy : S8 y) (hl : l ≤ 8) (hx : 0 ≤ x ∧ x ≤ 1000000000000) : ∀ (k w : Nat) (a : Mm) (f : Nat), w + k = 8 → a 34 8 = (cr : Int) → a 34 9 = (ca : Int) → a ca l = x → (∀ v, w ≤ v → v < 8 → 0 ≤ a cr v ∧ a cr v ≤ 10000000000000) → k < f → ∃ a', L_X5_goOn_117 K f (i : Int) (l : Int) y (w : Int) a = K (i : Int) ((l + 1 : Nat) : Int) a' ∧ (∀ v, w ≤ v → v < 8 → a' cr v = a cr v + bit y v * x) ∧ (∀ v, ¬ (w ≤ v ∧ v < 8) → a' cr v = a cr v) ∧ (∀ c, c ≠ cr → a' c = a c) := by
  intro k
  induction k with
  | zero =>
    intro w a f hw h8 h9 hx2 hv hf
    obtain ⟨f', rfl⟩ : ∃ f', f = f' + 1 := ⟨f - 1, by omega⟩
    refine ⟨a, ?_, fun v h1 h2 => absurd h1 (by omega), fun _ _ => rfl, fun _ _ => rfl⟩
    show LB_X5_goOn_117 K (L_X5_goOn_117 K f') _ _ _ _ _ = _
    unfold LB_X5_goOn_117
    rw [if_pos (by omega), nmv_s, wr_s (by omega)]
    rfl
  | succ k ih =>
    intro w a f hw h8 h9 hx2 hv hf
    obtain ⟨f', rfl⟩ : ∃ f', f = f' + 1 := ⟨f - 1, by omega⟩
    have hb := bit_01 (x := y) (by unfold S8 at hy; omega) (i := w) (by omega)
    have hbx : 0 ≤ bit y w * x ∧ bit y w * x ≤ 1000000000000 := by rcases hb with e | e <;> rw [e] <;> omega
    have hvw := hv w (Nat.le_refl _) (by omega)
    obtain ⟨a', r1, r2, r3, r4⟩ := ih (w + 1) (upd2 a cr w (a cr w + bit y w * x)) f' (by omega) (by rw [u2r (by omega)]; exact h8) (by rw [u2r (by omega)]; exact h9) (by rw [u2r (fun z => hne z.symm)]; exact hx2) (fun v h1 h2 => by
      rw [u2n (by omega)]; exact hv v (by omega) h2) (by omega)
    refine ⟨a', ?_, fun v h1 h2 => ?_, fun v h1 => ?_, fun c hc => (r4 c hc).trans (u2r hc)⟩
    · rw [← r1]
      show LB_X5_goOn_117 K (L_X5_goOn_117 K f') _ _ _ _ _ = _
      unfold LB_X5_goOn_117
      rw [if_neg (by omega), h8, h9, Int.toNat_natCast, Int.toNat_natCast, grd_s hcr, ald_s (by omega), grd_s hca, ald_s (by omega), grd_s hcr, ast_s (by omega), nmv_s, Int.toNat_natCast, Int.toNat_natCast, hx2, wr_s (by omega)]
      show L_X5_goOn_117 K f' _ _ _ _ (upd2 a cr w (wl (a cr w + wl (bit y w * x)))) = _
      rw [wl_id (x := bit y w * x) (by unfold inL; omega), wl_id (by unfold inL; omega)]
      rfl
    · by_cases e : v = w
      · subst e
        rw [r3 v (by omega), u2s]
      · rw [r2 v (by omega) h2, u2n e]
    · rw [r3 v (by omega), u2n (by omega)]
theorem ftm {P : Prop} [Decidable P] {b : Bool} {y : Int} {w : Nat} (h : bit y w = 1 ↔ P ∧ b = true) (h01 : bit y w = 0 ∨ bit y w = 1) (hP : P) (x : Int) : bit y w * x = if b then x else 0 := by
  cases b with
  | false =>
    have : bit y w = 0 := by
      rcases h01 with z | z
      · exact z
      · exact absurd (h.mp z).2 (by decide)
    rw [this, Int.zero_mul]; rfl
  | true => rw [h.mpr ⟨hP, rfl⟩, Int.one_mul]; rfl
def sGo (k i : Nat) : Bool := sM k i || k == 37 || k == 38 || k == 41 || k == 42
theorem RdS.frG {a a' : Mm} {G : Tg} {N n : Nat} {ear lg rg : Int} {wy gp tl : Nat → Int} {cr ca : Nat} (h : RdS a G N n ear lg rg wy gp tl cr ca) (f : Fr sGo a a') : RdS a' G N n ear lg rg wy gp tl cr ca :=
  h.fr f (sc := fun k i g1 g2 => by
    unfold sGo sM
    simp only [Bool.or_eq_false_iff, Bool.and_eq_false_iff, beq_eq_false_iff_ne]
    omega)
theorem frMG {m m' : Mm} (h : Fr sM m m') : Fr sGo m m' := h.mono fun k i e => by
  unfold sGo at e
  cases hs : sM k i with
  | false => rfl
  | true => rw [hs] at e; exact (nomatch e)
theorem sGo_r {c : Nat} (h : isRw c) (i : Nat) : sGo c i = true := by
  rcases h with e | e <;> subst e <;> rfl
theorem p912 {i : Nat} (h : i ≤ 12) : (9 : Int) ^ i ≤ 282429536481 := by
  have := p9_m h
  rw [show (9 : Int) ^ 12 = 282429536481 by decide] at this
  exact this
/-- all that may be ahead, one after the other -/
theorem go61 {G : Tg} {N n : Nat} {ear lg rg : Int} {wy gp tl : Nat → Int} {cr ca i L0 : Nat} (hi : i < n) : ∀ (k l : Nat) (a : Mm) (f : Nat), l + k = 9 → RdS a G N n ear lg rg wy gp tl cr ca → (∀ v, v < 9 → a ca v = Aw (ftB G wy rg ear gp tl lg) N L0 i v) → (∀ v, v < 8 → a cr v = if v < N then sg l (fun l' => if ftB G wy rg ear gp tl lg i v l' then Aw (ftB G wy rg ear gp tl lg) N L0 i l' else 0) else 0) → a cr 8 = 0 → S8 (a 38 i) → (∀ v, v < 8 → (bit (a 38 i) v = 1 ↔ v < N ∧ ∃ l', l' < l ∧ ftB G wy rg ear gp tl lg i v l' = true ∧ 0 < Aw (ftB G wy rg ear gp tl lg) N L0 i l')) →
    (∀ l', l' < l → S8 (a 37 (9 * i + l')) ∧ ∀ v, v < 8 → (bit (a 37 (9 * i + l')) v = 1 ↔ v < N ∧ ftB G wy rg ear gp tl lg i v l' = true ∧ 0 < Aw (ftB G wy rg ear gp tl lg) N L0 i l')) → k < f →
    ∃ a', L_X5_goOn_61 f (i : Int) (l : Int) a = some (0, a') ∧ Fr sGo a a' ∧ (∀ v, v < 9 → a' ca v = Aw (ftB G wy rg ear gp tl lg) N L0 i v) ∧ (∀ v, v < 9 → a' cr v = Aw (ftB G wy rg ear gp tl lg) N L0 (i + 1) v) ∧ S8 (a' 38 i) ∧ (∀ v, v < 8 → (bit (a' 38 i) v = 1 ↔ 0 < Aw (ftB G wy rg ear gp tl lg) N L0 (i + 1) v)) ∧
      (∀ l', l' < 9 → S8 (a' 37 (9 * i + l')) ∧ ∀ v, v < 8 → (bit (a' 37 (9 * i + l')) v = 1 ↔ v < N ∧ ftB G wy rg ear gp tl lg i v l' = true ∧ 0 < Aw (ftB G wy rg ear gp tl lg) N L0 i l')) ∧ (∀ j, j ≠ i → a' 38 j = a 38 j) ∧ (∀ j, j < 9 * i → a' 37 j = a 37 j) := by
  intro k
  induction k with
  | zero =>
    intro l a f hl hR hca hcr h8 hs hb hfo hf
    obtain ⟨f', rfl⟩ : ∃ f', f = f' + 1 := ⟨f - 1, by omega⟩
    have e9 : l = 9 := by omega
    subst e9
    have hN8 := hR.1.1.1
    have h3 := hR.1.2.2.1
    refine ⟨a, ?_, Fr.refl _ _, hca, fun v hv => ?_, hs, fun v hv => ?_, hfo, fun _ _ => rfl, fun _ _ => rfl⟩
    · show LB_X5_goOn_61 (L_X5_goOn_61 f') _ _ _ = _
      unfold LB_X5_goOn_61
      rw [if_pos (by decide)]
    · by_cases e : v = 8
      · subst e
        rw [h8, Aw_8 _ _ _ (by omega)]
      · rw [hcr v (by omega), Aw_s]
    · rw [hb v hv, Aw_pos]
  | succ k ih =>
    intro l a f hl hR hca hcr h8 hs hb hfo hf
    obtain ⟨f', rfl⟩ : ∃ f', f = f' + 1 := ⟨f - 1, by omega⟩
    have hR' := hR
    obtain ⟨⟨h1, h2, h3, h4, h5, h6⟩, ⟨h7, h8', h9, h10⟩, h11, h12, h13, h14, h15, h16⟩ := hR
    have hN8 := h1.1
    generalize hft : ftB G wy rg ear gp tl lg = ft at *
    have hA := Aw_in ft N L0 i l
    have h912 := p912 (i := i) (by omega)
    -- who may follow
    have hfound : ∃ y a1, (if ¬ (lcmp (a ca l) 0) = 0 then cll (F_X5_followers (i : Int) (l : Int) a) (fun r5 m6 => nmv r5 (fun x7 => (J_X5_goOn_90 (L_X5_goOn_61 f') (i : Int) (l : Int) x7 m6))) else nmv 0 (fun x8 => (J_X5_goOn_90 (L_X5_goOn_61 f') (i : Int) (l : Int) x8 a))) = J_X5_goOn_90 (L_X5_goOn_61 f') (i : Int) (l : Int) y a1 ∧ Fr sM a a1 ∧ S8 y ∧ (∀ v, v < 8 → (bit y v = 1 ↔ v < N ∧ ft i v l = true ∧ 0 < Aw ft N L0 i l)) := by
      rw [hca l (by omega)]
      by_cases hz : Aw ft N L0 i l = 0
      · rw [if_neg (by rw [hz]; decide), nmv_s]
        have h0 : ∀ v : Nat, v < 8 → bit 0 v = 0 := by decide +kernel
        refine ⟨0, a, rfl, Fr.refl _ _, ⟨by decide, by decide⟩, fun v hv => ?_⟩
        rw [h0 v hv]
        constructor
        · intro z; exact absurd z (by decide)
        · rintro ⟨_, _, z⟩; omega
      · have hlc : ¬ lcmp (Aw ft N L0 i l) 0 = 0 := by
          unfold lcmp
          rw [if_neg (by omega), if_neg hz]; decide
        rw [if_pos hlc]
        obtain ⟨y, a1, e1, e2, e3, e4⟩ := fol_s hi l hR'
        rw [e1, cll_s, nmv_s]
        refine ⟨y, a1, rfl, e2, e3, fun v hv => ?_⟩
        rw [e4 v hv, hft]
        constructor
        · rintro ⟨z1, z2⟩; exact ⟨z1, z2, by omega⟩
        · rintro ⟨z1, z2, _⟩; exact ⟨z1, z2⟩
    obtain ⟨y, a1, y1, y2, y3, y4⟩ := hfound
    have hrw : ∀ c, isRw c → a1 c = a c := fun c hc => y2.row c fun i => by rcases hc with e | e <;> subst e <;> rfl
    have r37 : a1 37 = a 37 := y2.row 37 (fun _ => rfl)
    have r38 : a1 38 = a 38 := y2.row 38 (fun _ => rfl)
    obtain ⟨o1, o2⟩ := bit_or hs y3
    -- the memory ahead of the adding
    have hst : J_X5_goOn_90 (L_X5_goOn_61 f') (i : Int) (l : Int) y a1 = L_X5_goOn_117 (L_X5_goOn_61 f') 100000 (i : Int) (l : Int) y ((0 : Nat) : Int) (upd2 (upd2 a1 37 (9 * i + l) y) 38 i (ior (a 38 i) y)) := by
      unfold J_X5_goOn_90
      rw [wr_s (x := (i : Int) * 9) (by omega), wr_s (by omega), ast_s (by omega), ald_s (by omega), ast_s (by omega), nmv_s, u2r (show 38 ≠ 37 by decide), Int.toNat_natCast, r38, show ((i : Int) * 9 + (l : Int)).toNat = 9 * i + l by omega]
      rfl
    obtain ⟨a3, s1, s2, s3, s4⟩ := go117 (K := L_X5_goOn_61 f') (i := i) (l := l) (y := y) (x := Aw ft N L0 i l) h12 h13 h14 y3 (by omega) (by omega) 8 0 (upd2 (upd2 a1 37 (9 * i + l) y) 38 i (ior (a 38 i) y)) 100000 (by omega)
      (by rw [u2r (by decide), u2r (by decide), y2 34 8 rfl]; exact h15) (by rw [u2r (by decide), u2r (by decide), y2 34 9 rfl]; exact h16)
      (by rw [u2r (by omega), u2r (by omega), hrw ca h13]; exact hca l (by omega))
      (fun v _ hv => by
        rw [u2r (by omega), u2r (by omega), hrw cr h12, hcr v hv]
        split
        · have := sg_in (M := 9 ^ i) (f := fun l' => if ft i v l' then Aw ft N L0 i l' else 0) l fun j _ => by
            show 0 ≤ (if ft i v j then Aw ft N L0 i j else 0) ∧ (if ft i v j then Aw ft N L0 i j else 0) ≤ 9 ^ i
            have := Aw_in ft N L0 i j
            have := p9 i
            split <;> omega
          have h2 : (l : Int) * 9 ^ i ≤ 9 * 9 ^ i := Int.mul_le_mul_of_nonneg_right (by omega) (by have := p9 i; omega)
          omega
        · omega) (by omega)
    have hfr : Fr sGo a a3 := by
      intro c j hcj
      have n37 : c ≠ 37 := fun z => by subst z; exact (nomatch (show true = false from hcj))
      have n38 : c ≠ 38 := fun z => by subst z; exact (nomatch (show true = false from hcj))
      have ncr : c ≠ cr := fun z => by subst z; rw [sGo_r h12] at hcj; exact absurd hcj (by decide)
      rw [s4 c ncr, u2r n38, u2r n37]
      exact (frMG y2) c j hcj
    have e37 : a3 37 = upr (a 37) (9 * i + l) y := by rw [s4 37 (by omega), u2r (by decide), u2_row, r37]
    have e38 : a3 38 = upr (a 38) i (ior (a 38 i) y) := by rw [s4 38 (by omega), u2_row, u2r (by decide), r38]
    obtain ⟨a4, t1, t2, t3, t4, t5, t6, t7, t8, t9⟩ := ih (l + 1) a3 f' (by omega) (hR'.frG hfr)
      (fun v hv => by rw [s4 ca (fun z => h14 z.symm), u2r (by omega), u2r (by omega), hrw ca h13]; exact hca v hv)
      (fun v hv => by
        rw [s2 v (by omega) hv, u2r (by omega), u2r (by omega), hrw cr h12, hcr v hv]
        by_cases hvN : v < N
        · have hb01 := bit_01 (x := y) (by unfold S8 at y3; omega) (i := v) (by omega)
          rw [if_pos hvN, if_pos hvN, sg_s]
          show _ + bit y v * Aw ft N L0 i l = _ + (if ft i v l then Aw ft N L0 i l else 0)
          refine congrArg (fun z : Int => sg l (fun l' => if ft i v l' then Aw ft N L0 i l' else 0) + z) ?_
          by_cases hz : Aw ft N L0 i l = 0
          · rw [hz, Int.mul_zero]; split <;> rfl
          · exact ftm (P := v < N ∧ 0 < Aw ft N L0 i l) ⟨fun z => by have := (y4 v hv).mp z; exact ⟨⟨this.1, this.2.2⟩, this.2.1⟩, fun z => (y4 v hv).mpr ⟨z.1.1, z.2, z.1.2⟩⟩ hb01 ⟨hvN, by omega⟩ _
        · rw [if_neg hvN, if_neg hvN]
          have hb01 := bit_01 (x := y) (by unfold S8 at y3; omega) (i := v) (by omega)
          have : bit y v = 0 := by
            rcases hb01 with z | z
            · exact z
            · exact absurd ((y4 v hv).mp z).1 hvN
          rw [this, Int.zero_mul]; rfl)
      (by rw [s3 8 (by omega), u2r (by omega), u2r (by omega), hrw cr h12]; exact h8)
      (by rw [e38, upr_s]; exact o1)
      (fun v hv => by
        rw [e38, upr_s, o2 v hv, hb v hv, y4 v hv]
        constructor
        · rintro (⟨z1, l', z2, z3, z4⟩ | ⟨z1, z2, z3⟩)
          · exact ⟨z1, l', by omega, z3, z4⟩
          · exact ⟨z1, l, by omega, z2, z3⟩
        · rintro ⟨z1, l', z2, z3, z4⟩
          by_cases e : l' = l
          · subst e; exact Or.inr ⟨z1, z3, z4⟩
          · exact Or.inl ⟨z1, l', by omega, z3, z4⟩)
      (fun l' hl' => by
        rw [e37]
        by_cases e : l' = l
        · subst e; rw [upr_s]; exact ⟨y3, y4⟩
        · rw [upr_n (by omega)]; exact hfo l' (by omega)) (by omega)
    refine ⟨a4, ?_, hfr.trans t2, t3, t4, t5, t6, t7, fun j hj => ?_, fun j hj => ?_⟩
    · rw [← t1]
      show LB_X5_goOn_61 (L_X5_goOn_61 f') _ _ _ = _
      unfold LB_X5_goOn_61
      rw [if_neg (by omega), h16, Int.toNat_natCast, grd_s h13, ald_s (by omega), Int.toNat_natCast, y1, hst, s1]
    · rw [t8 j hj, e38, upr_n hj]
    · rw [t9 j hj, e37, upr_n (by omega)]

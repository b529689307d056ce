/-! clauses: the first that holds -/
abbrev Tg : Type := Nat × (Nat → Int) × (Nat → Sem) × (Nat → Sem)
def tellF (G : Tg) (l most : Int) (e : Nat → Int) : Nat → Nat → Int
  | 0, _ => 0
  | j + 1, i => if G.2.1 i = l ∧ G.2.2.1 i e = some 1 then max 0 (min most ((G.2.2.2 i e).getD 0)) else tellF G l most e j (i + 1)
theorem tellF_in (G : Tg) (l : Int) {most : Int} (e : Nat → Int) (h : 0 ≤ most) : ∀ j i, 0 ≤ tellF G l most e j i ∧ tellF G l most e j i ≤ most := by
  intro j
  induction j with
  | zero => intro i; exact ⟨Int.le_refl _, h⟩
  | succ j ih =>
    intro i
    unfold tellF
    split
    · omega
    · exact ih (i + 1)
def GA (m : Mm) (G : Tg) : Prop := ∃ c : Nat, isCd c ∧ m 17 3 = (c : Int) ∧ m c 6 = (G.1 : Int) ∧ G.1 ≤ 14 ∧
  (∀ i, i < G.1 → m (c + 3) i = G.2.1 i ∧ bl (G.2.2.1 i) ∧ ∃ p q r : Nat, m (c + 4) i = (p : Int) ∧ m (c + 5) i = (q : Int) ∧ (if i + 1 < G.1 then m (c + 4) (i + 1) else m c 5) = (r : Int) ∧ r ≤ 200 ∧ SegA (m (c + 1)) (m (c + 2)) p q 24 (G.2.2.2 i) ∧ SegA (m (c + 1)) (m (c + 2)) q r 24 (G.2.2.1 i)) ∧
  (m c 7 = 0 → ∀ i, i < G.1 → ff (G.2.2.1 i) ∧ ff (G.2.2.2 i))
theorem GA.fr {m m' : Mm} {G : Tg} (h : GA m G) (e3 : m' 17 3 = m 17 3) (he : ∀ k i, 20 ≤ k → k ≤ 31 → m' k i = m k i) : GA m' G := by
  obtain ⟨c, h1, h2, h3, h4, h5, h6⟩ := h
  have hc := h1
  unfold isCd at hc
  have r : ∀ j, j ≤ 5 → m' (c + j) = m (c + j) := fun j hj => funext fun i => he _ _ (by omega) (by omega)
  have r0 : m' c = m c := r 0 (by omega)
  refine ⟨c, h1, e3.trans h2, by rw [r0]; exact h3, h4, ?_, by rw [r0]; exact h6⟩
  rw [r 1 (by omega), r 2 (by omega), r 3 (by omega), r 4 (by omega), r 5 (by omega), r0]
  exact h5
theorem GA.frE {m m' : Mm} {G : Tg} (h : GA m G) (hf : Fr sE m m') : GA m' G := by
  refine h.fr (hf 17 3 rfl) (fun k i h1 h2 => hf k i ?_)
  unfold sE
  rw [show (k == 19) = false from beq_eq_false_iff_ne.mpr (by omega), show (k == 17) = false from beq_eq_false_iff_ne.mpr (by omega)]
  rfl
theorem runA_s {m : Mm} {c p q : Nat} {f : Sem} (hs : SegA (m (c + 1)) (m (c + 2)) p q 24 f) (hc : isCd c) (h3 : m 17 3 = (c : Int)) (hq : q ≤ 200) : ∃ m', F_X7_run (p : Int) (q : Int) m = some ((f (evA m)).getD 0, m') ∧ Fr sE m m' := by
  have hfr : Fr sE m (upd2 m 17 5 0) := Fr.upd (Fr.refl _ _) _ rfl
  have hcd := hc
  unfold isCd at hcd
  have h := hs.2 (upd2 m 17 5 0) c q 0 100000 hc (by rw [u2n (by decide)]; exact h3) (fun i _ _ => by rw [u2r (by omega), u2r (by omega)]; exact ⟨rfl, rfl⟩) (u2s _ _ _ _) (by omega) hq (by omega) (by omega)
  rw [evA_fr hfr] at h
  have h0 : F_X7_run (p : Int) (q : Int) m = L_X7_run_10 100000 (q : Int) ((0 : Nat) : Int) (p : Int) (upd2 m 17 5 0) := by
    unfold F_X7_run
    rw [nmv_s, stf_s, nmv_s]
    rfl
  rw [h0]
  cases ef : f (evA m) with
  | none =>
    obtain ⟨m', a1, a2⟩ := h.1 ef
    exact ⟨m', a1, hfr.trans a2⟩
  | some v =>
    obtain ⟨m', n', a1, a2, a3, a4, a5, a6⟩ := h.2 v ef
    obtain ⟨n3, rfl⟩ : ∃ k, n' = k + 1 := ⟨n' - 1, by omega⟩
    refine ⟨m', ?_, hfr.trans a2⟩
    rw [a1, run_end (Nat.le_refl _), a5]
    rfl
theorem endOf_s {m : Mm} {c i n : Nat} (h6 : m c 6 = (n : Int)) (hn : n ≤ 14) (hi : i < n) : F_X0_endOf c (i : Int) m = some (if i + 1 < n then m (c + 4) (i + 1) else m c 5, m) := by
  unfold F_X0_endOf
  rw [if_neg (by omega), wr_s (by omega)]
  by_cases h : i + 1 < n
  · rw [if_neg (by omega), if_pos h, ald_s (by omega)]
    rfl
  · rw [if_neg h, if_pos (by omega)]
theorem holds_l {G : Tg} (l most : Int) (hm : 0 ≤ most) (e : Nat → Int) : ∀ (j i : Nat) (m : Mm) (f : Nat), i + j = G.1 → GA m G → evA m = e → j < f → ∃ m', L_X7_firstHolding_2 f l most (i : Int) m = some (tellF G l most e j i, m') ∧ Fr sE m m' := by
  intro j
  induction j with
  | zero =>
    intro i m f hij hG he hf
    obtain ⟨f', rfl⟩ : ∃ f', f = f' + 1 := ⟨f - 1, by omega⟩
    obtain ⟨c, h1, h2, h3, h4, h5, h6⟩ := hG
    refine ⟨m, ?_, Fr.refl _ _⟩
    show LB_X7_firstHolding_2 (L_X7_firstHolding_2 f') _ _ _ _ = _
    unfold LB_X7_firstHolding_2
    rw [h2, Int.toNat_natCast, grd_s h1, if_pos (by omega)]
    rfl
  | succ j ih =>
    intro i m f hij hG he hf
    obtain ⟨f', rfl⟩ : ∃ f', f = f' + 1 := ⟨f - 1, by omega⟩
    have hG' := hG
    obtain ⟨c, h1, h2, h3, h4, h5, h6⟩ := hG
    obtain ⟨k1, k2, p, q, r, k3, k4, k5, k6, k7, k8⟩ := h5 i (by omega)
    have hnx : ∀ m', Fr sE m m' → ¬ (G.2.1 i = l ∧ G.2.2.1 i e = some 1) → ∃ m'', J_X7_firstHolding_103 (L_X7_firstHolding_2 f') l most (i : Int) m' = some (tellF G l most e (j + 1) i, m'') ∧ Fr sE m m'' := by
      intro m' hf' hno
      obtain ⟨m'', a1, a2⟩ := ih (i + 1) m' f' (by omega) (hG'.frE hf') (by rw [evA_fr hf']; exact he) (by omega)
      refine ⟨m'', ?_, hf'.trans a2⟩
      unfold J_X7_firstHolding_103
      rw [nmv_s, wr_s (by omega)]
      have : tellF G l most e (j + 1) i = tellF G l most e j (i + 1) := if_neg hno
      rw [this]
      exact a1
    have hst : L_X7_firstHolding_2 (f' + 1) l most (i : Int) m = if ¬ G.2.1 i = l then J_X7_firstHolding_103 (L_X7_firstHolding_2 f') l most (i : Int) m else cll (F_X7_run (q : Int) (r : Int) m) (fun r12 m13 => if r12 = 0 then nmv 0 (fun x15 => (J_X7_firstHolding_63 (L_X7_firstHolding_2 f') l most (i : Int) x15 m13)) else nmv 1 (fun x16 => (J_X7_firstHolding_63 (L_X7_firstHolding_2 f') l most (i : Int) x16 m13))) := by
      show LB_X7_firstHolding_2 (L_X7_firstHolding_2 f') _ _ _ _ = _
      unfold LB_X7_firstHolding_2
      rw [h2, Int.toNat_natCast, grd_s h1, if_neg (by omega), if_neg (by omega), grd_s h1, ald_s (by omega), Int.toNat_natCast, k1]
      by_cases hl : ¬ G.2.1 i = l
      · rw [if_pos hl, if_pos hl]
      · rw [if_neg hl, if_neg hl, grd_s h1, ald_s (by omega), grd_s h1, Int.toNat_natCast, k4, endOf_s h3 h4 (by omega), cll_s, k5]
    rw [hst]
    by_cases hl : G.2.1 i = l
    · rw [if_neg (fun z => z hl)]
      obtain ⟨m1, a1, a2⟩ := runA_s k8 h1 h2 k6
      rw [a1, cll_s, he]
      by_cases hc : G.2.2.1 i e = some 1
      · rw [hc, if_neg (by decide), nmv_s]
        have h21 : m1 17 3 = (c : Int) := (a2 17 3 rfl).trans h2
        have hcd := h1
        unfold isCd at hcd
        have hr : ∀ k, 1 ≤ k → k ≤ 5 → m1 (c + k) = m (c + k) := by
          intro k hk hk2
          refine a2.row _ (fun x => ?_)
          unfold sE
          rw [show (c + k == 19) = false from beq_eq_false_iff_ne.mpr (by omega), show (c + k == 17) = false from beq_eq_false_iff_ne.mpr (by omega)]
          rfl
        obtain ⟨m2, b1, b2⟩ := runA_s (m := m1) (p := p) (q := q) (f := G.2.2.2 i) (by rw [hr 1 (by omega) (by omega), hr 2 (by omega) (by omega)]; exact k7) h1 h21 (by have := k8.1; omega)
        refine ⟨m2, ?_, a2.trans b2⟩
        unfold J_X7_firstHolding_63
        rw [if_neg (by decide), h21, Int.toNat_natCast, grd_s h1, ald_s (by omega), grd_s h1, ald_s (by omega), Int.toNat_natCast, hr 4 (by omega) (by omega), hr 5 (by omega) (by omega), k3, k4, b1, cll_s, nmv_s, min_s, cll_s, max_s, cll_s, evA_fr a2, he]
        have : tellF G l most e (j + 1) i = max 0 (min most ((G.2.2.2 i e).getD 0)) := if_pos ⟨hl, hc⟩
        rw [this]
      · have h0 : (G.2.2.1 i e).getD 0 = 0 := by
          cases ec : G.2.2.1 i e with
          | none => rfl
          | some v =>
            have := k2 _ _ ec
            rcases this with z | z
            · rw [z]; rfl
            · rw [z] at ec; exact absurd ec hc
        rw [h0, if_pos rfl, nmv_s]
        unfold J_X7_firstHolding_63
        rw [if_pos rfl]
        exact hnx m1 a2 (fun z => hc z.2)
    · rw [if_pos hl]
      exact hnx m (Fr.refl _ _) (fun z => hl z.1)
theorem holds_s {G : Tg} {l most : Int} (hm : 0 ≤ most) {m : Mm} (hG : GA m G) : ∃ m', F_X7_firstHolding l most m = some (tellF G l most (evA m) G.1 0, m') ∧ Fr sE m m' := by
  have hn : G.1 ≤ 14 := hG.choose_spec.2.2.2.1
  obtain ⟨m', a1, a2⟩ := holds_l (G := G) l most hm (evA m) G.1 0 m 100000 (by omega) hG rfl (by omega)
  refine ⟨m', ?_, a2⟩
  unfold F_X7_firstHolding
  rw [nmv_s]
  exact a1
def GB (m : Mm) (G : Tg) : Prop := m 54 14 = (G.1 : Int) ∧ G.1 ≤ 14 ∧
  (∀ i, i < G.1 → m 63 i = G.2.1 i ∧ ∃ p q r : Nat, m 64 i = (p : Int) ∧ m 65 i = (q : Int) ∧ m 66 i = (r : Int) ∧ r ≤ 200 ∧ SegB (m 67) (m 68) p q (G.2.2.2 i) ∧ SegB (m 67) (m 68) q r (G.2.2.1 i))
theorem GB.fr {m m' : Mm} {G : Tg} (h : GB m G) (e3 : m' 54 14 = m 54 14) (he : ∀ k i, 63 ≤ k → k ≤ 68 → m' k i = m k i) : GB m' G := by
  have r : ∀ k, 63 ≤ k → k ≤ 68 → m' k = m k := fun k a b => funext fun i => he k i a b
  unfold GB
  rw [e3, r 63 (by omega) (by omega), r 64 (by omega) (by omega), r 65 (by omega) (by omega), r 66 (by omega) (by omega), r 67 (by omega) (by omega), r 68 (by omega) (by omega)]
  exact h
theorem GB.frF {m m' : Mm} {G : Tg} (h : GB m G) (hf : Fr sF m m') : GB m' G := by
  refine h.fr (hf 54 14 rfl) (fun k i h1 h2 => hf k i ?_)
  unfold sF
  rw [show (k == 76) = false from beq_eq_false_iff_ne.mpr (by omega), show (k == 77) = false from beq_eq_false_iff_ne.mpr (by omega)]
  rfl
theorem worksB_s {m : Mm} {p q : Nat} {f : Sem} (hs : SegB (m 67) (m 68) p q f) (hq : q ≤ 200) : ∃ m', F_X12_works (p : Int) (q : Int) m = some (0, m') ∧ Fr sF m m' ∧ (f (evB m) = none → m' 77 0 ≠ 0) ∧ (∀ v, f (evB m) = some v → m' 77 0 = 0 ∧ m' 76 0 = v) := by
  obtain ⟨m', n', a1, a2, a3, a4, a5, a6⟩ := hs.2 m q 0 100000 (fun i _ _ => ⟨rfl, rfl⟩) (Nat.le_refl _) hq (by omega) (by omega)
  obtain ⟨n3, rfl⟩ : ∃ k, n' = k + 1 := ⟨n' - 1, by omega⟩
  refine ⟨m', ?_, a2, a4, a5⟩
  have h0 : F_X12_works (p : Int) (q : Int) m = L_X12_works_5 100000 (q : Int) ((0 : Nat) : Int) (p : Int) m := by
    unfold F_X12_works
    rw [nmv_s, nmv_s]
    rfl
  rw [h0, a1, works_end (Nat.le_refl _)]
theorem tells_l {G : Tg} (l most : Int) (hm : 0 ≤ most) (e : Nat → Int) : ∀ (j i : Nat) (m : Mm) (f : Nat), i + j = G.1 → GB m G → evB m = e → j < f → ∃ m', L_X12_tells_2 f l most (i : Int) m = some (tellF G l most e j i, m') ∧ Fr sF m m' := by
  intro j
  induction j with
  | zero =>
    intro i m f hij hG he hf
    obtain ⟨f', rfl⟩ : ∃ f', f = f' + 1 := ⟨f - 1, by omega⟩
    obtain ⟨h3, h4, h5⟩ := hG
    refine ⟨m, ?_, Fr.refl _ _⟩
    show LB_X12_tells_2 (L_X12_tells_2 f') _ _ _ _ = _
    unfold LB_X12_tells_2
    rw [if_pos (by omega)]
    rfl
  | succ j ih =>
    intro i m f hij hG he hf
    obtain ⟨f', rfl⟩ : ∃ f', f = f' + 1 := ⟨f - 1, by omega⟩
    have hG' := hG
    obtain ⟨h3, h4, h5⟩ := hG
    obtain ⟨k1, p, q, r, k3, k4, k5, k6, k7, k8⟩ := h5 i (by omega)
    have hnx : ∀ m', Fr sF m m' → ¬ (G.2.1 i = l ∧ G.2.2.1 i e = some 1) → ∃ m'', J_X12_tells_120 (L_X12_tells_2 f') l most (i : Int) m' = some (tellF G l most e (j + 1) i, m'') ∧ Fr sF m m'' := by
      intro m' hf' hno
      obtain ⟨m'', a1, a2⟩ := ih (i + 1) m' f' (by omega) (hG'.frF hf') (by rw [evB_fr hf']; exact he) (by omega)
      refine ⟨m'', ?_, hf'.trans a2⟩
      unfold J_X12_tells_120
      rw [nmv_s, wr_s (by omega)]
      have : tellF G l most e (j + 1) i = tellF G l most e j (i + 1) := if_neg hno
      rw [this]
      exact a1
    show ∃ m', LB_X12_tells_2 (L_X12_tells_2 f') _ _ _ _ = _ ∧ _
    unfold LB_X12_tells_2
    rw [if_neg (by omega), ald_s (by omega), Int.toNat_natCast, k1]
    by_cases hl : G.2.1 i = l
    · rw [if_pos hl, ald_s (by omega), ald_s (by omega), Int.toNat_natCast, k4, k5]
      obtain ⟨m1, a1, a2, a3, a4⟩ := worksB_s k8 k6
      rw [he] at a3 a4
      rw [a1, cll_s, ald_s (by omega)]
      show ∃ m', (if ¬ m1 77 0 = 0 then _ else _) = _ ∧ _
      by_cases hr0 : m1 77 0 = 0
      · rw [if_neg (fun z => z hr0), ald_s (by omega)]
        show ∃ m', (if m1 76 0 = 1 then _ else _) = _ ∧ _
        have hne : ∃ v, G.2.2.1 i e = some v := by
          cases ec : G.2.2.1 i e with
          | none => exact absurd hr0 (a3 ec)
          | some v => exact ⟨v, rfl⟩
        obtain ⟨v, hv⟩ := hne
        rw [(a4 v hv).2]
        by_cases h1 : v = 1
        · subst h1
          have r1 : ∀ k, 63 ≤ k → k ≤ 68 → m1 k = m k := by
            intro k hk hk2
            refine a2.row _ (fun x => ?_)
            unfold sF
            rw [show (k == 76) = false from beq_eq_false_iff_ne.mpr (by omega), show (k == 77) = false from beq_eq_false_iff_ne.mpr (by omega)]
            rfl
          obtain ⟨m2, b1, b2, b3, b4⟩ := worksB_s (m := m1) (p := p) (q := q) (f := G.2.2.2 i) (by rw [r1 67 (by omega) (by omega), r1 68 (by omega) (by omega)]; exact k7) (by have := k8.1; omega)
          rw [evB_fr a2, he] at b3 b4
          have ht : tellF G l most e (j + 1) i = max 0 (min most ((G.2.2.2 i e).getD 0)) := if_pos ⟨hl, hv⟩
          rw [if_pos rfl, ald_s (by omega), ald_s (by omega), Int.toNat_natCast, r1 64 (by omega) (by omega), r1 65 (by omega) (by omega), k3, k4, b1, cll_s, ald_s (by omega), ht]
          refine ⟨m2, ?_, a2.trans b2⟩
          show (if m2 77 0 = 0 then _ else _) = _
          have h98 : ∀ x : Int, J_X12_tells_98 most x m2 = some (max 0 (min most x), m2) := by
            intro x
            unfold J_X12_tells_98
            by_cases g1 : 0 ≤ x
            · rw [if_pos g1]
              by_cases g2 : x ≤ most
              · rw [if_pos g2, Int.min_eq_right g2, Int.max_eq_right g1]
              · rw [if_neg g2, Int.min_eq_left (by omega), Int.max_eq_right hm]
            · rw [if_neg g1, Int.min_eq_right (by omega), Int.max_eq_left (by omega)]
          cases en : G.2.2.2 i e with
          | none => rw [if_neg (b3 en), nmv_s, h98]; rfl
          | some x =>
            rw [if_pos (b4 x en).1, ald_s (by omega), nmv_s]
            show J_X12_tells_98 most (m2 76 0) m2 = _
            rw [(b4 x en).2, h98]
            rfl
        · rw [if_neg h1]
          exact hnx m1 a2 (fun z => h1 (by rw [z.2] at hv; exact (Option.some.inj hv).symm))
      · rw [if_pos hr0]
        refine hnx m1 a2 (fun z => hr0 (a4 1 z.2).1)
    · rw [if_neg hl]
      exact hnx m (Fr.refl _ _) (fun z => hl z.1)
theorem tells_s {G : Tg} {l most : Int} (hm : 0 ≤ most) {m : Mm} (hG : GB m G) : ∃ m', F_X12_tells l most m = some (tellF G l most (evB m) G.1 0, m') ∧ Fr sF m m' := by
  have hn : G.1 ≤ 14 := hG.2.1
  obtain ⟨m', a1, a2⟩ := tells_l (G := G) l most hm (evB m) G.1 0 m 100000 (by omega) hG rfl (by omega)
  refine ⟨m', ?_, a2⟩
  unfold F_X12_tells
  rw [nmv_s]
  exact a1

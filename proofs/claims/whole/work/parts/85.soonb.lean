/-! the least breaths: the reference's table as a whole -/
def sSo (k i : Nat) : Bool := k == 86 || k == 87 || k == 88 || k == 89 || (k == 54 && i == 63)
def RC (b : Mm) (G : Tg) (M : Nat) (c : Nat → Int) (Ln : Nat → Nat) (D : Nat → Int) : Prop := CwS b G M c ∧ LnS b M c Ln ∧ TbM b G c M 9680 ∧ b 60 = D
theorem RC.fr {b b' : Mm} {G : Tg} {M : Nat} {c : Nat → Int} {Ln : Nat → Nat} {D : Nat → Int} (h : RC b G M c Ln D) (f : Fr sSo b b') : RC b' G M c Ln D := by
  obtain ⟨⟨h1, h2, h3, h4⟩, h5, h6, h7⟩ := h
  refine ⟨⟨h1.fr (f 54 14 rfl) (fun k i g1 g2 => f k i (by unfold sSo; simp only [Bool.or_eq_false_iff, Bool.and_eq_false_iff, beq_eq_false_iff_ne]; omega)), h2, (f 54 57 rfl).trans h3, fun j hj => ?_⟩, fun w hw => ?_, fun w g l p ho hq => ?_, (f.row 60 (fun _ => rfl)).trans h7⟩
  · rw [f.row 84 (fun _ => rfl)]; exact h4 j hj
  · rw [f.row 59 (fun _ => rfl)]; exact h5 w hw
  · rw [f.row 85 (fun _ => rfl)]; exact h6 w g l p ho hq
theorem mnF_cong {f f' : Nat → Int} : ∀ k i acc, (∀ j, i ≤ j → j < i + k → f j = f' j) → mnF f k i acc = mnF f' k i acc := by
  intro k
  induction k with
  | zero => intro i acc _; rfl
  | succ k ih =>
    intro i acc h
    unfold mnF
    rw [h i (Nat.le_refl _) (by omega)]
    exact ih (i + 1) _ (fun j h1 h2 => h j (by omega) (by omega))
theorem mnW_cong {c c' : Nat → Nat → Int} {g0 gk : Nat} : ∀ k w acc, (∀ v, w ≤ v → v < w + k → ∀ g, g0 ≤ g → g < g0 + gk → c v g = c' v g) → mnW c g0 gk k w acc = mnW c' g0 gk k w acc := by
  intro k
  induction k with
  | zero => intro w acc _; rfl
  | succ k ih =>
    intro w acc h
    unfold mnW
    rw [mnF_cong (f := c w) (f' := c' w) gk g0 acc (h w (Nat.le_refl _) (by omega))]
    exact ih (w + 1) _ (fun v h1 h2 => h v (by omega) (by omega))
def cV (sy : Syf) (M : Nat) (Ln : Nat → Nat) (st l p w g : Nat) : Int := cdV (sy st l p w g) (if g = 21 then 0 else (g : Int)) (Vm sy M (rsm Ln (st + fiv w) M 0) (st + fiv w) w g)
def VV (sy : Syf) (M : Nat) (Ln : Nat → Nat) (st l p : Nat) : Int := mnW (cV sy M Ln st l p) (if st = 0 then 21 else 1) (if st = 0 then 1 else 20) M 0 (if dnB Ln st M 0 = true then 0 else 1000000000)
/-- who says has a word left -/
def SyL (sy : Syf) (M : Nat) (Ln : Nat → Nat) : Prop := (M ≤ 4 ∧ ∀ v, v < M → Ln v ≤ 4) ∧ ∀ st l p w g, w < M → sy st l p w g = true → dg st w < Ln w
theorem isSt_le {Ln : Nat → Nat} {M st : Nat} (hM : M ≤ 4) (h : isSt Ln M st) : ∀ v, v < M → dg st v ≤ Ln v := by
  intro v hv
  have := h.2 v (by omega)
  rw [if_pos hv] at this
  exact this
theorem VV_eq {sy : Syf} {M : Nat} {Ln : Nat → Nat} (hy : SyL sy M Ln) {st l p : Nat} (hst : isSt Ln M st) (h0 : ¬ st = 0) : VV sy M Ln st l p = Vm sy M (rsm Ln st M 0) st l p := by
  unfold VV
  rw [if_neg h0, if_neg h0]
  cases hd : dnB Ln st M 0 with
  | true =>
    rw [if_pos rfl, rsm_0 M 0 hd]
    show _ = (0 : Int)
    have hno : ∀ v, v < M → ∀ g, cV sy M Ln st l p v g = 1000000000 := by
      intro v hv g
      unfold cV cdV
      refine if_neg (fun z => ?_)
      have h1 := hy.2 st l p v g hv z.1
      have h2 := (dnB_iff M 0).mp hd v (Nat.zero_le _) (by omega)
      omega
    have h1 := (mnW_le (c := cV sy M Ln st l p) (g0 := 1) (gk := 20) M 0 0).1
    rcases mnW_or (c := cV sy M Ln st l p) (g0 := 1) (gk := 20) M 0 0 with h | ⟨v, g, h2, h3, h4, h5, h6⟩
    · exact h
    · rw [hno v (by omega) g] at h6
      omega
  | false =>
    have hp := rsm_p M 0 (fun v _ hv => isSt_le hy.1.1 hst v (by omega)) hd
    obtain ⟨r, hr⟩ : ∃ r, rsm Ln st M 0 = r + 1 := ⟨rsm Ln st M 0 - 1, by omega⟩
    rw [if_neg (by decide), hr, Vm_s]
    refine mnW_cong M 0 _ (fun v _ hv g g1 g2 => ?_)
    unfold cV
    cases hs : sy st l p v g with
    | false =>
      unfold cdV
      rw [if_neg (fun z => nomatch z.1), if_neg (fun z => nomatch z.1)]
    | true =>
      obtain ⟨_, a2⟩ := isSt_add hy.1.1 hy.1.2 hst (by omega) (hy.2 st l p v g (by omega) hs)
      rw [if_neg (by omega), show rsm Ln (st + fiv v) M 0 = r by omega]
def dnP (st l p st' l' p' : Nat) : Prop := st < st' ∨ (st' = st ∧ (l' < l ∨ (l' = l ∧ p' < p)))
def SoP (b : Mm) (sy : Syf) (Ln : Nat → Nat) (M st l p : Nat) : Prop := ∀ st' l' p', dnP st l p st' l' p' → isSt Ln M st' → (l' < M ∨ (l' = 4 ∧ st' = 0)) → 1 ≤ p' → p' < 22 → b 86 (spN st' l' p') = VV sy M Ln st' l' p'
theorem SoP.T {b : Mm} {sy : Syf} {Ln : Nat → Nat} {M st l p : Nat} (hy : SyL sy M Ln) (h : SoP b sy Ln M st l p) : SoT b sy Ln M (st + 1) := by
  intro st' l' p' h1 h2 h3 h4 h5 h6
  rw [← VV_eq hy h3 (by omega)]
  exact h st' l' p' (Or.inl (by omega)) h3 (Or.inl h4) h5 h6
theorem SyB {G : Tg} {c : Nat → Int} {Ln : Nat → Nat} {D : Nat → Int} {M : Nat} (hM : M ≤ 4) (h4 : ∀ v, v < M → Ln v ≤ 4) : SyL (syB G c Ln D) M Ln := by
  refine ⟨⟨hM, h4⟩, fun st l p w g hw hs => ?_⟩
  unfold syB at hs
  rw [Bool.and_eq_true, decide_eq_true_eq] at hs
  exact hs.1
theorem RC.sy {b : Mm} {G : Tg} {M : Nat} {c : Nat → Int} {Ln : Nat → Nat} {D : Nat → Int} (h : RC b G M c Ln D) : SyL (syB G c Ln D) M Ln := SyB h.1.2.1 (fun v hv => (h.2.1 v hv).2.2)
theorem ls87 {K1 : Int → Mm → Rs} {K2 : Int → Int → Int → Mm → Rs} {K3' : Int → Int → Int → Int → Mm → Rs} {G : Tg} {M st l p : Nat} {c : Nat → Int} {Ln : Nat → Nat} {D : Nat → Int} {fi done : Int} {b : Mm} (hst : isSt Ln M st) (hC : RC b G M c Ln D) (hS : SoP b (syB G c Ln D) Ln M st l p) (hl : l < M ∨ l = 4) (hp : 1 ≤ p ∧ p < 22) (hfi : fi = if st = 0 then 1 else 0) : ∀ (k w : Nat) (best : Int) (f : Nat), w + k = M → (0 ≤ best ∧ best ≤ 1000000000) → k < f → L_X12_laysSoon_87 K1 K2 K3' f (st : Int) done (l : Int) (p : Int) best fi (w : Int) b = J_X12_laysSoon_208 K1 K2 K3' (st : Int) done (l : Int) (p : Int) (mnW (cV (syB G c Ln D) M Ln st l p) (if st = 0 then 21 else 1) (if st = 0 then 1 else 20) k w best) b := by
  have hM := hC.1.2.1
  have hSt := hS.T hC.sy
  have h60 := hC.2.2.2
  intro k
  induction k with
  | zero =>
    intro w best f hw hb hf
    obtain ⟨f', rfl⟩ : ∃ f', f = f' + 1 := ⟨f - 1, by omega⟩
    show LB_X12_laysSoon_87 K1 K2 K3' (L_X12_laysSoon_87 K1 K2 K3' f') _ _ _ _ _ _ _ _ = _
    unfold LB_X12_laysSoon_87
    rw [if_pos (by rw [hC.1.2.2.1]; omega)]
    rfl
  | succ k ih =>
    intro w best f hw hb hf
    obtain ⟨f', rfl⟩ : ∃ f', f = f' + 1 := ⟨f - 1, by omega⟩
    show LB_X12_laysSoon_87 K1 K2 K3' (L_X12_laysSoon_87 K1 K2 K3' f') _ _ _ _ _ _ _ _ = _
    unfold LB_X12_laysSoon_87
    rw [if_neg (by rw [hC.1.2.2.1]; omega)]
    subst h60
    have hg : ∀ gk g0, 1 ≤ g0 → g0 + gk ≤ 22 → (0 ≤ mnF (cV (syB G c Ln (b 60)) M Ln st l p w) gk g0 best ∧ mnF (cV (syB G c Ln (b 60)) M Ln st l p w) gk g0 best ≤ 1000000000) := by
      intro gk g0 h1 h2
      have q := (mnF_le (f := cV (syB G c Ln (b 60)) M Ln st l p w) gk g0 best).1
      rcases mnF_or (f := cV (syB G c Ln (b 60)) M Ln st l p w) gk g0 best with h | ⟨j, h3, h4, h5⟩
      · omega
      · have hj : 0 ≤ cV (syB G c Ln (b 60)) M Ln st l p w j := by
          unfold cV cdV
          have hv := Vm_in (syB G c Ln (b 60)) M (rsm Ln (st + fiv w) M 0) (st + fiv w) w j
          split
          · have hc0 : 0 ≤ (if j = 21 then (0 : Int) else (j : Int)) := by split <;> omega
            rcases hv with z | z <;> omega
          · decide
        omega
    by_cases h0 : st = 0
    · rw [if_pos h0] at hfi
      rw [if_neg (by omega), nmv_s, show (21 : Int) = ((21 : Nat) : Int) from rfl, ls109 hst hC.1 hC.2.1 hC.2.2.1 hSt (by omega) hl hp (Or.inr ⟨hfi, rfl⟩) 1 21 best 100000 rfl (by decide) hb (by omega)]
      rw [if_pos h0, if_pos h0] at ih ⊢
      exact ih (w + 1) _ f' (by omega) (hg 1 21 (by decide) (by decide)) (by omega)
    · rw [if_neg h0] at hfi
      rw [if_pos (by omega), nmv_s, show (1 : Int) = ((1 : Nat) : Int) from rfl, ls109 hst hC.1 hC.2.1 hC.2.2.1 hSt (by omega) hl hp (Or.inl ⟨hfi, rfl⟩) 20 1 best 100000 rfl (by decide) hb (by omega)]
      rw [if_neg h0, if_neg h0] at ih ⊢
      exact ih (w + 1) _ f' (by omega) (hg 20 1 (by decide) (by decide)) (by omega)
def s86 (k _ : Nat) : Bool := k == 86
theorem s86_So {b b' : Mm} (h : Fr s86 b b') : Fr sSo b b' := h.mono fun k i e => by
  cases hk : s86 k i with
  | false => rfl
  | true => unfold s86 at hk; unfold sSo at e; rw [hk] at e; exact (nomatch e)
theorem ls35 {K1 : Int → Mm → Rs} {K2 : Int → Int → Int → Mm → Rs} {G : Tg} {M st l : Nat} {c : Nat → Int} {Ln : Nat → Nat} {D : Nat → Int} (hst : isSt Ln M st) (hl : l < 5) : ∀ (k p : Nat) (b : Mm) (f : Nat), p + k = 22 → 1 ≤ p → RC b G M c Ln D → SoP b (syB G c Ln D) Ln M st l p → k < f → ∃ b', L_X12_laysSoon_35 K1 K2 f (st : Int) (b01 (dnB Ln st M 0)) (l : Int) (p : Int) b = K2 (st : Int) (b01 (dnB Ln st M 0)) ((l + 1 : Nat) : Int) b' ∧ Fr s86 b b' ∧ SoP b' (syB G c Ln D) Ln M st l 22 := by
  intro k
  induction k with
  | zero =>
    intro p b f hp h1 hC hS hf
    obtain ⟨f', rfl⟩ : ∃ f', f = f' + 1 := ⟨f - 1, by omega⟩
    have e : p = 22 := by omega
    subst e
    refine ⟨b, ?_, Fr.refl _ _, hS⟩
    show LB_X12_laysSoon_35 K1 K2 (L_X12_laysSoon_35 K1 K2 f') _ _ _ _ _ = _
    unfold LB_X12_laysSoon_35
    rw [if_pos (by decide), nmv_s, wr_s (by omega)]
    rfl
  | succ k ih =>
    intro p b f hp h1 hC hS hf
    obtain ⟨f', rfl⟩ : ∃ f', f = f' + 1 := ⟨f - 1, by omega⟩
    have hst6 := hst.1
    have hnx : ∀ v, ((l < M ∨ (l = 4 ∧ st = 0)) → v = VV (syB G c Ln D) M Ln st l p) → ∃ b', J_X12_laysSoon_208 K1 K2 (L_X12_laysSoon_35 K1 K2 f') (st : Int) (b01 (dnB Ln st M 0)) (l : Int) (p : Int) v b = K2 (st : Int) (b01 (dnB Ln st M 0)) ((l + 1 : Nat) : Int) b' ∧ Fr s86 b b' ∧ SoP b' (syB G c Ln D) Ln M st l 22 := by
      intro v hv
      obtain ⟨s1, s2⟩ := soonPlace_s (st := st) (l := l) (p := p) hst.1 hl (by omega) b
      unfold J_X12_laysSoon_208
      rw [s1, cll_s, ast_s (by omega), nmv_s, wr_s (by omega), Int.toNat_natCast]
      have hf0 : Fr s86 b (upd2 b 86 ((st * 5 + l) * 22 + p) v) := (Fr.refl _ _).upd v rfl
      obtain ⟨b', e1, e2, e3⟩ := ih (p + 1) (upd2 b 86 ((st * 5 + l) * 22 + p) v) f' (by omega) (by omega) (hC.fr (s86_So hf0)) (by
        intro st' l' p' g1 g2 g3 g4 g5
        by_cases e : st' = st ∧ l' = l ∧ p' = p
        · obtain ⟨e1, e2, e3⟩ := e
          subst e1 e2 e3
          rw [show spN st' l' p' = (st' * 5 + l') * 22 + p' from rfl, u2s]
          exact hv g3
        · have hM := hC.1.2.1
          rw [u2n (by unfold spN; unfold dnP at g1; omega)]
          exact hS st' l' p' (by unfold dnP at g1 ⊢; omega) g2 g3 g4 g5) (by omega)
      exact ⟨b', e1, hf0.trans e2, e3⟩
    have h87 : ∀ best : Int, best = (if dnB Ln st M 0 = true then 0 else 1000000000) → ∃ b', J_X12_laysSoon_55 K1 K2 (L_X12_laysSoon_35 K1 K2 f') (st : Int) (b01 (dnB Ln st M 0)) (l : Int) (p : Int) best b = K2 (st : Int) (b01 (dnB Ln st M 0)) ((l + 1 : Nat) : Int) b' ∧ Fr s86 b b' ∧ SoP b' (syB G c Ln D) Ln M st l 22 := by
      intro best hbe
      have hbb : 0 ≤ best ∧ best ≤ 1000000000 := by rw [hbe]; split <;> decide
      have hM := hC.1.2.1
      have h66 : ∀ fi : Int, fi = (if st = 0 then 1 else 0) → ∃ b', J_X12_laysSoon_66 K1 K2 (L_X12_laysSoon_35 K1 K2 f') (st : Int) (b01 (dnB Ln st M 0)) (l : Int) (p : Int) best fi b = K2 (st : Int) (b01 (dnB Ln st M 0)) ((l + 1 : Nat) : Int) b' ∧ Fr s86 b b' ∧ SoP b' (syB G c Ln D) Ln M st l 22 := by
        intro fi hfi
        have h84 : (l < M ∨ (l = 4 ∧ st = 0)) → ∃ b', J_X12_laysSoon_84 K1 K2 (L_X12_laysSoon_35 K1 K2 f') (st : Int) (b01 (dnB Ln st M 0)) (l : Int) (p : Int) best fi b = K2 (st : Int) (b01 (dnB Ln st M 0)) ((l + 1 : Nat) : Int) b' ∧ Fr s86 b b' ∧ SoP b' (syB G c Ln D) Ln M st l 22 := by
          intro hl4
          unfold J_X12_laysSoon_84
          rw [nmv_s, show (0 : Int) = ((0 : Nat) : Int) from rfl, ls87 hst hC hS (by omega) ⟨h1, by omega⟩ hfi M 0 best 100000 (by omega) hbb (by omega)]
          refine hnx _ (fun _ => ?_)
          unfold VV
          rw [← hbe]
        unfold J_X12_laysSoon_66
        rw [hC.1.2.2.1]
        by_cases c1 : l < M
        · rw [if_pos (by omega)]
          exact h84 (Or.inl c1)
        · rw [if_neg (by omega)]
          by_cases c2 : l = 4
          · rw [if_neg (by omega)]
            by_cases c3 : st = 0
            · rw [if_pos c3] at hfi
              rw [if_neg (by omega)]
              exact h84 (Or.inr ⟨c2, c3⟩)
            · rw [if_neg c3] at hfi
              rw [if_pos hfi]
              exact hnx _ (fun z => by omega)
          · rw [if_pos (by omega)]
            exact hnx _ (fun z => by omega)
      unfold J_X12_laysSoon_55
      by_cases c3 : st = 0
      · rw [if_neg (by omega), nmv_s]
        exact h66 1 (by rw [if_pos c3])
      · rw [if_pos (by omega), nmv_s]
        exact h66 0 (by rw [if_neg c3])
    show ∃ b', LB_X12_laysSoon_35 K1 K2 (L_X12_laysSoon_35 K1 K2 f') _ _ _ _ _ = _ ∧ _
    unfold LB_X12_laysSoon_35
    rw [if_neg (by omega)]
    cases hd : dnB Ln st M 0 with
    | true =>
      rw [hd] at h87
      rw [show b01 true = 1 from rfl] at h87 ⊢
      rw [if_neg (by decide), nmv_s]
      exact h87 0 (by rw [if_pos rfl])
    | false =>
      rw [hd] at h87
      rw [show b01 false = 0 from rfl] at h87 ⊢
      rw [if_pos rfl, nmv_s]
      exact h87 1000000000 (by rw [if_neg (by decide)])
theorem ls27 {K1 : Int → Mm → Rs} {G : Tg} {M st : Nat} {c : Nat → Int} {Ln : Nat → Nat} {D : Nat → Int} (hst : isSt Ln M st) : ∀ (k l : Nat) (b : Mm) (f : Nat), l + k = 5 → RC b G M c Ln D → SoP b (syB G c Ln D) Ln M st l 0 → k < f → ∃ b', L_X12_laysSoon_27 K1 f (st : Int) (b01 (dnB Ln st M 0)) (l : Int) b = K1 ((st : Int) - 1) b' ∧ Fr s86 b b' ∧ SoP b' (syB G c Ln D) Ln M st 5 0 := by
  intro k
  induction k with
  | zero =>
    intro l b f hl hC hS hf
    obtain ⟨f', rfl⟩ : ∃ f', f = f' + 1 := ⟨f - 1, by omega⟩
    have e : l = 5 := by omega
    subst e
    refine ⟨b, ?_, Fr.refl _ _, hS⟩
    show LB_X12_laysSoon_27 K1 (L_X12_laysSoon_27 K1 f') _ _ _ _ = _
    unfold LB_X12_laysSoon_27 J_X12_laysSoon_234
    have := hst.1
    rw [if_pos (by decide), nmv_s, wr_s (by omega)]
    rfl
  | succ k ih =>
    intro l b f hl hC hS hf
    obtain ⟨f', rfl⟩ : ∃ f', f = f' + 1 := ⟨f - 1, by omega⟩
    obtain ⟨b1, e1, e2, e3⟩ := ls35 (K1 := K1) (K2 := L_X12_laysSoon_27 K1 f') hst (by omega : l < 5) 21 1 b 100000 rfl (by decide) hC (fun st' l' p' g1 g2 g3 g4 g5 => hS st' l' p' (by unfold dnP at g1 ⊢; omega) g2 g3 g4 g5) (by omega)
    obtain ⟨b2, q1, q2, q3⟩ := ih (l + 1) b1 f' (by omega) (hC.fr (s86_So e2)) (fun st' l' p' g1 g2 g3 g4 g5 => e3 st' l' p' (by unfold dnP at g1 ⊢; omega) g2 g3 g4 g5) (by omega)
    refine ⟨b2, ?_, e2.trans q2, q3⟩
    show LB_X12_laysSoon_27 K1 (L_X12_laysSoon_27 K1 f') _ _ _ _ = _
    unfold LB_X12_laysSoon_27
    rw [if_neg (by omega), nmv_s, ← q1]
    exact e1
theorem isSt_st {Ln : Nat → Nat} {M st : Nat} (hs : st < 625) : stB Ln M st 4 0 = true ↔ isSt Ln M st := by
  rw [stB_iff]
  exact ⟨fun h => ⟨hs, fun w hw => h w (Nat.zero_le _) (by omega)⟩, fun h v _ hv => h.2 v (by omega)⟩
theorem ls4 {G : Tg} {M : Nat} {c : Nat → Int} {Ln : Nat → Nat} {D : Nat → Int} : ∀ (k : Nat) (b : Mm) (f : Nat), k ≤ 625 → RC b G M c Ln D → SoP b (syB G c Ln D) Ln M k 5 0 → k < f → ∃ b', L_X12_laysSoon_4 f ((k : Int) - 1) b = some (0, b') ∧ Fr s86 b b' ∧ SoP b' (syB G c Ln D) Ln M 0 5 0 := by
  intro k
  induction k with
  | zero =>
    intro b f hk hC hS hf
    obtain ⟨f', rfl⟩ : ∃ f', f = f' + 1 := ⟨f - 1, by omega⟩
    refine ⟨b, ?_, Fr.refl _ _, hS⟩
    show LB_X12_laysSoon_4 (L_X12_laysSoon_4 f') _ _ = _
    unfold LB_X12_laysSoon_4
    rw [if_pos (by omega)]
  | succ k ih =>
    intro b f hk hC hS hf
    obtain ⟨f', rfl⟩ : ∃ f', f = f' + 1 := ⟨f - 1, by omega⟩
    have hi := isState_s (st := k) (by omega) hC.1 hC.2.1
    have hdn := isDone_s (st := k) (by omega) hC.1 hC.2.1
    have hM := hC.1.2.1
    have hun : L_X12_laysSoon_4 (f' + 1) (((k + 1 : Nat) : Int) - 1) b = LB_X12_laysSoon_4 (L_X12_laysSoon_4 f') (k : Int) b := by
      rw [show ((k + 1 : Nat) : Int) - 1 = (k : Int) by omega]
      exact Eq.trans rfl rfl
    rw [hun]
    unfold LB_X12_laysSoon_4
    rw [if_neg (by omega), hi, cll_s]
    have fin : ∀ b1, Fr s86 b b1 → SoP b1 (syB G c Ln D) Ln M k 5 0 → ∃ b', L_X12_laysSoon_4 f' ((k : Int) - 1) b1 = some (0, b') ∧ Fr s86 b b' ∧ SoP b' (syB G c Ln D) Ln M 0 5 0 := by
      intro b1 f1 s1
      obtain ⟨b', e1, e2, e3⟩ := ih b1 f' (by omega) (hC.fr (s86_So f1)) s1 (by omega)
      exact ⟨b', e1, f1.trans e2, e3⟩
    cases hs : stB Ln M k 4 0 with
    | false =>
      rw [show b01 false = 0 from rfl, if_neg (by decide)]
      unfold J_X12_laysSoon_234
      rw [nmv_s, wr_s (by omega)]
      exact fin b (Fr.refl _ _) (fun st' l' p' g1 g2 g3 g4 g5 => by
        by_cases e : st' = k
        · subst e
          rw [(isSt_st (by omega)).mpr g2] at hs
          exact (nomatch hs)
        · exact hS st' l' p' (by unfold dnP at g1 ⊢; omega) g2 g3 g4 g5)
    | true =>
      have hst : isSt Ln M k := (isSt_st (by omega)).mp hs
      rw [show b01 true = 1 from rfl, if_pos (by decide), hdn, cll_s, nmv_s, nmv_s]
      obtain ⟨b1, e1, e2, e3⟩ := ls27 (K1 := L_X12_laysSoon_4 f') hst 5 0 b 100000 rfl hC (fun st' l' p' g1 g2 g3 g4 g5 => hS st' l' p' (by unfold dnP at g1 ⊢; omega) g2 g3 g4 g5) (by omega)
      obtain ⟨b', q1, q2, q3⟩ := fin b1 e2 e3
      refine ⟨b', ?_, q2, q3⟩
      rw [← q1]
      exact e1
/-- the whole table -/
def SoA (b : Mm) (sy : Syf) (Ln : Nat → Nat) (M : Nat) : Prop := ∀ st l p, isSt Ln M st → (l < M ∨ (l = 4 ∧ st = 0)) → 1 ≤ p → p < 22 → b 86 (spN st l p) = VV sy M Ln st l p
theorem laysSoon_s {G : Tg} {M : Nat} {c : Nat → Int} {Ln : Nat → Nat} {D : Nat → Int} {b : Mm} (hC : RC b G M c Ln D) : ∃ b', F_X12_laysSoon b = some (0, b') ∧ Fr s86 b b' ∧ SoA b' (syB G c Ln D) Ln M := by
  obtain ⟨b', e1, e2, e4⟩ := ls4 (M := M) (c := c) (Ln := Ln) (D := D) 625 b 100000 (by decide) hC (fun st' l' p' g1 g2 g3 g4 g5 => by have := g2.1; unfold dnP at g1; omega) (by decide)
  refine ⟨b', ?_, e2, fun st l p h1 h2 h3 h4 => e4 st l p ?_ h1 h2 h3 h4⟩
  · unfold F_X12_laysSoon
    rw [nmv_s, ← e1]
    exact Eq.trans rfl rfl
  · have := hC.1.2.1
    unfold dnP
    omega

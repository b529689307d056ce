/-! the reference's table of meanings in a crowd -/
def gpO (k : Nat) : Int := if k = 21 then 63 else (k : Int)
def plM (w g l p : Nat) : Nat := ((w * 22 + g) * 5 + l) * 22 + p
def tvM (G : Tg) (c : Nat → Int) (w g l p : Nat) : Int := mn G (gpO g) (c w) (if l = 4 then 8 else c l) (gpO p) (c w) 0
def okM (M w g l p : Nat) : Prop := w < M ∧ (1 ≤ g ∧ g < 22) ∧ (l < M ∨ l = 4) ∧ (1 ≤ p ∧ p < 22)
def TbM (b : Mm) (G : Tg) (c : Nat → Int) (M q : Nat) : Prop := ∀ w g l p, okM M w g l p → plM w g l p < q → b 85 (plM w g l p) = tvM G c w g l p
theorem gapOf_s (k : Nat) (m : Mm) : F_X12_gapOf (k : Int) m = some (gpO k, m) := by
  unfold F_X12_gapOf gpO
  by_cases h : k = 21
  · rw [if_neg (by omega), if_pos h]
  · rw [if_pos (by omega), if_neg h]
theorem plM_s {w g l p : Nat} (hw : w < 4) (hg : g < 22) (hl : l < 5) (hp : p < 22) (m : Mm) : F_X12_meansPlace (w : Int) (g : Int) (l : Int) (p : Int) m = some ((plM w g l p : Int), m) ∧ plM w g l p < 9680 := by
  constructor
  · unfold F_X12_meansPlace plM
    rw [wr_s (x := (w : Int) * 22) (by omega), wr_s (x := (w : Int) * 22 + g) (by omega), wr_s (x := ((w : Int) * 22 + g) * 5) (by omega), wr_s (x := ((w : Int) * 22 + g) * 5 + l) (by omega), wr_s (x := (((w : Int) * 22 + g) * 5 + l) * 22) (by omega), wr_s (by omega)]
    congr 2
  · unfold plM; omega
def CwS (b : Mm) (G : Tg) (M : Nat) (c : Nat → Int) : Prop := GB b G ∧ M ≤ 4 ∧ b 54 57 = (M : Int) ∧ ∀ j, j < M → b 84 j = c j
def sCw (k i : Nat) : Bool := sN k i || k == 85
theorem CwS.fr {b b' : Mm} {G : Tg} {M : Nat} {c : Nat → Int} (h : CwS b G M c) (f : Fr sCw b b') : CwS b' G M c := by
  obtain ⟨h1, h2, h3, h4⟩ := h
  refine ⟨h1.fr (f 54 14 rfl) (fun k i g1 g2 => f k i (by unfold sCw sN; simp only [Bool.or_eq_false_iff, Bool.and_eq_false_iff, beq_eq_false_iff_ne, decide_eq_false_iff_not]; omega)), h2, (f 54 57 rfl).trans h3, fun j hj => ?_⟩
  rw [f.row 84 (fun _ => rfl)]
  exact h4 j hj
theorem frNC {m m' : Mm} (h : Fr sN m m') : Fr sCw m m' := h.mono fun k i e => by
  unfold sCw at e
  cases hs : sN k i with
  | false => rfl
  | true => rw [hs] at e; exact (nomatch e)
theorem ly82 {K1 : Int → Mm → Rs} {K2 : Int → Int → Mm → Rs} {K3' : Int → Int → Int → Mm → Rs} {G : Tg} {M w g l : Nat} {c : Nat → Int} (hw : w < M) (hg : 1 ≤ g ∧ g < 22) (hl : l < 5) : ∀ (k p : Nat) (b : Mm) (f : Nat), p + k = 22 → 1 ≤ p → CwS b G M c → TbM b G c M (plM w g l p) → k < f → ∃ b', L_X12_laysCrowd_82 K1 K2 K3' f (w : Int) (g : Int) (l : Int) (p : Int) b = K3' (w : Int) (g : Int) ((l + 1 : Nat) : Int) b' ∧ Fr sCw b b' ∧ TbM b' G c M (plM w g l 22) := by
  intro k
  induction k with
  | zero =>
    intro p b f hp h1 hC hT hf
    obtain ⟨f', rfl⟩ : ∃ f', f = f' + 1 := ⟨f - 1, by omega⟩
    have e : p = 22 := by omega
    subst e
    refine ⟨b, ?_, Fr.refl _ _, hT⟩
    show LB_X12_laysCrowd_82 K1 K2 K3' (L_X12_laysCrowd_82 K1 K2 K3' f') _ _ _ _ _ = _
    unfold LB_X12_laysCrowd_82
    rw [if_pos (by decide), nmv_s, wr_s (by omega)]
    rfl
  | succ k ih =>
    intro p b f hp h1 hC hT hf
    obtain ⟨f', rfl⟩ : ∃ f', f = f' + 1 := ⟨f - 1, by omega⟩
    have hC' := hC
    obtain ⟨hB, hM, h57, h84⟩ := hC
    obtain ⟨q1, q2⟩ := plM_s (w := w) (g := g) (l := l) (p := p) (by omega) hg.2 hl (by omega) b
    have hnx : ∀ b1, Fr sCw b b1 → TbM b1 G c M (plM w g l (p + 1)) → ∃ b', J_X12_laysCrowd_165 K1 K2 K3' (L_X12_laysCrowd_82 K1 K2 K3' f') (w : Int) (g : Int) (l : Int) (p : Int) b1 = K3' (w : Int) (g : Int) ((l + 1 : Nat) : Int) b' ∧ Fr sCw b b' ∧ TbM b' G c M (plM w g l 22) := by
      intro b1 hf1 hT1
      obtain ⟨b', r1, r2, r3⟩ := ih (p + 1) b1 f' (by omega) (by omega) (hC'.fr hf1) hT1 (by omega)
      refine ⟨b', ?_, hf1.trans r2, r3⟩
      unfold J_X12_laysCrowd_165
      rw [nmv_s, wr_s (by omega)]
      exact r1
    have hwr : ∀ b1 v, Fr sN b b1 → v = tvM G c w g l p → TbM (upd2 b1 85 (plM w g l p) v) G c M (plM w g l (p + 1)) := by
      intro b1 v hf1 hv w' g' l' p' ho hlt
      by_cases e : plM w' g' l' p' = plM w g l p
      · have : w' = w ∧ g' = g ∧ l' = l ∧ p' = p := by
          unfold plM at e
          unfold okM at ho
          omega
        obtain ⟨e1, e2, e3, e4⟩ := this
        subst e1 e2 e3 e4
        rw [u2s, hv]
      · rw [u2n e, hf1 85 _ rfl]
        refine hT w' g' l' p' ho ?_
        unfold plM at e hlt ⊢
        omega
    have key : l < M ∨ l = 4 → ∃ b', J_X12_laysCrowd_107 K1 K2 K3' (L_X12_laysCrowd_82 K1 K2 K3' f') (w : Int) (g : Int) (l : Int) (p : Int) b = K3' (w : Int) (g : Int) ((l + 1 : Nat) : Int) b' ∧ Fr sCw b b' ∧ TbM b' G c M (plM w g l 22) := by
      intro hlM
      unfold J_X12_laysCrowd_107
      rw [q1, cll_s, ald_s (by omega), Int.toNat_natCast, h84 w hw, gapOf_s, cll_s, ald_s (by omega), Int.toNat_natCast, h84 w hw]
      by_cases e4 : l = 4
      · rw [if_neg (by omega), gapOf_s, cll_s]
        obtain ⟨b1, e1, e2, _⟩ := means_s hB (c w) (gpO g) (c w) 8 (gpO p) 0
        rw [e1, cll_s, ast_s (by omega), Int.toNat_natCast]
        exact hnx _ (Fr.upd (frNC e2) _ rfl) (hwr b1 _ e2 (by unfold tvM; rw [if_pos e4]))
      · rw [if_pos (by omega), ald_s (by omega), Int.toNat_natCast, h84 l (by omega), gapOf_s, cll_s]
        obtain ⟨b1, e1, e2, _⟩ := means_s hB (c w) (gpO g) (c w) (c l) (gpO p) 0
        rw [e1, cll_s, ast_s (by omega), Int.toNat_natCast]
        exact hnx _ (Fr.upd (frNC e2) _ rfl) (hwr b1 _ e2 (by unfold tvM; rw [if_neg e4]))
    show ∃ b', LB_X12_laysCrowd_82 K1 K2 K3' (L_X12_laysCrowd_82 K1 K2 K3' f') _ _ _ _ _ = _ ∧ _
    unfold LB_X12_laysCrowd_82
    rw [if_neg (by omega)]
    by_cases h4 : 4 ≤ l
    · rw [if_pos (by omega)]
      exact key (by omega)
    · rw [if_neg (by omega)]
      by_cases hlM : l < M
      · rw [if_pos (by omega)]
        exact key (Or.inl hlM)
      · rw [if_neg (by omega)]
        refine hnx b (Fr.refl _ _) (fun w' g' l' p' ho hlt => hT w' g' l' p' ho ?_)
        unfold plM at hlt ⊢
        unfold okM at ho
        by_cases e : (w' * 22 + g') * 5 + l' = (w * 22 + g) * 5 + l
        · omega
        · omega
theorem ly73 {K1 : Int → Mm → Rs} {K2 : Int → Int → Mm → Rs} {G : Tg} {M w g : Nat} {c : Nat → Int} (hw : w < M) (hg : 1 ≤ g ∧ g < 22) : ∀ (k l : Nat) (b : Mm) (f : Nat), l + k = 5 → CwS b G M c → TbM b G c M (plM w g l 1) → k < f → ∃ b', L_X12_laysCrowd_73 K1 K2 f (w : Int) (g : Int) (l : Int) b = K2 (w : Int) ((g + 1 : Nat) : Int) b' ∧ Fr sCw b b' ∧ TbM b' G c M (plM w (g + 1) 0 1) := by
  intro k
  induction k with
  | zero =>
    intro l b f hl hC hT hf
    obtain ⟨f', rfl⟩ : ∃ f', f = f' + 1 := ⟨f - 1, by omega⟩
    have e : l = 5 := by omega
    subst e
    refine ⟨b, ?_, Fr.refl _ _, fun w' g' l' p' ho hlt => hT w' g' l' p' ho (by unfold plM at hlt ⊢; omega)⟩
    show LB_X12_laysCrowd_73 K1 K2 (L_X12_laysCrowd_73 K1 K2 f') _ _ _ _ = _
    unfold LB_X12_laysCrowd_73
    rw [if_pos (by decide), nmv_s, wr_s (by omega)]
    rfl
  | succ k ih =>
    intro l b f hl hC hT hf
    obtain ⟨f', rfl⟩ : ∃ f', f = f' + 1 := ⟨f - 1, by omega⟩
    obtain ⟨b1, e1, e2, e3⟩ := ly82 (K1 := K1) (K2 := K2) (K3' := L_X12_laysCrowd_73 K1 K2 f') hw hg (show l < 5 by omega) 21 1 b 100000 (by omega) (by omega) hC hT (by omega)
    obtain ⟨b2, r1, r2, r3⟩ := ih (l + 1) b1 f' (by omega) (hC.fr e2) (fun w' g' l' p' ho hlt => e3 w' g' l' p' ho (by unfold plM at hlt ⊢; unfold okM at ho; omega)) (by omega)
    refine ⟨b2, ?_, e2.trans r2, r3⟩
    rw [← r1, ← e1]
    show LB_X12_laysCrowd_73 K1 K2 (L_X12_laysCrowd_73 K1 K2 f') _ _ _ _ = _
    unfold LB_X12_laysCrowd_73
    rw [if_neg (by omega), nmv_s]
    rfl
theorem ly64 {K1 : Int → Mm → Rs} {G : Tg} {M w : Nat} {c : Nat → Int} (hw : w < M) : ∀ (k g : Nat) (b : Mm) (f : Nat), g + k = 22 → 1 ≤ g → CwS b G M c → TbM b G c M (plM w g 0 1) → k < f → ∃ b', L_X12_laysCrowd_64 K1 f (w : Int) (g : Int) b = K1 ((w + 1 : Nat) : Int) b' ∧ Fr sCw b b' ∧ TbM b' G c M (plM (w + 1) 1 0 1) := by
  intro k
  induction k with
  | zero =>
    intro g b f hg h1 hC hT hf
    obtain ⟨f', rfl⟩ : ∃ f', f = f' + 1 := ⟨f - 1, by omega⟩
    have e : g = 22 := by omega
    subst e
    have hM := hC.2.1
    refine ⟨b, ?_, Fr.refl _ _, fun w' g' l' p' ho hlt => hT w' g' l' p' ho (by unfold plM at hlt ⊢; unfold okM at ho; omega)⟩
    show LB_X12_laysCrowd_64 K1 (L_X12_laysCrowd_64 K1 f') _ _ _ = _
    unfold LB_X12_laysCrowd_64
    rw [if_pos (by decide), nmv_s, wr_s (by omega)]
    rfl
  | succ k ih =>
    intro g b f hg h1 hC hT hf
    obtain ⟨f', rfl⟩ : ∃ f', f = f' + 1 := ⟨f - 1, by omega⟩
    obtain ⟨b1, e1, e2, e3⟩ := ly73 (K1 := K1) (K2 := L_X12_laysCrowd_64 K1 f') hw (show 1 ≤ g ∧ g < 22 by omega) 5 0 b 100000 (by omega) hC hT (by omega)
    obtain ⟨b2, r1, r2, r3⟩ := ih (g + 1) b1 f' (by omega) (by omega) (hC.fr e2) e3 (by omega)
    refine ⟨b2, ?_, e2.trans r2, r3⟩
    rw [← r1, ← e1]
    show LB_X12_laysCrowd_64 K1 (L_X12_laysCrowd_64 K1 f') _ _ _ = _
    unfold LB_X12_laysCrowd_64
    rw [if_neg (by omega), nmv_s]
    rfl
theorem ly54 {G : Tg} {M : Nat} {c : Nat → Int} : ∀ (k w : Nat) (b : Mm) (f : Nat), w + k = M → CwS b G M c → TbM b G c M (plM w 1 0 1) → k < f → ∃ b', L_X12_laysCrowd_54 f (w : Int) b = some (0, b') ∧ Fr sCw b b' ∧ TbM b' G c M 9680 := by
  intro k
  induction k with
  | zero =>
    intro w b f hw hC hT hf
    obtain ⟨f', rfl⟩ : ∃ f', f = f' + 1 := ⟨f - 1, by omega⟩
    obtain ⟨hB, hM, h57, h84⟩ := hC
    refine ⟨b, ?_, Fr.refl _ _, fun w' g' l' p' ho _ => hT w' g' l' p' ho (by unfold plM; unfold okM at ho; omega)⟩
    show LB_X12_laysCrowd_54 (L_X12_laysCrowd_54 f') _ _ = _
    unfold LB_X12_laysCrowd_54
    rw [if_pos (by omega)]
  | succ k ih =>
    intro w b f hw hC hT hf
    obtain ⟨f', rfl⟩ : ∃ f', f = f' + 1 := ⟨f - 1, by omega⟩
    have h57 := hC.2.2.1
    obtain ⟨b1, e1, e2, e3⟩ := ly64 (K1 := L_X12_laysCrowd_54 f') (show w < M by omega) 21 1 b 100000 (by omega) (by omega) hC hT (by omega)
    obtain ⟨b2, r1, r2, r3⟩ := ih (w + 1) b1 f' (by omega) (hC.fr e2) e3 (by omega)
    refine ⟨b2, ?_, e2.trans r2, r3⟩
    rw [← r1, ← e1]
    show LB_X12_laysCrowd_54 (L_X12_laysCrowd_54 f') _ _ = _
    unfold LB_X12_laysCrowd_54
    rw [if_neg (by omega), nmv_s]
    rfl

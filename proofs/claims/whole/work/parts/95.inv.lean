/-! what holds between calls -/
def InvK (a b : Mm) : Prop := (a 9 6 = -1 ∧ b 54 68 = 0) ∨ (0 ≤ a 9 6 ∧ ¬ b 54 68 = 0 ∧ IvS (a 1 5) (a 9 6) (a 9 7) (a 12) (a 13) (b 54 69) (b 54 70) (b 93) (b 94))
theorem InvK.fr {a b a' b' : Mm} {Sa Sb : Nat → Nat → Bool} (h : InvK a b) (fa : Fr Sa a a') (fb : Fr Sb b b') (a1 : Sa 1 5 = false := by rfl) (a2 : Sa 9 6 = false ∧ Sa 9 7 = false := by decide) (a3 : ∀ i, Sa 12 i = false := by intro i; rfl) (a4 : ∀ i, Sa 13 i = false := by intro i; rfl) (b1 : Sb 54 68 = false ∧ Sb 54 69 = false ∧ Sb 54 70 = false := by decide) (b2 : ∀ i, Sb 93 i = false := by intro i; rfl) (b3 : ∀ i, Sb 94 i = false := by intro i; rfl) : InvK a' b' := by
  unfold InvK
  rw [fa _ _ a1, fa _ _ a2.1, fa _ _ a2.2, fa.row 12 a3, fa.row 13 a4, fb _ _ b1.1, fb _ _ b1.2.1, fb _ _ b1.2.2, fb.row 93 b2, fb.row 94 b3]
  exact h
theorem InC.fr {a a' : Mm} {Sa : Nat → Nat → Bool} (h : InC a) (fa : Fr Sa a a') (a1 : Sa 17 3 = false ∧ Sa 17 4 = false := by decide) : InC a' := by
  unfold InC
  rw [fa _ _ a1.1, fa _ _ a1.2]
  exact h
theorem InvD.fr {a a' : Mm} {Sa : Nat → Nat → Bool} (h : InvD a) (fa : Fr Sa a a') (a1 : Sa 34 8 = false ∧ Sa 34 9 = false := by decide) : InvD a' := by
  unfold InvD
  rw [fa _ _ a1.1, fa _ _ a1.2]
  exact h
def Base (a b : Mm) : Prop := InvP a b ∧ InvT a b ∧ InvS a b ∧ InvK a b ∧ InvH a ∧ InC a ∧ InvD a
def thr (l : Nat) : Nat × Nat := if l < 105 then (4, 61530) else if l < 1050 then (3, 61425) else if l < 7875 then (2, 60375) else if l < 52500 then (1, 52500) else (0, 0)
def potW (m : Mm) : Nat × Nat := thr (lenA m (m 43 9).toNat)
def InvL (a : Mm) : Prop := 0 ≤ a 43 9 ∧ isDI a (a 43 9).toNat ∧ 0 ≤ a 0 100 ∧ a 0 100 + ((potW a).1 : Int) ≤ 4
def InvW (CO : Mm → Tg → Prop) (a b : Mm) : Prop := Base a b ∧ InvL a ∧ ∃ G, GA a G ∧ GB b G ∧ (a 43 10 = 0 ∨ CO a G)
def keepC (a a' : Mm) : Prop := a' 0 = a 0 ∧ (∀ i, i ≠ 10 → a' 43 i = a 43 i) ∧ ∀ k, 44 ≤ k → k ≤ 50 → a' k = a k
def CoFr (CO : Mm → Tg → Prop) : Prop := ∀ a a' G, CO a G → a' 43 10 = a 43 10 → a' 5 = a 5 → a' 6 = a 6 → keepC a a' → CO a' G
theorem Fr.kc {a a' : Mm} {S : Nat → Nat → Bool} (h : Fr S a a') (h0 : ∀ i, S 0 i = false := by intro i; rfl) (h43 : ∀ i, i ≠ 10 → S 43 i = false := by intro i hi; first | rfl | exact beq_eq_false_iff_ne.mpr hi) (h44 : ∀ i, S 44 i = false := by intro i; rfl) (h45 : ∀ i, S 45 i = false := by intro i; rfl) (h46 : ∀ i, S 46 i = false := by intro i; rfl) (h47 : ∀ i, S 47 i = false := by intro i; rfl) (h48 : ∀ i, S 48 i = false := by intro i; rfl) (h49 : ∀ i, S 49 i = false := by intro i; rfl) (h50 : ∀ i, S 50 i = false := by intro i; rfl) : keepC a a' := by
  refine ⟨h.row 0 h0, fun i hi => h 43 i (h43 i hi), fun k h1 h2 => ?_⟩
  have : k = 44 ∨ k = 45 ∨ k = 46 ∨ k = 47 ∨ k = 48 ∨ k = 49 ∨ k = 50 := by omega
  rcases this with e | e | e | e | e | e | e <;> subst e
  · exact h.row _ h44
  · exact h.row _ h45
  · exact h.row _ h46
  · exact h.row _ h47
  · exact h.row _ h48
  · exact h.row _ h49
  · exact h.row _ h50
theorem kc_L {a a' : Mm} (h : keepC a a') (hL : InvL a) : InvL a' ∧ potW a' = potW a := by
  have e9 : a' 43 9 = a 43 9 := h.2.1 9 (by decide)
  have ep : potW a' = potW a := by
    unfold potW lenA
    rw [e9, h.1]
  refine ⟨?_, ep⟩
  unfold InvL isDI cntD
  rw [ep, e9, h.1]
  exact hL
theorem stepW {CO : Mm → Tg → Prop} (hCO : CoFr CO) {a a' b' : Mm} {G G' : Tg} (hL : InvL a) (hC : a 43 10 = 0 ∨ CO a G) (hB' : Base a' b') (hA' : GA a' G') (hBb : GB b' G') (kc : keepC a a') (hx : a' 43 10 = 0 ∨ (G' = G ∧ a' 43 10 = a 43 10 ∧ a' 5 = a 5 ∧ a' 6 = a 6)) : InvW CO a' b' ∧ potW a' = potW a := by
  obtain ⟨k1, k2⟩ := kc_L kc hL
  refine ⟨⟨hB', k1, G', hA', hBb, ?_⟩, k2⟩
  rcases hx with z | ⟨z1, z2, z3, z4⟩
  · exact Or.inl z
  · subst z1
    rcases hC with y | y
    · exact Or.inl (z2.trans y)
    · exact Or.inr (hCO a a' G' y z2 z3 z4 kc)
/-- nothing of people, talk, what was kept changes -/
theorem Base.fr {a b a' b' : Mm} {Sa Sb : Nat → Nat → Bool} (h : Base a b) (fa : Fr Sa a a') (fb : Fr Sb b b') (hT : InvT a' b') (hH : InvH a') (hD : InvD a')
    (a1 : ∀ i, Sa 1 i = false := by intro i; rfl) (a2 : ∀ i, Sa 2 i = false := by intro i; rfl) (a3 : ∀ i, Sa 3 i = false := by intro i; rfl) (a4 : ∀ i, Sa 4 i = false := by intro i; rfl) (a5 : ∀ i, Sa 5 i = false := by intro i; rfl) (a6 : ∀ i, Sa 6 i = false := by intro i; rfl) (a9 : Sa 9 4 = false ∧ Sa 9 5 = false ∧ Sa 9 6 = false ∧ Sa 9 7 = false := by decide) (a10 : ∀ i, Sa 10 i = false := by intro i; rfl) (a11 : ∀ i, Sa 11 i = false := by intro i; rfl) (a12 : ∀ i, Sa 12 i = false := by intro i; rfl) (a13 : ∀ i, Sa 13 i = false := by intro i; rfl) (a17 : Sa 17 3 = false ∧ Sa 17 4 = false := by decide)
    (b0 : Sb 54 2 = false ∧ Sb 54 3 = false ∧ Sb 54 4 = false := by decide) (b1 : Sb 54 5 = false ∧ Sb 54 6 = false := by decide) (b2 : Sb 54 68 = false ∧ Sb 54 69 = false ∧ Sb 54 70 = false := by decide) (c1 : ∀ i, Sb 56 i = false := by intro i; rfl) (c2 : ∀ i, Sb 57 i = false := by intro i; rfl) (c3 : ∀ i, Sb 58 i = false := by intro i; rfl) (c4 : ∀ i, Sb 59 i = false := by intro i; rfl) (c5 : ∀ i, Sb 60 i = false := by intro i; rfl) (c6 : ∀ i, Sb 61 i = false := by intro i; rfl) (c7 : ∀ i, Sb 62 i = false := by intro i; rfl) (c8 : ∀ i, Sb 93 i = false := by intro i; rfl) (c9 : ∀ i, Sb 94 i = false := by intro i; rfl) : Base a' b' :=
  ⟨h.1.fr fa fb a1 a2 a3 a4 a5 a6 b0 c1 c2 c3 c4 c5, hT, h.2.2.1.fr fa fb (a1 5) ⟨a9.1, a9.2.1⟩ a10 a11 b1 c6 c7, h.2.2.2.1.fr fa fb (a1 5) ⟨a9.2.2.1, a9.2.2.2⟩ a12 a13 b2 c8 c9, hH, h.2.2.2.2.2.1.fr fa a17, hD⟩
def No (_ _ : Nat) : Bool := false
theorem sameW {CO : Mm → Tg → Prop} {a b : Mm} (h : InvW CO a b) (r : Int) : ∃ (r' : Int) (ma' mb' : Mm), some (r, a) = some (r', ma') ∧ some (r, b) = some (r', mb') ∧ InvW CO ma' mb' ∧ potW ma' = potW a := ⟨r, a, b, rfl, rfl, h, rfl⟩
/-! the calls, one after the other -/
theorem W_feed {CO : Mm → Tg → Prop} (hCO : CoFr CO) {a b : Mm} (h : InvW CO a b) (v1 v2 v3 v4 v5 : Int) : ∃ (r : Int) (a' b' : Mm), F_X11_feed v1 v2 v3 v4 v5 a = some (r, a') ∧ F_X12_feed v1 v2 v3 v4 v5 b = some (r, b') ∧ InvW CO a' b' ∧ potW a' = potW a := by
  obtain ⟨hB, hL, G, gA, gB, hC⟩ := h
  obtain ⟨r, a', b', e1, e2, e3, e4, e5⟩ := feed_s v1 v2 v3 v4 v5 hB.2.1
  obtain ⟨w1, w2⟩ := stepW hCO hL hC (hB.fr e4 e5 e3 (hB.2.2.2.2.1.fr e4) (hB.2.2.2.2.2.2.fr e4)) (gA.fr (e4 17 3 rfl) (fun k i g1 g2 => e4 k i (by unfold sT; simp only [Bool.or_eq_false_iff, Bool.and_eq_false_iff, beq_eq_false_iff_ne]; omega))) (gB.fr (e5 54 14 rfl) (fun k i g1 g2 => e5 k i (by unfold sU; simp only [Bool.or_eq_false_iff, Bool.and_eq_false_iff, beq_eq_false_iff_ne]; omega))) e4.kc (Or.inr ⟨rfl, e4 43 10 rfl, e4.row 5 (fun _ => rfl), e4.row 6 (fun _ => rfl)⟩)
  exact ⟨r, a', b', e1, e2, w1, w2⟩
theorem W_tongue {CO : Mm → Tg → Prop} (hCO : CoFr CO) {a b : Mm} (h : InvW CO a b) (v1 : Int) : ∃ (r : Int) (a' b' : Mm), F_X11_tongue v1 a = some (r, a') ∧ F_X12_tongue v1 b = some (r, b') ∧ InvW CO a' b' ∧ potW a' = potW a := by
  obtain ⟨hB, hL, G, gA, gB, hC⟩ := h
  obtain ⟨r, a', b', G', e1, e2, e3, e4, e5, e6, e7, e8, e9⟩ := tongue_s hB.2.1 gA gB hB.2.2.2.2.2.1 v1
  have hB' : Base a' b' := ⟨hB.1.fr e7 e8, e6, hB.2.2.1.fr e7 e8, hB.2.2.2.1.fr e7 e8, hB.2.2.2.2.1.fr e7, e5, hB.2.2.2.2.2.2.fr e7⟩
  obtain ⟨w1, w2⟩ := stepW hCO hL hC hB' e3 e4 (e7.kc (h43 := fun i hi => by unfold sTg; simp only [Bool.or_eq_false_iff, Bool.and_eq_false_iff, beq_eq_false_iff_ne, decide_eq_false_iff_not]; omega)) (by
    rcases e9 with z | ⟨z1, z2⟩
    · exact Or.inl z
    · exact Or.inr ⟨z1, z2, e7.row 5 (fun _ => rfl), e7.row 6 (fun _ => rfl)⟩)
  exact ⟨r, a', b', e1, e2, w1, w2⟩
/-- a call that changes nothing but what it works with -/
theorem W_gen {CO : Mm → Tg → Prop} (hCO : CoFr CO) {a b a' b' : Mm} {Sa Sb : Nat → Nat → Bool} (h : InvW CO a b) (fa : Fr Sa a a') (fb : Fr Sb b b') (hB' : Base a b → Base a' b') (ha : ∀ k i, (k = 17 ∧ i = 3) ∨ (20 ≤ k ∧ k ≤ 31) → Sa k i = false) (hb : ∀ k i, (k = 54 ∧ i = 14) ∨ (63 ≤ k ∧ k ≤ 68) → Sb k i = false) (kc : keepC a a') (h43 : a' 43 10 = a 43 10) (h5 : a' 5 = a 5) (h6 : a' 6 = a 6) : InvW CO a' b' ∧ potW a' = potW a := by
  obtain ⟨hB, hL, G, gA, gB, hC⟩ := h
  exact stepW hCO hL hC (hB' hB) (gA.fr (fa 17 3 (ha 17 3 (Or.inl ⟨rfl, rfl⟩))) (fun k i g1 g2 => fa k i (ha k i (Or.inr ⟨g1, g2⟩)))) (gB.fr (fb 54 14 (hb 54 14 (Or.inl ⟨rfl, rfl⟩))) (fun k i g1 g2 => fb k i (hb k i (Or.inr ⟨g1, g2⟩)))) kc (Or.inr ⟨rfl, h43, h5, h6⟩)

/-! calls that only look -/
theorem W_heard {CO : Mm → Tg → Prop} (hCO : CoFr CO) {a b : Mm} (h : InvW CO a b) (v1 : Int) : ∃ (r : Int) (a' b' : Mm), F_X11_heard v1 a = some (r, a') ∧ F_X12_heard v1 b = some (r, b') ∧ InvW CO a' b' ∧ potW a' = potW a := by
  have h' := h
  obtain ⟨hB, hL, G, gA, gB, hC⟩ := h'
  obtain ⟨r, a', b', e1, e2, fa, fb, hH⟩ := heard_s hB.1 hB.2.2.1 hB.2.2.2.2.1 v1
  obtain ⟨w1, w2⟩ := W_gen (Sa := sL) (Sb := sHb) hCO h fa fb (fun _ => hB.fr fa fb (hB.2.1.fr fa fb) hH (hB.2.2.2.2.2.2.fr fa)) (fun k i z => by unfold sL sH; simp only [Bool.or_eq_false_iff, Bool.and_eq_false_iff, beq_eq_false_iff_ne, decide_eq_false_iff_not]; omega) (fun k i z => by unfold sHb; simp only [Bool.or_eq_false_iff, Bool.and_eq_false_iff, beq_eq_false_iff_ne, decide_eq_false_iff_not]; omega) fa.kc (fa 43 10 rfl) (fa.row 5 (fun _ => rfl)) (fa.row 6 (fun _ => rfl))
  exact ⟨r, a', b', e1, e2, w1, w2⟩
theorem W_hearing {CO : Mm → Tg → Prop} (hCO : CoFr CO) {a b : Mm} (h : InvW CO a b) (v1 v2 v3 : Int) : ∃ (r : Int) (a' b' : Mm), F_X11_hearing v1 v2 v3 a = some (r, a') ∧ F_X12_hearing v1 v2 v3 b = some (r, b') ∧ InvW CO a' b' ∧ potW a' = potW a := by
  have h' := h
  obtain ⟨hB, hL, G, gA, gB, hC⟩ := h'
  obtain ⟨r, a', b', e1, e2, fa, fb, hH⟩ := hearing_s hB.1 hB.2.2.1 hB.2.2.2.2.1 gA gB v1 v2 v3
  obtain ⟨w1, w2⟩ := W_gen (Sa := orS sL sM) (Sb := orS sHb sN) hCO h fa fb (fun _ => hB.fr fa fb (hB.2.1.fr fa fb) hH (hB.2.2.2.2.2.2.fr fa)) (fun k i z => by unfold orS sL sH sM; simp only [Bool.or_eq_false_iff, Bool.and_eq_false_iff, beq_eq_false_iff_ne, decide_eq_false_iff_not]; omega) (fun k i z => by unfold orS sHb sN; simp only [Bool.or_eq_false_iff, Bool.and_eq_false_iff, beq_eq_false_iff_ne, decide_eq_false_iff_not]; omega) fa.kc (fa 43 10 rfl) (fa.row 5 (fun _ => rfl)) (fa.row 6 (fun _ => rfl))
  exact ⟨r, a', b', e1, e2, w1, w2⟩
theorem W_meaning {CO : Mm → Tg → Prop} (hCO : CoFr CO) {a b : Mm} (h : InvW CO a b) (v1 v2 v3 v4 v5 : Int) : ∃ (r : Int) (a' b' : Mm), F_X11_meaning v1 v2 v3 v4 v5 a = some (r, a') ∧ F_X12_meaning v1 v2 v3 v4 v5 b = some (r, b') ∧ InvW CO a' b' ∧ potW a' = potW a := by
  have h' := h
  obtain ⟨hB, hL, G, gA, gB, hC⟩ := h'
  obtain ⟨r, a', b', e1, e2, fa, fb⟩ := meaning_s hB.1 gA gB v1 v2 v3 v4 v5
  obtain ⟨w1, w2⟩ := W_gen (Sa := sM) (Sb := sN) hCO h fa fb (fun _ => hB.fr fa fb (hB.2.1.fr fa fb) (hB.2.2.2.2.1.fr fa) (hB.2.2.2.2.2.2.fr fa)) (fun k i z => by unfold sM; simp only [Bool.or_eq_false_iff, Bool.and_eq_false_iff, beq_eq_false_iff_ne, decide_eq_false_iff_not]; omega) (fun k i z => by unfold sN; simp only [Bool.or_eq_false_iff, Bool.and_eq_false_iff, beq_eq_false_iff_ne, decide_eq_false_iff_not]; omega) fa.kc (fa 43 10 rfl) (fa.row 5 (fun _ => rfl)) (fa.row 6 (fun _ => rfl))
  exact ⟨r, a', b', e1, e2, w1, w2⟩
theorem W_byRules {CO : Mm → Tg → Prop} (hCO : CoFr CO) {a b : Mm} (h : InvW CO a b) (v1 v2 v3 : Int) : ∃ (r : Int) (a' b' : Mm), F_X11_byRules v1 v2 v3 a = some (r, a') ∧ F_X12_byRules v1 v2 v3 b = some (r, b') ∧ InvW CO a' b' ∧ potW a' = potW a := by
  have h' := h
  obtain ⟨hB, hL, G, gA, gB, hC⟩ := h'
  obtain ⟨r, a', b', e1, e2, fa, fb⟩ := byRules_s hB.1 gA gB v1 v2 v3
  obtain ⟨w1, w2⟩ := W_gen (Sa := sRa) (Sb := sRb) hCO h fa fb (fun _ => hB.fr fa fb (hB.2.1.fr fa fb) (hB.2.2.2.2.1.fr fa) (hB.2.2.2.2.2.2.fr fa)) (fun k i z => by unfold sRa sM; simp only [Bool.or_eq_false_iff, Bool.and_eq_false_iff, beq_eq_false_iff_ne, decide_eq_false_iff_not]; omega) (fun k i z => by unfold sRb sN; simp only [Bool.or_eq_false_iff, Bool.and_eq_false_iff, beq_eq_false_iff_ne, decide_eq_false_iff_not]; omega) fa.kc (fa 43 10 rfl) (fa.row 5 (fun _ => rfl)) (fa.row 6 (fun _ => rfl))
  exact ⟨r, a', b', e1, e2, w1, w2⟩
theorem W_read {CO : Mm → Tg → Prop} (hCO : CoFr CO) {a b : Mm} (h : InvW CO a b) (v1 v2 v3 : Int) (hv : inR v2) : ∃ (r : Int) (a' b' : Mm), F_X11_read v1 v2 v3 a = some (r, a') ∧ F_X12_read v1 v2 v3 b = some (r, b') ∧ InvW CO a' b' ∧ potW a' = potW a := by
  have h' := h
  obtain ⟨hB, hL, G, gA, gB, hC⟩ := h'
  obtain ⟨r, a', b', e1, e2, fa, fb, hH, hT, hD⟩ := read_s hB.1 hB.2.1 hB.2.2.1 hB.2.2.2.2.1 gA gB hB.2.2.2.2.2.2 v1 v2 v3 hv
  obtain ⟨w1, w2⟩ := W_gen (Sa := sRd) (Sb := sRe) hCO h fa fb (fun _ => hB.fr fa fb hT hH hD) (fun k i z => by unfold sRd sM sL sH; simp only [Bool.or_eq_false_iff, Bool.and_eq_false_iff, beq_eq_false_iff_ne, decide_eq_false_iff_not]; omega) (fun k i z => by unfold sRe sN sHb; simp only [Bool.or_eq_false_iff, Bool.and_eq_false_iff, beq_eq_false_iff_ne, decide_eq_false_iff_not]; omega) fa.kc (fa 43 10 rfl) (fa.row 5 (fun _ => rfl)) (fa.row 6 (fun _ => rfl))
  exact ⟨r, a', b', e1, e2, w1, w2⟩
theorem W_missed {CO : Mm → Tg → Prop} (hCO : CoFr CO) {a b : Mm} (h : InvW CO a b) (v1 v2 v3 v4 : Int) : ∃ (r : Int) (a' b' : Mm), F_X11_missed v1 v2 v3 v4 a = some (r, a') ∧ F_X12_missed v1 v2 v3 v4 b = some (r, b') ∧ InvW CO a' b' ∧ potW a' = potW a := by
  have h' := h
  obtain ⟨hB, hL, G, gA, gB, hC⟩ := h'
  obtain ⟨r, a', b', e1, e2, fa, fb, hH, hT, hD⟩ := missed_s hB.1 hB.2.1 hB.2.2.1 hB.2.2.2.2.1 gA gB hB.2.2.2.2.2.2 v1 v2 v3 v4
  obtain ⟨w1, w2⟩ := W_gen (Sa := sRd) (Sb := sRe) hCO h fa fb (fun _ => hB.fr fa fb hT hH hD) (fun k i z => by unfold sRd sM sL sH; simp only [Bool.or_eq_false_iff, Bool.and_eq_false_iff, beq_eq_false_iff_ne, decide_eq_false_iff_not]; omega) (fun k i z => by unfold sRe sN sHb; simp only [Bool.or_eq_false_iff, Bool.and_eq_false_iff, beq_eq_false_iff_ne, decide_eq_false_iff_not]; omega) fa.kc (fa 43 10 rfl) (fa.row 5 (fun _ => rfl)) (fa.row 6 (fun _ => rfl))
  exact ⟨r, a', b', e1, e2, w1, w2⟩
theorem W_check {CO : Mm → Tg → Prop} (hCO : CoFr CO) {a b : Mm} (h : InvW CO a b) (v1 v2 : Int) (hv : inR v2) : ∃ (r : Int) (a' b' : Mm), F_X11_check v1 v2 a = some (r, a') ∧ F_X12_check v1 v2 b = some (r, b') ∧ InvW CO a' b' ∧ potW a' = potW a := by
  have h' := h
  obtain ⟨hB, hL, G, gA, gB, hC⟩ := h'
  obtain ⟨r, a', b', e1, e2, fa, fb, hH, hT⟩ := check_s hB.1 hB.2.1 hB.2.2.1 hB.2.2.2.2.1 gA gB v1 v2 hv
  obtain ⟨w1, w2⟩ := W_gen (Sa := orS (orS sL sM) sO) (Sb := orS sO' (orS sHb sN)) hCO h fa fb (fun _ => hB.fr fa fb hT hH (hB.2.2.2.2.2.2.fr fa)) (fun k i z => by unfold orS sL sH sM sO; simp only [Bool.or_eq_false_iff, Bool.and_eq_false_iff, beq_eq_false_iff_ne, decide_eq_false_iff_not]; omega) (fun k i z => by unfold orS sO' sHb sN; simp only [Bool.or_eq_false_iff, Bool.and_eq_false_iff, beq_eq_false_iff_ne, decide_eq_false_iff_not]; omega) fa.kc (fa 43 10 rfl) (fa.row 5 (fun _ => rfl)) (fa.row 6 (fun _ => rfl))
  exact ⟨r, a', b', e1, e2, w1, w2⟩
theorem W_said {CO : Mm → Tg → Prop} (hCO : CoFr CO) {a b : Mm} (h : InvW CO a b) (v1 v2 : Int) : ∃ (r : Int) (a' b' : Mm), F_X11_said v1 v2 a = some (r, a') ∧ F_X12_said v1 v2 b = some (r, b') ∧ InvW CO a' b' ∧ potW a' = potW a := by
  have hB := h.1
  obtain ⟨r, b', e1, e2, fb⟩ := said_s hB.1 hB.2.2.1 v1 v2
  have fa : Fr No a a := Fr.refl _ _
  obtain ⟨w1, w2⟩ := W_gen (Sa := No) (Sb := sHb) hCO h fa fb (fun _ => hB.fr fa fb (hB.2.1.fr fa fb) hB.2.2.2.2.1 hB.2.2.2.2.2.2) (fun k i z => rfl) (fun k i z => by unfold sHb; simp only [Bool.or_eq_false_iff, Bool.and_eq_false_iff, beq_eq_false_iff_ne, decide_eq_false_iff_not]; omega) fa.kc rfl rfl rfl
  exact ⟨r, a, b', e1, e2, w1, w2⟩
theorem W_way {CO : Mm → Tg → Prop} {a b : Mm} (h : InvW CO a b) (v1 v2 : Int) : ∃ (r : Int) (a' b' : Mm), F_X11_way v1 v2 a = some (r, a') ∧ F_X12_way v1 v2 b = some (r, b') ∧ InvW CO a' b' ∧ potW a' = potW a := by
  have hB := h.1
  rw [wayAA_s hB.1.A, wayBB_s hB.1]
  by_cases c : (0 ≤ v1 ∧ v1 < a 1 5) ∧ (0 ≤ v2 ∧ v2 < a 1 5)
  · rw [if_pos c, if_pos c]; exact sameW h _
  · rw [if_neg c, if_neg c]; exact sameW h _
theorem W_count {CO : Mm → Tg → Prop} {a b : Mm} (h : InvW CO a b) (v1 : Int) (hv : inR v1) : ∃ (r : Int) (a' b' : Mm), F_X11_count v1 a = some (r, a') ∧ F_X12_count v1 b = some (r, b') ∧ InvW CO a' b' ∧ potW a' = potW a := by
  obtain ⟨hB, hL, G, gA, gB, hC⟩ := h
  obtain ⟨c, g1, g2, g3, g4, g5, g6⟩ := gA
  obtain ⟨r, e1, e2⟩ := count_s hB.1 hB.2.1 hB.2.2.1 (by rw [g2, Int.toNat_natCast]; exact ⟨g1, gB.1.trans g3.symm⟩) v1 hv
  exact ⟨r, a, b, e1, e2, ⟨hB, hL, G, ⟨c, g1, g2, g3, g4, g5, g6⟩, gB, hC⟩, rfl⟩
theorem emptyT {a b : Mm} (h1 : a 7 1 = 0) (h2 : b 54 1 = 0) : InvT a b := by
  unfold InvT
  rw [h1, h2]
  exact ⟨⟨rfl, by decide, by decide⟩, fun i hi => absurd hi (by omega)⟩
theorem W_tape {CO : Mm → Tg → Prop} (hCO : CoFr CO) {a b b' : Mm} (h : InvW CO a b) (fb : Fr sTb b b') (h0 : b' 54 1 = 0) : InvW CO (upd2 a 7 1 0) b' ∧ potW (upd2 a 7 1 0) = potW a := by
  have hB := h.1
  have fa : Fr sO a (upd2 a 7 1 0) := Fr.upd (Fr.refl _ _) _ rfl
  exact W_gen (Sa := sO) (Sb := sTb) hCO h fa fb (fun _ => hB.fr fa fb (emptyT (u2s _ _ _ _) h0) (hB.2.2.2.2.1.fr fa) (hB.2.2.2.2.2.2.fr fa)) (fun k i z => by unfold sO; simp only [Bool.or_eq_false_iff, Bool.and_eq_false_iff, beq_eq_false_iff_ne, decide_eq_false_iff_not]; omega) (fun k i z => by unfold sTb; simp only [Bool.or_eq_false_iff, Bool.and_eq_false_iff, beq_eq_false_iff_ne, decide_eq_false_iff_not]; omega) fa.kc (fa 43 10 rfl) (fa.row 5 (fun _ => rfl)) (fa.row 6 (fun _ => rfl))
theorem W_table {CO : Mm → Tg → Prop} (hCO : CoFr CO) {a b : Mm} (h : InvW CO a b) (v1 v2 v3 : Int) : ∃ (r : Int) (a' b' : Mm), F_X11_table v1 v2 v3 a = some (r, a') ∧ F_X12_table v1 v2 v3 b = some (r, b') ∧ InvW CO a' b' ∧ potW a' = potW a := by
  have hB := h.1
  obtain ⟨b', e2, fb, h0⟩ := tableB_s hB.2.1 v1 v2 v3
  rw [tableA_s hB.2.1, e2]
  by_cases c : ((1 ≤ v1 ∧ v1 ≤ 12) ∧ (1 ≤ v2 ∧ v2 ≤ 5) ∧ v1 ≤ a 7 1) ∧ (v3 = -1 ∨ (1 ≤ v3 ∧ v3 ≤ v1))
  · rw [if_pos c, if_pos c]
    obtain ⟨w1, w2⟩ := W_tape hCO h fb h0
    exact ⟨_, _, _, rfl, rfl, w1, w2⟩
  · rw [if_neg c, if_neg c]; exact sameW h _
theorem W_alike {CO : Mm → Tg → Prop} (hCO : CoFr CO) {a b : Mm} (h : InvW CO a b) (v1 v2 : Int) : ∃ (r : Int) (a' b' : Mm), F_X11_alike v1 v2 a = some (r, a') ∧ F_X12_alike v1 v2 b = some (r, b') ∧ InvW CO a' b' ∧ potW a' = potW a := by
  have hB := h.1
  obtain ⟨b', e2, fb, h0⟩ := alikeB_s hB.2.1 v1 v2
  rw [alikeA_s hB.2.1, e2]
  by_cases c : (1 ≤ v1 ∧ v1 ≤ 12) ∧ (0 ≤ v2 ∧ v2 ≤ 4) ∧ v1 ≤ a 7 1
  · rw [if_pos c, if_pos c]
    obtain ⟨w1, w2⟩ := W_tape hCO h fb h0
    exact ⟨_, _, _, rfl, rfl, w1, w2⟩
  · rw [if_neg c, if_neg c]; exact sameW h _

/-! the beginning holds -/
def Qs (m : Mm) : Prop := ∀ k j, inR (m k j) ∧ (kndA k = 3 → m k j = 0 ∨ m k j = 1)
theorem Qs.rg {m : Mm} (h : Qs m) : Rg m := by
  intro k j
  unfold rgk
  split
  · exact rg_RL (h k j).1
  · split
    · rename_i h3; exact (h k j).2 h3
    · exact (h k j).1
theorem Qs_upd {m : Mm} {c i : Nat} {v : Int} (h : Qs m) (hv : inR v) (hc : kndA c ≠ 3) : Qs (upd2 m c i v) := by
  intro k j
  by_cases e : k = c
  · subst e
    by_cases e2 : j = i
    · subst e2; rw [u2s]; exact ⟨hv, fun z => absurd z hc⟩
    · rw [u2n e2]; exact h _ _
  · rw [u2r e]; exact h _ _
theorem Qs_z {m : Mm} {c : Nat} (h : Qs m) : Qs (rowW m c (fun _ => 0)) := by
  intro k j
  unfold rowW
  split
  · exact ⟨show inR 0 by unfold inR; decide, fun _ => Or.inl rfl⟩
  · exact h _ _
theorem Qs_d {m : Mm} {c n : Nat} (h : Qs m) (hc : kndA c ≠ 3) : Qs (rowW m c (dflO n)) := by
  intro k j
  unfold rowW
  split
  · rename_i e
    refine ⟨?_, fun z => absurd (e ▸ z) hc⟩
    unfold dflO inR
    split <;> decide
  · exact h _ _
theorem Qs_0 : Qs M00 := fun k j => ⟨by unfold M00 inR; decide, fun _ => Or.inl rfl⟩
theorem ir1 {v : Int} (h : decide (-2147483648 ≤ v ∧ v ≤ 2147483647) = true) : inR v := by
  unfold inR
  exact of_decide_eq_true h
set_option maxRecDepth 20000 in
theorem Rg_MW0 : Rg MW0 := by
  apply Qs.rg
  unfold MW0 I_X12_init_54 I_X11_init_0 I_X6_init_52 I_X1_init_43 I_X5_init_34 I_X2_init_32 I_X7_init_17 I_X0_init_26 I_X0_init_20 I_X3_init_14 I_X9_init_9 I_X10_init_7 I_X4_init_1
  repeat (first | refine Qs_upd ?_ (ir1 (by decide)) (by decide) | refine Qs_z ?_ | refine Qs_d ?_ (by decide))
  exact Qs_0
theorem MW0_v : (MW0 1 5 = 0 ∧ MW0 1 6 = 200 ∧ MW0 1 7 = 100 ∧ MW0 54 2 = 0 ∧ MW0 54 3 = 200 ∧ MW0 54 4 = 100) ∧ (MW0 7 1 = 0 ∧ MW0 54 1 = 0) ∧ (MW0 9 4 = 0 ∧ MW0 9 5 = 1 ∧ MW0 54 5 = 0 ∧ MW0 54 6 = 1) ∧ (MW0 9 6 = -1 ∧ MW0 54 68 = 0) ∧ MW0 14 5 = -1 ∧ (MW0 17 3 = 20 ∧ MW0 17 4 = 26) ∧ (MW0 34 8 = 41 ∧ MW0 34 9 = 42) ∧ (MW0 43 9 = 51 ∧ MW0 0 100 = 0 ∧ MW0 43 10 = 0) ∧ (MW0 20 6 = 0 ∧ MW0 54 14 = 0) := by decide +kernel
theorem MW0_l : ∀ i, i < 8 → MW0 5 i = 0 ∧ MW0 59 i = 0 := by decide +kernel
theorem pot_1 : potW MW0 = (4, 61530) := by
  obtain ⟨_, _, _, _, _, _, _, ⟨l1, _, _⟩, _⟩ := MW0_v
  unfold potW
  rw [l1]
  have : lenA MW0 ((51 : Int)).toNat = 0 := by decide
  rw [this]
  decide
theorem Inv_0 (CO : Mm → Tg → Prop) : InvW CO MW0 MW0 := by
  obtain ⟨⟨p1, p2, p3, p4, p5, p6⟩, ⟨t1, t2⟩, ⟨s1, s2, s3, s4⟩, ⟨k1, k2⟩, h1, ⟨c1, c2⟩, ⟨d1, d2⟩, ⟨l1, l2, l3⟩, g1, g2⟩ := MW0_v
  refine ⟨⟨?_, emptyT t1 t2, ?_, Or.inl ⟨k1, k2⟩, Or.inl h1, ⟨20, 26, Or.inl rfl, Or.inr rfl, by decide, c1, c2⟩, ⟨41, 42, Or.inl rfl, Or.inr rfl, by decide, d1, d2⟩⟩, ⟨by rw [l1]; decide, by rw [l1]; exact Or.inl rfl, by rw [l2]; decide, by rw [l2, pot_1]; decide⟩, ((0 : Nat), fun _ => 0, fun _ => sNum 0, fun _ => sNum 0), ⟨20, Or.inl rfl, c1, g1, by decide, fun i hi => absurd hi (by show ¬ i < 0; omega), fun _ i hi => absurd hi (by show ¬ i < 0; omega)⟩, ⟨g2, by decide, fun i hi => absurd hi (by show ¬ i < 0; omega)⟩, Or.inl l3⟩
  · unfold InvP
    rw [p1, p2, p3, p4, p5, p6]
    exact ⟨⟨rfl, rfl, rfl, by decide, by decide, by decide, by decide, by decide, by decide⟩, fun i hi => absurd hi (by omega), fun i _ h2 => MW0_l i h2, fun i j hi => absurd hi (by omega)⟩
  · unfold InvS
    rw [s1, s2, s3, s4]
    exact ⟨⟨rfl, rfl, by decide, by decide, by decide, by decide⟩, fun i hi => absurd hi (by omega)⟩
theorem pot_0 : (potW MW0).1 ≤ 599905 ∧ (potW MW0).2 ≤ 7216060 := by
  rw [pot_1]
  decide

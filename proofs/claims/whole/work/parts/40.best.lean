/-! who is heard: the nearest of those that come at once -/
theorem nr_irr {X Y : Nat → Int} {ear w : Int} : ¬ nearR X Y ear w w := by unfold nearR; omega
theorem nr_trans {X Y : Nat → Int} {ear u w v : Int} (h1 : nearR X Y ear u w) (h2 : nearR X Y ear w v) : nearR X Y ear u v := by unfold nearR at *; omega
theorem nr_tot {X Y : Nat → Int} {ear w v : Int} (h1 : ¬ nearR X Y ear w v) (h2 : ¬ nearR X Y ear v w) : w = v := by unfold nearR at *; omega
theorem nr_lt {X Y : Nat → Int} {ear u w v : Int} (h1 : ¬ nearR X Y ear w v) (h2 : nearR X Y ear u v) : nearR X Y ear u w := by
  by_cases c : nearR X Y ear v w
  · exact nr_trans h2 c
  · rw [nr_tot h1 c]; exact h2
def rch (a : Mm) (ear : Int) (j : Nat) : Prop := wayR (a 2) (a 3) ear (a 10 j) ≤ a 1 6
def Bst (a : Mm) (ear : Int) (i : Nat) (t w : Int) : Prop := (∃ j, j < i ∧ rch a ear j ∧ arA a ear j = t ∧ a 10 j = w) ∧ ∀ j, j < i → rch a ear j → arA a ear j = t → ¬ nearR (a 2) (a 3) ear (a 10 j) w
theorem hr_best {a : Mm} (hP : PpA a) (hS : SpA a) {ear : Int} (he : 0 ≤ ear ∧ ear < a 1 5) : ∀ i : Nat, (i : Int) ≤ a 9 4 → (∀ t w, InH (hrA a ear i) t w ↔ Bst a ear i t w) ∧ (∀ j, j < i → rch a ear j → ∃ v, InH (hrA a ear i) (arA a ear j) v) := by
  intro i
  induction i with
  | zero =>
    intro _
    refine ⟨fun t w => ⟨?_, ?_⟩, fun j hj => absurd hj (Nat.not_lt_zero _)⟩
    · rintro ⟨k, k1, _⟩; exact absurd k1 (Nat.not_lt_zero _)
    · rintro ⟨⟨j, j1, _⟩, _⟩; exact absurd j1 (Nat.not_lt_zero _)
  | succ i ih =>
    intro hi
    obtain ⟨ih1, ih2⟩ := ih (by omega)
    have hs := (hrA_ok hP hS he i (by omega)).2.1
    rw [hrA_s]
    by_cases c : wayR (a 2) (a 3) ear (a 10 i) ≤ a 1 6
    · rw [if_pos c]
      have ex : ∀ t w, Bst a ear i t w → t ≠ arA a ear i → Bst a ear (i + 1) t w := by
        rintro t w ⟨⟨j, j1, j2, j3, j4⟩, b2⟩ ht
        refine ⟨⟨j, by omega, j2, j3, j4⟩, fun l l1 l2 l3 => ?_⟩
        by_cases e : l = i
        · subst e; exact absurd l3.symm ht
        · exact b2 l (by omega) l2 l3
      refine ⟨fun t w => ?_, fun j hj hr => ?_⟩
      · rw [InH_plc hs]
        constructor
        · rintro (⟨z1, z2⟩ | ⟨z1, ⟨v, z2, z3⟩ | ⟨z2, z3⟩⟩)
          · exact ex t w ((ih1 t w).mp z2) z1
          · subst z1
            obtain ⟨⟨j, j1, j2, j3, j4⟩, b2⟩ := (ih1 _ v).mp z2
            rcases z3 with ⟨n1, rfl⟩ | ⟨n1, rfl⟩
            · refine ⟨⟨i, by omega, c, rfl, rfl⟩, fun l l1 l2 l3 n2 => ?_⟩
              by_cases e : l = i
              · subst e; exact nr_irr n2
              · exact b2 l (by omega) l2 l3 (nr_trans n2 n1)
            · refine ⟨⟨j, by omega, j2, j3, j4⟩, fun l l1 l2 l3 => ?_⟩
              by_cases e : l = i
              · subst e; exact n1
              · exact b2 l (by omega) l2 l3
          · subst z1 z3
            refine ⟨⟨i, by omega, c, rfl, rfl⟩, fun l l1 l2 l3 n2 => ?_⟩
            by_cases e : l = i
            · subst e; exact nr_irr n2
            · obtain ⟨v, hv⟩ := ih2 l (by omega) l2
              rw [l3] at hv
              exact z2 v hv
        · rintro ⟨⟨j, j1, j2, j3, j4⟩, b2⟩
          by_cases ht : t = arA a ear i
          · refine Or.inr ⟨ht, ?_⟩
            subst ht
            have bi := b2 i (by omega) c rfl
            by_cases hv : ∃ v, InH (hrA a ear i) (arA a ear i) v
            · obtain ⟨v, hv⟩ := hv
              obtain ⟨⟨l, l1, l2, l3, l4⟩, d2⟩ := (ih1 _ v).mp hv
              refine Or.inl ⟨v, hv, ?_⟩
              have nvw : ¬ nearR (a 2) (a 3) ear v w := by rw [← l4]; exact b2 l (by omega) l2 l3
              by_cases n1 : nearR (a 2) (a 3) ear (a 10 i) v
              · refine Or.inl ⟨n1, ?_⟩
                by_cases e : j = i
                · subst e; exact j4.symm
                · have nwv : ¬ nearR (a 2) (a 3) ear w v := by rw [← j4]; exact d2 j (by omega) j2 j3
                  exact absurd (nr_lt nwv n1) bi
              · refine Or.inr ⟨n1, ?_⟩
                by_cases e : j = i
                · subst e; rw [← j4] at nvw ⊢; exact nr_tot n1 nvw
                · have nwv : ¬ nearR (a 2) (a 3) ear w v := by rw [← j4]; exact d2 j (by omega) j2 j3
                  exact nr_tot nwv nvw
            · refine Or.inr ⟨fun v z => hv ⟨v, z⟩, ?_⟩
              by_cases e : j = i
              · subst e; exact j4.symm
              · obtain ⟨v, z⟩ := ih2 j (by omega) j2
                rw [j3] at z
                exact absurd ⟨v, z⟩ hv
          · refine Or.inl ⟨ht, (ih1 t w).mpr ⟨⟨j, ?_, j2, j3, j4⟩, fun l l1 l2 l3 => b2 l (by omega) l2 l3⟩⟩
            have : j ≠ i := by intro e; subst e; exact ht j3.symm
            omega
      · by_cases ht : arA a ear j = arA a ear i
        · rw [ht]
          by_cases hv : ∃ v, InH (hrA a ear i) (arA a ear i) v
          · obtain ⟨v, hv⟩ := hv
            by_cases n1 : nearR (a 2) (a 3) ear (a 10 i) v
            · exact ⟨a 10 i, (InH_plc hs _ _).mpr (Or.inr ⟨rfl, Or.inl ⟨v, hv, Or.inl ⟨n1, rfl⟩⟩⟩)⟩
            · exact ⟨v, (InH_plc hs _ _).mpr (Or.inr ⟨rfl, Or.inl ⟨v, hv, Or.inr ⟨n1, rfl⟩⟩⟩)⟩
          · exact ⟨a 10 i, (InH_plc hs _ _).mpr (Or.inr ⟨rfl, Or.inr ⟨fun v z => hv ⟨v, z⟩, rfl⟩⟩)⟩
        · have hne : j ≠ i := by intro e; subst e; exact ht rfl
          obtain ⟨v, hv⟩ := ih2 j (by omega) hr
          exact ⟨v, (InH_plc hs _ _).mpr (Or.inl ⟨ht, hv⟩)⟩
    · rw [if_neg c]
      refine ⟨fun t w => ?_, fun j hj hr => ?_⟩
      · rw [ih1]
        constructor
        · rintro ⟨⟨j, j1, j2, j3, j4⟩, b2⟩
          refine ⟨⟨j, by omega, j2, j3, j4⟩, fun l l1 l2 l3 => ?_⟩
          by_cases e : l = i
          · subst e; exact absurd l2 c
          · exact b2 l (by omega) l2 l3
        · rintro ⟨⟨j, j1, j2, j3, j4⟩, b2⟩
          have hne : j ≠ i := by intro e; subst e; exact c j2
          exact ⟨⟨j, by omega, j2, j3, j4⟩, fun l l1 l2 l3 => b2 l (by omega) l2 l3⟩
      · have hne : j ≠ i := by intro e; subst e; exact c hr
        exact ih2 j (by omega) hr

/-! hearings: placing a saying, class -/
theorem upd_rowS_comm {m : Mm} {c d i : Nat} {f : Nat → Int} {v : Int} (h : d ≠ c) : upd2 (rowS m c f) d i v = rowS (upd2 m d i v) c f := by
  funext k
  by_cases h1 : k = d
  · subst h1; rw [u2_row, rowS_n h, rowS_n h, u2_row]
  · rw [u2r h1]
    by_cases h2 : k = c
    · subst h2; rw [rowS_c, rowS_c]
    · rw [rowS_n h2, rowS_n h2, u2r h1]
theorem wayA_R (m : Mm) (a b : Int) : wayA m a b = wayR (m 2) (m 3) a b := rfl
theorem nearer_s {m : Mm} (h : PpA m) {e w v : Int} (he : 0 ≤ e ∧ e < m 1 5) (hw : 0 ≤ w ∧ w < m 1 5) (hv : 0 ≤ v ∧ v < m 1 5) : F_X3_nearer e w v m = some (b2i (nearR (m 2) (m 3) e w v), m) := by
  unfold F_X3_nearer
  rw [wayB_s h he hw, cll_s, nmv_s, wayB_s h he hv, cll_s, nmv_s, wayA_R, wayA_R]
  unfold b2i
  by_cases c1 : wayR (m 2) (m 3) e w < wayR (m 2) (m 3) e v
  · rw [if_pos c1, if_pos (Or.inl c1)]
  · rw [if_neg c1]
    by_cases c2 : wayR (m 2) (m 3) e w = wayR (m 2) (m 3) e v
    · rw [if_neg (by simp [c2])]
      by_cases c3 : v ≤ w
      · rw [if_pos c3, if_neg (by omega)]
      · rw [if_neg c3, if_pos (by omega)]
    · rw [if_pos c2, if_neg (by omega)]
def mvA (m : Mm) (N k : Nat) : Mm := rowS (rowS m 16 (shf (m 16) N k)) 15 (shf (m 15) N k)
theorem mvA_step (m : Mm) {N k : Nat} (h : k < N) : upd2 (upd2 (mvA m N (k + 1)) 16 (k + 1) (mvA m N (k + 1) 16 k)) 15 (k + 1) (mvA m N (k + 1) 15 k) = mvA m N k := by
  unfold mvA
  rw [rowS_n (show 16 ≠ 15 by decide), rowS_c, rowS_c, upd_rowS_comm (by decide), rowS_upd, rowS_upd, shf_step _ h, shf_step _ h]
theorem pl90 {m : Mm} {N q : Nat} {t w : Int} (hN : m 14 4 = N) (h150 : N < 150) : ∀ d k : Nat, k = q + d → k ≤ N → ∀ f, d < f → L_X3_place_90 f t w (q : Int) (k : Int) (mvA m N k) = some (0, upd2 (upd2 (upd2 (mvA m N q) 16 q t) 15 q w) 14 4 ((N : Int) + 1)) := by
  intro d
  induction d with
  | zero =>
    intro k hk hkN f hf
    obtain ⟨f', rfl⟩ : ∃ f', f = f' + 1 := ⟨f - 1, by omega⟩
    show LB_X3_place_90 (L_X3_place_90 f') _ _ _ _ _ = _
    unfold LB_X3_place_90
    rw [show k = q by omega, if_pos (by omega), ast_s (by omega), ast_s (by omega), stf_s, Int.toNat_natCast, u2r (by decide), u2r (by decide)]
    have e : mvA m N q 14 4 = N := by unfold mvA; rw [rowS_n (by decide), rowS_n (by decide), hN]
    rw [e, wr_s (by omega)]
  | succ d ih =>
    intro k hk hkN f hf
    obtain ⟨f', rfl⟩ : ∃ f', f = f' + 1 := ⟨f - 1, by omega⟩
    obtain ⟨k', rfl⟩ : ∃ k', k = k' + 1 := ⟨k - 1, by omega⟩
    show LB_X3_place_90 (L_X3_place_90 f') _ _ _ _ _ = _
    unfold LB_X3_place_90
    have e := ih k' (by omega) (by omega) f' (by omega)
    rw [if_neg (by omega), wr_s (x := ((k' + 1 : Nat) : Int) - 1) (by omega), ald_s (by omega), ast_s (by omega), ald_s (by omega), ast_s (by omega), nmv_s, wr_s (by omega), u2r (by decide), Int.toNat_natCast, show (((k' + 1 : Nat) : Int) - 1).toNat = k' by omega, show ((k' + 1 : Nat) : Int) + -1 = (k' : Int) by omega, mvA_step m (by omega)]
    exact e
def sH (k i : Nat) : Bool := k == 15 || k == 16 || (k == 14 && i == 4)
theorem mvA_fr (m : Mm) (N k : Nat) : Fr sH m (mvA m N k) := Fr.rowS (Fr.rowS (Fr.refl _ _) _ (fun _ => rfl)) _ (fun _ => rfl)
/-- scanning from the end stops behind the last that is not later -/
theorem pl5 {m : Mm} {h : Hs} {t w : Int} (hI : HsIn (m 14 4) (m 16) (m 15) h) (h150 : h.1 < 150) (q : Nat) (hq : q ≤ h.1) (q1 : ∀ j, q ≤ j → j < h.1 → t < h.2.1 j) (q2 : 0 < q → h.2.1 (q - 1) ≤ t) : ∀ d k : Nat, k = q + d → k ≤ h.1 → ∀ f, d < f → L_X3_place_5 f t w (k : Int) m = J_X3_place_27 t w (q : Int) m := by
  intro d
  induction d with
  | zero =>
    intro k hk hkN f hf
    obtain ⟨f', rfl⟩ : ∃ f', f = f' + 1 := ⟨f - 1, by omega⟩
    show LB_X3_place_5 (L_X3_place_5 f') _ _ _ _ = _
    unfold LB_X3_place_5
    rw [show k = q by omega]
    by_cases c : q = 0
    · rw [if_pos (by omega)]
    · rw [if_neg (by omega), wr_s (by omega), ald_s (by omega), show ((q : Int) - 1).toNat = q - 1 by omega, (hI.2 (q - 1) (by omega)).1, if_pos (q2 (by omega))]
  | succ d ih =>
    intro k hk hkN f hf
    obtain ⟨f', rfl⟩ : ∃ f', f = f' + 1 := ⟨f - 1, by omega⟩
    obtain ⟨k', rfl⟩ : ∃ k', k = k' + 1 := ⟨k - 1, by omega⟩
    show LB_X3_place_5 (L_X3_place_5 f') _ _ _ _ = _
    unfold LB_X3_place_5
    have e := ih k' (by omega) (by omega) f' (by omega)
    have g := q1 k' (by omega) (by omega)
    rw [if_neg (by omega), wr_s (x := ((k' + 1 : Nat) : Int) - 1) (by omega), ald_s (by omega), show (((k' + 1 : Nat) : Int) - 1).toNat = k' by omega, (hI.2 k' (by omega)).1, if_neg (by omega), nmv_s, wr_s (by omega), show ((k' + 1 : Nat) : Int) + -1 = (k' : Int) by omega]
    exact e
theorem placeA {m : Mm} (hP : PpA m) {h : Hs} {t w lo hi : Int} {i : Nat} (hI : HsIn (m 14 4) (m 16) (m 15) h) (ho : HsOk (m 1 5) lo hi i h) (hi150 : i < 150) (he : 0 ≤ m 14 5 ∧ m 14 5 < m 1 5) (hw : 0 ≤ w ∧ w < m 1 5) : ∃ m', F_X3_place t w m = some (0, m') ∧ HsIn (m' 14 4) (m' 16) (m' 15) (plc (m 2) (m 3) (m 14 5) t w h) ∧ Fr sH m m' := by
  obtain ⟨h1, h2, h3⟩ := ho
  obtain ⟨g1, g2, g3, g4⟩ := psN_r (T := h.2.1) (t := t) h.1 0
  unfold F_X3_place plc
  rw [nmv_s, hI.1]
  generalize eq : psN h.2.1 t h.1 0 = q at g1 g2 g3 g4
  by_cases c1 : q < h.1 ∧ h.2.1 q = t
  · have s := pl5 (m := m) (h := h) (t := t) (w := w) hI (by omega) (q + 1) (by omega) (fun j hj1 hj2 => by have := h2 q j (by omega) hj2; omega) (fun _ => by rw [show q + 1 - 1 = q by omega]; omega) (h.1 - (q + 1)) h.1 (by omega) (by omega) 100000 (by omega)
    rw [s, if_pos c1]
    have hq := h3 q c1.1
    unfold J_X3_place_27
    rw [if_neg (by omega), wr_s (by omega), ald_s (by omega), show (((q + 1 : Nat) : Int) - 1).toNat = q by omega, (hI.2 q c1.1).1, if_neg (by simp [c1.2]), ald_s (by omega), show (((q + 1 : Nat) : Int) - 1).toNat = q by omega, (hI.2 q c1.1).2, nearer_s hP he hw hq.1, cll_s, ib0]
    by_cases c2 : nearR (m 2) (m 3) (m 14 5) w (h.2.2 q)
    · rw [if_pos c2, if_pos c2, ast_s (by omega), show (((q + 1 : Nat) : Int) - 1).toNat = q by omega]
      refine ⟨_, rfl, ⟨?_, ?_⟩, Fr.upd (Fr.refl _ _) _ rfl⟩
      · rw [u2r (by decide)]; exact hI.1
      · intro j hj
        rw [u2r (by decide), u2_row]
        refine ⟨(hI.2 j hj).1, ?_⟩
        show upr (m 15) q w j = upr h.2.2 q w j
        by_cases e : j = q
        · subst e; rw [upr_s, upr_s]
        · rw [upr_n e, upr_n e]; exact (hI.2 j hj).2
    · rw [if_neg c2, if_neg c2]
      exact ⟨m, rfl, hI, Fr.refl _ _⟩
  · have h5 : ∀ j, q ≤ j → j < h.1 → t < h.2.1 j := by
      intro j hj1 hj2
      have h6 := g4 (by omega)
      by_cases e : j = q
      · subst e
        have : ¬ h.2.1 j = t := fun z => c1 ⟨hj2, z⟩
        omega
      · have := h2 q j (by omega) hj2
        omega
    have s := pl5 (m := m) (h := h) (t := t) (w := w) hI (by omega) q (by omega) h5 (fun hq => by have := g3 (q - 1) (by omega) (by omega); omega) (h.1 - q) h.1 (by omega) (by omega) 100000 (by omega)
    rw [s, if_neg c1]
    have hj : J_X3_place_27 t w (q : Int) m = J_X3_place_73 t w (q : Int) m := by
      unfold J_X3_place_27
      by_cases e : q = 0
      · rw [if_pos (by omega)]
      · have := g3 (q - 1) (by omega) (by omega)
        rw [if_neg (by omega), wr_s (by omega), ald_s (by omega), show ((q : Int) - 1).toNat = q - 1 by omega, (hI.2 (q - 1) (by omega)).1, if_pos (by omega)]
    have s2 := pl90 (m := m) (N := h.1) (q := q) (t := t) (w := w) hI.1 (by omega) (h.1 - q) h.1 (by omega) (by omega) 100000 (by omega)
    have e0 : mvA m h.1 h.1 = m := by unfold mvA; rw [shf_0, shf_0, rowS_id, rowS_id]
    rw [e0] at s2
    rw [hj]
    unfold J_X3_place_73
    rw [hI.1, if_pos (by omega), nmv_s, s2]
    refine ⟨_, rfl, ⟨?_, ?_⟩, Fr.upd (Fr.upd (Fr.upd (mvA_fr _ _ _) _ rfl) _ rfl) _ rfl⟩
    · rw [u2s]; show (h.1 : Int) + 1 = ((h.1 + 1 : Nat) : Int); omega
    · intro j hj
      have hj' : j < h.1 + 1 := hj
      rw [u2r (by decide), u2r (by decide), u2_row, u2r (by decide), u2_row, u2r (by decide)]
      have r1 : mvA m h.1 q 16 = shf (m 16) h.1 q := by unfold mvA; rw [rowS_n (by decide), rowS_c]
      have r2 : mvA m h.1 q 15 = shf (m 15) h.1 q := by unfold mvA; rw [rowS_c]
      rw [r1, r2]
      exact ⟨shf_ins (fun j hj => (hI.2 j hj).1) (by omega) t j hj', shf_ins (fun j hj => (hI.2 j hj).2) (by omega) w j hj'⟩

/-! hearings: listening, class -/
def hrA (m : Mm) (ear : Int) (i : Nat) : Hs := hrS (m 2) (m 3) (m 1 6) (m 1 7) (m 10) (m 11) ear i
def arA (m : Mm) (ear : Int) (i : Nat) : Int := arrR (m 2) (m 3) (m 1 7) (m 10) (m 11) ear i
/-- the class's sayings are good -/
def SpA (m : Mm) : Prop := (0 ≤ m 9 4 ∧ m 9 4 ≤ 150) ∧ ∀ i : Nat, (i : Int) < m 9 4 → (0 ≤ m 10 i ∧ m 10 i < m 1 5) ∧ 0 ≤ m 11 i ∧ m 11 i ≤ 9999
theorem InvS.A {a b : Mm} (h : InvS a b) : SpA a := ⟨⟨h.1.2.2.1, h.1.2.2.2.1⟩, fun i hi => (h.2 i hi).2⟩
theorem div_b {x y : Int} (hx : 0 ≤ x ∧ x ≤ 200) (hy : 1 ≤ y) : 0 ≤ x / y ∧ x / y ≤ 200 :=
  ⟨Int.ediv_nonneg hx.1 (by omega), Int.le_trans (Int.ediv_le_self _ hx.1) hx.2⟩
theorem arA_b {m : Mm} (hP : PpA m) (hS : SpA m) {ear : Int} (he : 0 ≤ ear ∧ ear < m 1 5) {i : Nat} (hi : (i : Int) < m 9 4) : 0 ≤ arA m ear i ∧ arA m ear i ≤ 10199 := by
  have h1 := hS.2 i hi
  have h2 := wayA_in hP he h1.1
  rw [wayA_R] at h2
  have h3 := div_b (x := wayR (m 2) (m 3) ear (m 10 i)) (y := m 1 7) (by omega) hP.1.2.2.2.2.1
  unfold arA arrR
  omega
theorem hrA_s (m : Mm) (ear : Int) (i : Nat) : hrA m ear (i + 1) = if wayR (m 2) (m 3) ear (m 10 i) ≤ m 1 6 then plc (m 2) (m 3) ear (arA m ear i) (m 10 i) (hrA m ear i) else hrA m ear i := Eq.trans rfl rfl
theorem hrA_ok {m : Mm} (hP : PpA m) (hS : SpA m) {ear : Int} (he : 0 ≤ ear ∧ ear < m 1 5) : ∀ i : Nat, (i : Int) ≤ m 9 4 → HsOk (m 1 5) 0 10199 i (hrA m ear i) := by
  intro i
  induction i with
  | zero => intro _; exact ⟨Nat.le_refl _, fun i j h1 h2 => absurd h2 (Nat.not_lt_zero _), fun j hj => absurd hj (Nat.not_lt_zero _)⟩
  | succ i ih =>
    intro hi
    have h := ih (by omega)
    rw [hrA_s]
    split
    · exact plc_ok h (hS.2 i (by omega)).1 (arA_b hP hS he (by omega))
    · exact ⟨by have := h.1; omega, h.2⟩
theorem whoA_s {m : Mm} (hS : SpA m) {i : Nat} (hi : (i : Int) < m 9 4) : F_X9_whoOf (i : Int) m = some (m 10 i, m) := by
  have h0 := hS.1
  unfold F_X9_whoOf
  rw [if_neg (by omega), if_neg (by omega), ald_s (by omega), Int.toNat_natCast]
theorem brA_s {m : Mm} (hS : SpA m) {i : Nat} (hi : (i : Int) < m 9 4) : F_X9_breathOf (i : Int) m = some (m 11 i, m) := by
  have h0 := hS.1
  unfold F_X9_breathOf
  rw [if_neg (by omega), if_neg (by omega), ald_s (by omega), Int.toNat_natCast]
theorem reaches_s {m : Mm} (hP : PpA m) {e w : Int} (he : 0 ≤ e ∧ e < m 1 5) (hw : 0 ≤ w ∧ w < m 1 5) : F_X4_reaches e w m = some (b2i (wayR (m 2) (m 3) e w ≤ m 1 6), m) := by
  unfold F_X4_reaches
  rw [wayB_s hP he hw, cll_s, wayA_R]
  unfold b2i
  by_cases c : wayR (m 2) (m 3) e w ≤ m 1 6
  · rw [if_neg (by omega), if_pos c]
  · rw [if_pos (by omega), if_neg c]
theorem arrival_s {m : Mm} (hP : PpA m) (hS : SpA m) {ear : Int} (he : 0 ≤ ear ∧ ear < m 1 5) {i : Nat} (hi : (i : Int) < m 9 4) : F_X3_arrival ear (i : Int) m = some (arA m ear i, m) := by
  have h1 := hS.2 i hi
  have h2 := wayA_in hP he h1.1
  have h3 := arA_b hP hS he hi
  have h4 := hP.1
  unfold F_X3_arrival F_X4_breathsFor
  rw [brA_s hS hi, cll_s, whoA_s hS hi, cll_s, wayB_s hP he h1.1, cll_s, if_neg (by omega), dvn_s (by omega), cll_s, tdiv_p h2.1]
  rw [wayA_R] at h2 ⊢
  have h5 := div_b (x := wayR (m 2) (m 3) ear (m 10 i)) (y := m 1 7) (by omega) hP.1.2.2.2.2.1
  unfold arA arrR at h3
  rw [wr_s (x := wayR (m 2) (m 3) ear (m 10 i) / m 1 7) (by omega), wr_s (by omega)]
  rfl
theorem PpA.fr {m m' : Mm} {S : Nat → Nat → Bool} (h : PpA m) (f : Fr S m m') (a1 : ∀ i, S 1 i = false := by intro i; rfl) (a2 : ∀ i, S 2 i = false := by intro i; rfl) (a3 : ∀ i, S 3 i = false := by intro i; rfl) (a5 : ∀ i, S 5 i = false := by intro i; rfl) : PpA m' := by
  unfold PpA
  rw [f.row 1 a1, f.row 2 a2, f.row 3 a3, f.row 5 a5]
  exact h
theorem SpA.fr {m m' : Mm} {S : Nat → Nat → Bool} (h : SpA m) (f : Fr S m m') (a1 : S 1 5 = false := by decide) (a2 : S 9 4 = false := by decide) (a3 : ∀ i, S 10 i = false := by intro i; rfl) (a4 : ∀ i, S 11 i = false := by intro i; rfl) : SpA m' := by
  unfold SpA
  rw [f _ _ a1, f _ _ a2, f.row 10 a3, f.row 11 a4]
  exact h
theorem hrA_fr {m m' : Mm} {S : Nat → Nat → Bool} (f : Fr S m m') (ear : Int) (i : Nat) (a1 : ∀ i, S 1 i = false := by intro i; rfl) (a2 : ∀ i, S 2 i = false := by intro i; rfl) (a3 : ∀ i, S 3 i = false := by intro i; rfl) (a4 : ∀ i, S 10 i = false := by intro i; rfl) (a5 : ∀ i, S 11 i = false := by intro i; rfl) : hrA m' ear i = hrA m ear i := by
  unfold hrA
  rw [f.row 1 a1, f.row 2 a2, f.row 3 a3, f.row 10 a4, f.row 11 a5]
theorem listen_l {ear : Int} {s : Nat} : ∀ (k i : Nat) (m : Mm) (f : Nat), i + k = s → PpA m → SpA m → m 9 4 = s → (0 ≤ ear ∧ ear < m 1 5) → m 14 5 = ear → HsIn (m 14 4) (m 16) (m 15) (hrA m ear i) → k < f → ∃ m', L_X3_listen_21 f ear (i : Int) m = some (0, m') ∧ HsIn (m' 14 4) (m' 16) (m' 15) (hrA m ear s) ∧ Fr sH m m' := by
  intro k
  induction k with
  | zero =>
    intro i m f hi hP hS hs he hl hI hf
    obtain ⟨f', rfl⟩ : ∃ f', f = f' + 1 := ⟨f - 1, by omega⟩
    refine ⟨m, ?_, by rw [← show i = s by omega]; exact hI, Fr.refl _ _⟩
    show LB_X3_listen_21 (L_X3_listen_21 f') _ _ _ = _
    unfold LB_X3_listen_21
    rw [if_pos (by omega)]
  | succ k ih =>
    intro i m f hi hP hS hs he hl hI hf
    obtain ⟨f', rfl⟩ : ∃ f', f = f' + 1 := ⟨f - 1, by omega⟩
    have hw := hS.2 i (by omega)
    have h150 := hS.1
    show ∃ m', LB_X3_listen_21 (L_X3_listen_21 f') _ _ _ = _ ∧ _
    unfold LB_X3_listen_21 J_X3_listen_64
    simp only [nmv_s]
    rw [if_neg (by omega), whoA_s hS (by omega), cll_s, reaches_s hP he hw.1, cll_s, ib0, wr_s (by omega)]
    by_cases c : wayR (m 2) (m 3) ear (m 10 i) ≤ m 1 6
    · obtain ⟨m1, p1, p2, p3⟩ := placeA hP (t := arA m ear i) (w := m 10 i) hI (hrA_ok hP hS he i (by omega)) (by omega) (by rw [hl]; exact he) hw.1
      rw [if_pos c, arrival_s hP hS he (by omega), cll_s, p1, cll_s]
      have v1 : m1 9 4 = m 9 4 := p3 _ _ rfl
      have v2 : m1 14 5 = m 14 5 := p3 _ _ rfl
      have v3 : m1 1 5 = m 1 5 := p3 _ _ rfl
      rw [hl, ← show hrA m ear (i + 1) = plc (m 2) (m 3) ear (arA m ear i) (m 10 i) (hrA m ear i) by rw [hrA_s, if_pos c], ← hrA_fr p3 ear (i + 1)] at p2
      obtain ⟨m', e1, e2, e3⟩ := ih (i + 1) m1 f' (by omega) (hP.fr p3) (hS.fr p3) (by omega) (by omega) (by omega) p2 (by omega)
      rw [hrA_fr p3] at e2
      exact ⟨m', e1, e2, p3.trans e3⟩
    · rw [if_neg c]
      exact ih (i + 1) m f' (by omega) hP hS hs he hl (by rw [hrA_s, if_neg c]; exact hI) (by omega)
/-- the class's hearings, if it keeps any, are those of its ear -/
def InvH (m : Mm) : Prop := m 14 5 = -1 ∨ ((0 ≤ m 14 5 ∧ m 14 5 < m 1 5) ∧ HsIn (m 14 4) (m 16) (m 15) (hrA m (m 14 5) (m 9 4).toNat))
def sL (k i : Nat) : Bool := sH k i || (k == 14 && i == 5)
theorem listenA_s {m : Mm} (hP : PpA m) (hS : SpA m) (hH : InvH m) {ear : Int} (he : 0 ≤ ear ∧ ear < m 1 5) : ∃ m', F_X3_listen ear m = some (0, m') ∧ m' 14 5 = ear ∧ HsIn (m' 14 4) (m' 16) (m' 15) (hrA m ear (m 9 4).toNat) ∧ Fr sL m m' := by
  unfold F_X3_listen
  by_cases c : m 14 5 = ear
  · rw [if_neg (by simp [c])]
    refine ⟨m, rfl, c, ?_, Fr.refl _ _⟩
    rcases hH with z | z
    · omega
    · rw [← c]; exact z.2
  · rw [if_pos c, stf_s, stf_s, nmv_s]
    have f0 : Fr sL m (upd2 (upd2 m 14 5 ear) 14 4 0) := Fr.upd (Fr.upd (Fr.refl _ _) _ rfl) _ rfl
    have v1 : upd2 (upd2 m 14 5 ear) 14 4 0 14 5 = ear := by rw [u2n (by decide), u2s]
    have v2 : upd2 (upd2 m 14 5 ear) 14 4 0 14 4 = 0 := u2s _ _ _ _
    generalize upd2 (upd2 m 14 5 ear) 14 4 0 = m1 at f0 v1 v2
    have v3 : m1 9 4 = m 9 4 := f0 _ _ rfl
    have v4 : m1 1 5 = m 1 5 := f0 _ _ rfl
    have h0 := hS.1
    obtain ⟨m', e1, e2, e3⟩ := listen_l (ear := ear) (s := (m 9 4).toNat) (m 9 4).toNat 0 m1 100000 (by omega) (hP.fr f0) (hS.fr f0) (by omega) (by omega) v1 ⟨v2, fun j hj => absurd hj (Nat.not_lt_zero _)⟩ (by omega)
    rw [hrA_fr f0] at e2
    rw [show ((0 : Nat) : Int) = 0 from rfl] at e1
    exact ⟨m', e1, by rw [e3 14 5 rfl, v1], e2, f0.trans (e3.mono (fun k i z => (Bool.or_eq_false_iff.mp z).1))⟩

/-! the row of speakers and of gaps, as functions -/
def exB (f : Nat → Bool) : Nat → Nat → Bool
  | 0, _ => false
  | k + 1, i => f i || exB f k (i + 1)
theorem exB_iff {f : Nat → Bool} : ∀ k i, exB f k i = true ↔ ∃ j, i ≤ j ∧ j < i + k ∧ f j = true := by
  intro k
  induction k with
  | zero => intro i; exact ⟨fun h => (nomatch h), fun ⟨j, h1, h2, _⟩ => by omega⟩
  | succ k ih =>
    intro i
    unfold exB
    rw [Bool.or_eq_true, ih (i + 1)]
    constructor
    · rintro (h | ⟨j, h1, h2, h3⟩)
      · exact ⟨i, Nat.le_refl _, by omega, h⟩
      · exact ⟨j, by omega, by omega, h3⟩
    · rintro ⟨j, h1, h2, h3⟩
      by_cases e : j = i
      · subst e; exact Or.inl h3
      · exact Or.inr ⟨j, by omega, by omega, h3⟩
def lst (P : Nat → Bool) : Nat → Nat → Nat
  | 0, i => i
  | k + 1, i => if P i = true then i else lst P k (i + 1)
theorem lst_s {P : Nat → Bool} : ∀ k i j, i ≤ j → j < i + k → P j = true → i ≤ lst P k i ∧ lst P k i ≤ j ∧ P (lst P k i) = true ∧ ∀ v, i ≤ v → v < lst P k i → P v = false := by
  intro k
  induction k with
  | zero => intro i j h1 h2; omega
  | succ k ih =>
    intro i j h1 h2 h3
    unfold lst
    by_cases c : P i = true
    · rw [if_pos c]
      exact ⟨Nat.le_refl _, h1, c, fun v g1 g2 => by omega⟩
    · rw [if_neg c]
      have hne : j ≠ i := fun e => c (e ▸ h3)
      obtain ⟨q1, q2, q3, q4⟩ := ih (i + 1) j (by omega) (by omega) h3
      refine ⟨by omega, q2, q3, fun v g1 g2 => ?_⟩
      by_cases e : v = i
      · subst e; exact Bool.eq_false_iff.mpr c
      · exact q4 v (by omega) g2
theorem lst_u {P : Nat → Bool} {k i w : Nat} (h1 : i ≤ w) (h2 : w < i + k) (h3 : P w = true) (h4 : ∀ v, i ≤ v → v < w → P v = false) : lst P k i = w := by
  obtain ⟨q1, q2, q3, q4⟩ := lst_s k i w h1 h2 h3
  by_cases e : lst P k i = w
  · exact e
  · rw [h4 _ q1 (by omega)] at q3
    exact (nomatch q3)
def Vc (sy : Syf) (M : Nat) (Ln : Nat → Nat) (st w g : Nat) : Int := Vm sy M (rsm Ln (st + fiv w) M 0) (st + fiv w) w g
/-- a step by which no breath is lost -/
def tT (sy : Syf) (M : Nat) (Ln : Nat → Nat) (st l p w g : Nat) : Bool := sy st l p w g && (decide (Vc sy M Ln st w g < 1000000000) && decide ((if g = 21 then (0 : Int) else (g : Int)) + Vc sy M Ln st w g = VV sy M Ln st l p))
theorem tT_iff {sy : Syf} {M : Nat} {Ln : Nat → Nat} {st l p w g : Nat} : tT sy M Ln st l p w g = true ↔ sy st l p w g = true ∧ Vc sy M Ln st w g < 1000000000 ∧ (if g = 21 then (0 : Int) else (g : Int)) + Vc sy M Ln st w g = VV sy M Ln st l p := by
  unfold tT
  rw [Bool.and_eq_true, Bool.and_eq_true, decide_eq_true_eq, decide_eq_true_eq]
def gLo (st : Nat) : Nat := if st = 0 then 21 else 1
def gHi (st : Nat) : Nat := if st = 0 then 22 else 21
def nx (sy : Syf) (M : Nat) (Ln : Nat → Nat) (A : Nat → Bool) (st l w g : Nat) : Bool := decide (gLo st ≤ g ∧ g < gHi st) && exB (fun p => A p && tT sy M Ln st l p w g) 21 1
theorem nx_iff {sy : Syf} {M : Nat} {Ln : Nat → Nat} {A : Nat → Bool} {st l w g : Nat} : nx sy M Ln A st l w g = true ↔ (gLo st ≤ g ∧ g < gHi st) ∧ ∃ p, 1 ≤ p ∧ p < 22 ∧ A p = true ∧ tT sy M Ln st l p w g = true := by
  unfold nx
  rw [Bool.and_eq_true, decide_eq_true_eq, exB_iff]
  constructor
  · rintro ⟨h1, p, h2, h3, h4⟩
    rw [Bool.and_eq_true] at h4
    exact ⟨h1, p, h2, h3, h4⟩
  · rintro ⟨h1, p, h2, h3, h4, h5⟩
    exact ⟨h1, p, h2, h3, by rw [Bool.and_eq_true]; exact ⟨h4, h5⟩⟩
def gos (sy : Syf) (M : Nat) (Ln : Nat → Nat) (A : Nat → Bool) (st l w : Nat) : Bool := exB (nx sy M Ln A st l w) 22 0
theorem gos_iff {sy : Syf} {M : Nat} {Ln : Nat → Nat} {A : Nat → Bool} {st l w : Nat} : gos sy M Ln A st l w = true ↔ ∃ g, nx sy M Ln A st l w g = true := by
  unfold gos
  rw [exB_iff]
  constructor
  · rintro ⟨g, _, _, h⟩; exact ⟨g, h⟩
  · rintro ⟨g, h⟩
    refine ⟨g, Nat.zero_le _, ?_, h⟩
    have := (nx_iff.mp h).1.2
    unfold gHi at this
    split at this <;> omega
abbrev Rst : Type := Nat × Nat × (Nat → Bool)
def Rq (sy : Syf) (M : Nat) (Ln : Nat → Nat) : Nat → Rst
  | 0 => (0, 4, fun p => p == 21)
  | i + 1 =>
    let r := Rq sy M Ln i
    let w := lst (fun w => gos sy M Ln r.2.2 r.1 r.2.1 w) M 0
    (r.1 + fiv w, w, nx sy M Ln r.2.2 r.1 r.2.1 w)
theorem Rq_0 (sy : Syf) (M : Nat) (Ln : Nat → Nat) : Rq sy M Ln 0 = (0, 4, fun p => p == 21) := Eq.trans rfl rfl
def wqN (sy : Syf) (M : Nat) (Ln : Nat → Nat) (i : Nat) : Nat := (Rq sy M Ln (i + 1)).2.1
theorem wqN_s (sy : Syf) (M : Nat) (Ln : Nat → Nat) (i : Nat) : wqN sy M Ln i = lst (fun w => gos sy M Ln (Rq sy M Ln i).2.2 (Rq sy M Ln i).1 (Rq sy M Ln i).2.1 w) M 0 := Eq.trans rfl rfl
theorem Rq_st (sy : Syf) (M : Nat) (Ln : Nat → Nat) (i : Nat) : (Rq sy M Ln (i + 1)).1 = (Rq sy M Ln i).1 + fiv (wqN sy M Ln i) := Eq.trans rfl rfl
theorem Rq_l (sy : Syf) (M : Nat) (Ln : Nat → Nat) (i : Nat) : (Rq sy M Ln (i + 1)).2.1 = wqN sy M Ln i := Eq.trans rfl rfl
theorem Rq_A (sy : Syf) (M : Nat) (Ln : Nat → Nat) (i : Nat) : (Rq sy M Ln (i + 1)).2.2 = nx sy M Ln (Rq sy M Ln i).2.2 (Rq sy M Ln i).1 (Rq sy M Ln i).2.1 (wqN sy M Ln i) := Eq.trans rfl rfl
/-- where the row stands -/
def RqI (sy : Syf) (M : Nat) (Ln : Nat → Nat) (i : Nat) (r : Rst) : Prop :=
  isSt Ln M r.1 ∧ rsm Ln r.1 M 0 + i = rsm Ln 0 M 0 ∧ ((i = 0 ∧ r.2.1 = 4 ∧ r.1 = 0) ∨ (0 < i ∧ r.2.1 < M ∧ 0 < r.1)) ∧ (∃ p, r.2.2 p = true) ∧ ∀ p, r.2.2 p = true → (1 ≤ p ∧ p < 22) ∧ VV sy M Ln r.1 r.2.1 p < 1000000000
theorem rsm_d {sy : Syf} {M : Nat} {Ln : Nat → Nat} (hy : SyL sy M Ln) {st : Nat} (hst : isSt Ln M st) : dnB Ln st M 0 = true ↔ rsm Ln st M 0 = 0 := by
  constructor
  · exact rsm_0 M 0
  · intro h
    cases hd : dnB Ln st M 0 with
    | true => rfl
    | false =>
      have := rsm_p M 0 (fun v _ hv => isSt_le hy.1.1 hst v (by omega)) hd
      omega
theorem tight {sy : Syf} {M : Nat} {Ln : Nat → Nat} {st l p : Nat} (hd : dnB Ln st M 0 = false) (hV : VV sy M Ln st l p < 1000000000) : ∃ w g, w < M ∧ (gLo st ≤ g ∧ g < gHi st) ∧ tT sy M Ln st l p w g = true := by
  have hV0 : VV sy M Ln st l p = mnW (cV sy M Ln st l p) (if st = 0 then 21 else 1) (if st = 0 then 1 else 20) M 0 1000000000 := by
    unfold VV
    rw [hd, if_neg (by decide : ¬ false = true)]
  rcases mnW_or (c := cV sy M Ln st l p) (g0 := if st = 0 then 21 else 1) (gk := if st = 0 then 1 else 20) M 0 1000000000 with h | ⟨v, g, h1, h2, h3, h4, h5⟩
  · rw [← hV0] at h; omega
  · rw [← hV0] at h5
    refine ⟨v, g, by omega, ⟨h3, by unfold gHi; split at h4 <;> (rename_i e; first | rw [if_pos e] at *; omega | rw [if_neg e] at *; omega)⟩, ?_⟩
    rw [h5] at hV
    unfold cV cdV at h5 hV
    by_cases hc : sy st l p v g = true ∧ Vm sy M (rsm Ln (st + fiv v) M 0) (st + fiv v) v g < 1000000000
    · rw [if_pos hc] at h5
      exact tT_iff.mpr ⟨hc.1, hc.2, h5.symm⟩
    · rw [if_neg hc] at hV
      omega
theorem Rq_i {sy : Syf} {M : Nat} {Ln : Nat → Nat} (hy : SyL sy M Ln) (hV : VV sy M Ln 0 4 21 < 1000000000) : ∀ i, i ≤ rsm Ln 0 M 0 → RqI sy M Ln i (Rq sy M Ln i) ∧ (i < rsm Ln 0 M 0 → wqN sy M Ln i < M ∧ gos sy M Ln (Rq sy M Ln i).2.2 (Rq sy M Ln i).1 (Rq sy M Ln i).2.1 (wqN sy M Ln i) = true ∧ ∀ v, v < wqN sy M Ln i → gos sy M Ln (Rq sy M Ln i).2.2 (Rq sy M Ln i).1 (Rq sy M Ln i).2.1 v = false) := by
  have hw : ∀ i, i < rsm Ln 0 M 0 → RqI sy M Ln i (Rq sy M Ln i) → wqN sy M Ln i < M ∧ gos sy M Ln (Rq sy M Ln i).2.2 (Rq sy M Ln i).1 (Rq sy M Ln i).2.1 (wqN sy M Ln i) = true ∧ ∀ v, v < wqN sy M Ln i → gos sy M Ln (Rq sy M Ln i).2.2 (Rq sy M Ln i).1 (Rq sy M Ln i).2.1 v = false := by
    intro i hi ⟨h1, h2, h3, ⟨p, h4⟩, h5⟩
    have hd : dnB Ln (Rq sy M Ln i).1 M 0 = false := by
      cases hd : dnB Ln (Rq sy M Ln i).1 M 0 with
      | false => rfl
      | true => rw [rsm_d hy h1] at hd; omega
    obtain ⟨w, g, q1, q2, q3⟩ := tight hd (h5 p h4).2
    rw [wqN_s]
    obtain ⟨z1, z2, z3, z4⟩ := lst_s (P := fun w => gos sy M Ln (Rq sy M Ln i).2.2 (Rq sy M Ln i).1 (Rq sy M Ln i).2.1 w) M 0 w (Nat.zero_le _) (by omega) (gos_iff.mpr ⟨g, nx_iff.mpr ⟨q2, p, (h5 p h4).1.1, (h5 p h4).1.2, h4, q3⟩⟩)
    exact ⟨by omega, z3, fun v hv => z4 v (Nat.zero_le _) hv⟩
  intro i
  induction i with
  | zero =>
    intro _
    have h0 : RqI sy M Ln 0 (Rq sy M Ln 0) := by
      rw [Rq_0]
      refine ⟨⟨by show (0 : Nat) < 625; decide, fun w hw => ?_⟩, rfl, Or.inl ⟨rfl, rfl, rfl⟩, ⟨21, rfl⟩, fun p hp => ?_⟩
      · show dg 0 w ≤ _
        rw [dg_0 w hw]
        exact Nat.zero_le _
      · have e : p = 21 := beq_iff_eq.mp hp
        subst e
        exact ⟨⟨by decide, by decide⟩, hV⟩
    exact ⟨h0, fun hi => hw 0 hi h0⟩
  | succ i ih =>
    intro hi
    obtain ⟨hR, hn⟩ := ih (by omega)
    obtain ⟨w1, w2, w3⟩ := hn (by omega)
    obtain ⟨g, hg⟩ := gos_iff.mp w2
    have hst := hR.1
    have hd : dg (Rq sy M Ln i).1 (wqN sy M Ln i) < Ln (wqN sy M Ln i) := by
      obtain ⟨_, p, _, _, _, ht⟩ := nx_iff.mp hg
      exact hy.2 _ _ _ _ _ w1 (tT_iff.mp ht).1
    obtain ⟨a1, a2⟩ := isSt_add hy.1.1 hy.1.2 hst w1 hd
    have h0 : RqI sy M Ln (i + 1) (Rq sy M Ln (i + 1)) := by
      refine ⟨?_, ?_, ?_, ?_, ?_⟩
      · rw [Rq_st]; exact a1
      · rw [Rq_st]; have := hR.2.1; omega
      · right
        rw [Rq_st, Rq_l]
        have := fiv_pos (wqN sy M Ln i)
        exact ⟨by omega, w1, by omega⟩
      · rw [Rq_A]; exact ⟨g, hg⟩
      · intro p hp
        rw [Rq_A] at hp
        rw [Rq_st, Rq_l]
        obtain ⟨r1, q, _, _, _, ht⟩ := nx_iff.mp hp
        obtain ⟨t1, t2, t3⟩ := tT_iff.mp ht
        refine ⟨?_, ?_⟩
        · unfold gLo gHi at r1
          by_cases e : (Rq sy M Ln i).1 = 0
          · rw [if_pos e, if_pos e] at r1; omega
          · rw [if_neg e, if_neg e] at r1; omega
        · have := fiv_pos (wqN sy M Ln i)
          rw [VV_eq hy a1 (by omega)]
          exact t2
    exact ⟨h0, fun hi => hw (i + 1) hi h0⟩
/-- the gaps from which the row goes on; k words are left -/
def Bk (sy : Syf) (M : Nat) (Ln : Nat → Nat) : Nat → Nat → Nat → Bool
  | 0, i, p => (Rq sy M Ln i).2.2 p
  | k + 1, i, p => (Rq sy M Ln i).2.2 p && exB (fun g => Bk sy M Ln k (i + 1) g && tT sy M Ln (Rq sy M Ln i).1 (Rq sy M Ln i).2.1 p (wqN sy M Ln i) g) 20 1
theorem Bk_0 (sy : Syf) (M : Nat) (Ln : Nat → Nat) (i p : Nat) : Bk sy M Ln 0 i p = (Rq sy M Ln i).2.2 p := Eq.trans rfl rfl
theorem Bk_s {sy : Syf} {M : Nat} {Ln : Nat → Nat} {k i p : Nat} : Bk sy M Ln (k + 1) i p = true ↔ (Rq sy M Ln i).2.2 p = true ∧ ∃ g, 1 ≤ g ∧ g < 21 ∧ Bk sy M Ln k (i + 1) g = true ∧ tT sy M Ln (Rq sy M Ln i).1 (Rq sy M Ln i).2.1 p (wqN sy M Ln i) g = true := by
  show ((Rq sy M Ln i).2.2 p && exB (fun g => Bk sy M Ln k (i + 1) g && tT sy M Ln (Rq sy M Ln i).1 (Rq sy M Ln i).2.1 p (wqN sy M Ln i) g) 20 1) = true ↔ _
  rw [Bool.and_eq_true, exB_iff]
  constructor
  · rintro ⟨h1, g, h2, h3, h4⟩
    rw [Bool.and_eq_true] at h4
    exact ⟨h1, g, h2, h3, h4⟩
  · rintro ⟨h1, g, h2, h3, h4, h5⟩
    exact ⟨h1, g, h2, h3, by rw [Bool.and_eq_true]; exact ⟨h4, h5⟩⟩
theorem Bk_A {sy : Syf} {M : Nat} {Ln : Nat → Nat} : ∀ {k i p : Nat}, Bk sy M Ln k i p = true → (Rq sy M Ln i).2.2 p = true := by
  intro k i p h
  cases k with
  | zero => exact h
  | succ k => exact (Bk_s.mp h).1
theorem Bk_ne {sy : Syf} {M : Nat} {Ln : Nat → Nat} (hy : SyL sy M Ln) (hV : VV sy M Ln 0 4 21 < 1000000000) : ∀ k i, 1 ≤ i → i + k = rsm Ln 0 M 0 → ∃ p, Bk sy M Ln k i p = true := by
  intro k
  induction k with
  | zero =>
    intro i h1 h2
    exact (Rq_i hy hV i (by omega)).1.2.2.2.1
  | succ k ih =>
    intro i h1 h2
    obtain ⟨g, hg⟩ := ih (i + 1) (by omega) (by omega)
    have hA := Bk_A hg
    rw [Rq_A] at hA
    obtain ⟨r1, p, p1, p2, p3, p4⟩ := nx_iff.mp hA
    have hR := (Rq_i hy hV i (by omega)).1
    have h0 : ¬ (Rq sy M Ln i).1 = 0 := by rcases hR.2.2.1 with z | z <;> omega
    unfold gLo gHi at r1
    rw [if_neg h0, if_neg h0] at r1
    exact ⟨p, Bk_s.mpr ⟨p3, g, r1.1, r1.2, hg, p4⟩⟩
/-- the gap before the saying i, as an index -/
def gqN (sy : Syf) (M : Nat) (Ln : Nat → Nat) (S : Nat) : Nat → Nat
  | 0 => 21
  | i + 1 => lst (fun g => Bk sy M Ln (S - (i + 1)) (i + 1) g && tT sy M Ln (Rq sy M Ln i).1 (Rq sy M Ln i).2.1 (gqN sy M Ln S i) (wqN sy M Ln i) g) 21 (gLo (Rq sy M Ln i).1)
theorem gqN_s (sy : Syf) (M : Nat) (Ln : Nat → Nat) (S i : Nat) : gqN sy M Ln S (i + 1) = lst (fun g => Bk sy M Ln (S - (i + 1)) (i + 1) g && tT sy M Ln (Rq sy M Ln i).1 (Rq sy M Ln i).2.1 (gqN sy M Ln S i) (wqN sy M Ln i) g) 21 (gLo (Rq sy M Ln i).1) := Eq.trans rfl rfl
theorem Rq_1 {sy : Syf} {M : Nat} {Ln : Nat → Nat} {p : Nat} (h : (Rq sy M Ln 1).2.2 p = true) : p = 21 ∧ tT sy M Ln 0 4 21 (wqN sy M Ln 0) 21 = true := by
  rw [Rq_A, Rq_0] at h
  obtain ⟨r1, q, q1, q2, q3, q4⟩ := nx_iff.mp h
  have e : q = 21 := beq_iff_eq.mp q3
  subst e
  have hp : p = 21 := by
    unfold gLo gHi at r1
    rw [if_pos rfl, if_pos rfl] at r1
    omega
  subst hp
  exact ⟨rfl, q4⟩
theorem gqN_i {sy : Syf} {M : Nat} {Ln : Nat → Nat} (hy : SyL sy M Ln) (hV : VV sy M Ln 0 4 21 < 1000000000) : ∀ i, i < rsm Ln 0 M 0 → (Bk sy M Ln (rsm Ln 0 M 0 - (i + 1)) (i + 1) (gqN sy M Ln (rsm Ln 0 M 0) (i + 1)) = true ∧ tT sy M Ln (Rq sy M Ln i).1 (Rq sy M Ln i).2.1 (gqN sy M Ln (rsm Ln 0 M 0) i) (wqN sy M Ln i) (gqN sy M Ln (rsm Ln 0 M 0) (i + 1)) = true) ∧ (i = 0 → gqN sy M Ln (rsm Ln 0 M 0) (i + 1) = 21) ∧ (0 < i → 1 ≤ gqN sy M Ln (rsm Ln 0 M 0) (i + 1) ∧ gqN sy M Ln (rsm Ln 0 M 0) (i + 1) < 21 ∧ ∀ v, 1 ≤ v → v < gqN sy M Ln (rsm Ln 0 M 0) (i + 1) → (Bk sy M Ln (rsm Ln 0 M 0 - (i + 1)) (i + 1) v && tT sy M Ln (Rq sy M Ln i).1 (Rq sy M Ln i).2.1 (gqN sy M Ln (rsm Ln 0 M 0) i) (wqN sy M Ln i) v) = false) := by
  intro i
  induction i with
  | zero =>
    intro hi
    obtain ⟨p, hp⟩ := Bk_ne hy hV (rsm Ln 0 M 0 - 1) 1 (by decide) (by omega)
    obtain ⟨e1, e2⟩ := Rq_1 (Bk_A hp)
    subst e1
    have hb : (Bk sy M Ln (rsm Ln 0 M 0 - (0 + 1)) (0 + 1) 21 && tT sy M Ln (Rq sy M Ln 0).1 (Rq sy M Ln 0).2.1 (gqN sy M Ln (rsm Ln 0 M 0) 0) (wqN sy M Ln 0) 21) = true := by
      rw [Bool.and_eq_true]
      refine ⟨hp, ?_⟩
      rw [Rq_0]
      exact e2
    have hg : gqN sy M Ln (rsm Ln 0 M 0) (0 + 1) = 21 := by
      rw [gqN_s]
      refine lst_u ?_ ?_ hb (fun v h1 h2 => ?_)
      · rw [Rq_0]; decide
      · rw [Rq_0]; decide
      · rw [Rq_0] at h1
        have h1' : gLo 0 ≤ v := h1
        have : gLo 0 = 21 := rfl
        omega
    rw [hg]
    rw [Bool.and_eq_true] at hb
    exact ⟨hb, fun _ => rfl, fun z => by omega⟩
  | succ i ih =>
    intro hi
    obtain ⟨⟨j1, _⟩, _⟩ := ih (by omega)
    have hR := (Rq_i hy hV (i + 1) (by omega)).1
    have h0 : ¬ (Rq sy M Ln (i + 1)).1 = 0 := by rcases hR.2.2.1 with z | z <;> omega
    obtain ⟨k, hk⟩ : ∃ k, rsm Ln 0 M 0 - (i + 1) = k + 1 := ⟨rsm Ln 0 M 0 - (i + 1) - 1, by omega⟩
    rw [hk] at j1
    obtain ⟨_, g, g1, g2, g3, g4⟩ := Bk_s.mp j1
    have hk2 : rsm Ln 0 M 0 - (i + 1 + 1) = k := by omega
    have hlo : gLo (Rq sy M Ln (i + 1)).1 = 1 := by unfold gLo; rw [if_neg h0]
    obtain ⟨z1, z2, z3, z4⟩ := lst_s (P := fun g => Bk sy M Ln (rsm Ln 0 M 0 - (i + 1 + 1)) (i + 1 + 1) g && tT sy M Ln (Rq sy M Ln (i + 1)).1 (Rq sy M Ln (i + 1)).2.1 (gqN sy M Ln (rsm Ln 0 M 0) (i + 1)) (wqN sy M Ln (i + 1)) g) 21 1 g g1 (by omega) (by rw [Bool.and_eq_true, hk2]; exact ⟨g3, g4⟩)
    rw [gqN_s sy M Ln (rsm Ln 0 M 0) (i + 1), hlo]
    rw [Bool.and_eq_true] at z3
    exact ⟨z3, fun z => by omega, fun _ => ⟨z1, by omega, z4⟩⟩

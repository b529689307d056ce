/-! hearings: what an ear hears, as a pure function -/
def wayR (X Y : Nat → Int) (a b : Int) : Int := iabs (X a.toNat - X b.toNat) + iabs (Y a.toNat - Y b.toNat)
def psN (T : Nat → Int) (t : Int) : Nat → Nat → Nat
  | 0, i => i
  | k + 1, i => if T i < t then psN T t k (i + 1) else i
theorem psN_s (T : Nat → Int) (t : Int) (k i : Nat) : psN T t (k + 1) i = if T i < t then psN T t k (i + 1) else i := Eq.trans rfl rfl
def insR (r : Nat → Int) (q : Nat) (v : Int) : Nat → Int := fun j => if j < q then r j else if j = q then v else r (j - 1)
abbrev nearR (X Y : Nat → Int) (ear w v : Int) : Prop := wayR X Y ear w < wayR X Y ear v ∨ (wayR X Y ear w = wayR X Y ear v ∧ w < v)
abbrev Hs : Type := Nat × (Nat → Int) × (Nat → Int)
def plc (X Y : Nat → Int) (ear t w : Int) (h : Hs) : Hs :=
  if psN h.2.1 t h.1 0 < h.1 ∧ h.2.1 (psN h.2.1 t h.1 0) = t then (if nearR X Y ear w (h.2.2 (psN h.2.1 t h.1 0)) then (h.1, h.2.1, upr h.2.2 (psN h.2.1 t h.1 0) w) else h)
  else (h.1 + 1, insR h.2.1 (psN h.2.1 t h.1 0) t, insR h.2.2 (psN h.2.1 t h.1 0) w)
def arrR (X Y : Nat → Int) (sp : Int) (wh br : Nat → Int) (ear : Int) (i : Nat) : Int := br i + wayR X Y ear (wh i) / sp
def hrS (X Y : Nat → Int) (rg sp : Int) (wh br : Nat → Int) (ear : Int) : Nat → Hs
  | 0 => (0, fun _ => 0, fun _ => 0)
  | i + 1 => if wayR X Y ear (wh i) ≤ rg then plc X Y ear (arrR X Y sp wh br ear i) (wh i) (hrS X Y rg sp wh br ear i) else hrS X Y rg sp wh br ear i
/-- sorted strictly, by breath -/
def srt (N : Nat) (T : Nat → Int) : Prop := ∀ i j : Nat, i < j → j < N → T i < T j
theorem psN_r {T : Nat → Int} {t : Int} : ∀ k i : Nat, i ≤ psN T t k i ∧ psN T t k i ≤ i + k ∧ (∀ j, i ≤ j → j < psN T t k i → T j < t) ∧ (psN T t k i < i + k → t ≤ T (psN T t k i)) := by
  intro k
  induction k with
  | zero => intro i; exact ⟨Nat.le_refl _, Nat.le_refl _, fun j h1 h2 => by unfold psN at h2; omega, fun h => by unfold psN at h; omega⟩
  | succ k ih =>
    intro i
    rw [psN_s]
    by_cases h : T i < t
    · rw [if_pos h]
      obtain ⟨h1, h2, h3, h4⟩ := ih (i + 1)
      refine ⟨by omega, by omega, fun j hj1 hj2 => ?_, fun hh => h4 (by omega)⟩
      by_cases e : j = i
      · subst e; exact h
      · exact h3 j (by omega) hj2
    · rw [if_neg h]
      exact ⟨Nat.le_refl _, by omega, fun j h1 h2 => by omega, fun _ => by omega⟩
theorem srt_ins {N : Nat} {T : Nat → Int} (hs : srt N T) {t : Int} (hne : ¬ (psN T t N 0 < N ∧ T (psN T t N 0) = t)) : srt (N + 1) (insR T (psN T t N 0) t) := by
  obtain ⟨h1, h2, h3, h4⟩ := psN_r (T := T) (t := t) N 0
  generalize psN T t N 0 = q at *
  have h5 : ∀ j, q ≤ j → j < N → t < T j := by
    intro j hj1 hj2
    have h6 := h4 (by omega)
    by_cases e : j = q
    · subst e
      have : ¬ T j = t := fun z => hne ⟨hj2, z⟩
      omega
    · have := hs q j (by omega) hj2
      omega
  intro i j hij hj
  unfold insR
  by_cases c1 : j < q
  · rw [if_pos (by omega), if_pos c1]; exact hs i j hij (by omega)
  · by_cases c2 : j = q
    · rw [if_pos (by omega), if_neg c1, if_pos c2]; exact h3 i (by omega) (by omega)
    · rw [if_neg c1, if_neg c2]
      by_cases c3 : i < q
      · rw [if_pos c3]
        have z1 := h3 i (by omega) c3
        have z2 := h5 (j - 1) (by omega) (by omega)
        omega
      · by_cases c4 : i = q
        · rw [if_neg c3, if_pos c4]; exact h5 (j - 1) (by omega) (by omega)
        · rw [if_neg c3, if_neg c4]; exact hs (i - 1) (j - 1) (by omega) (by omega)
/-- what holds of what is heard out of i sayings -/
def HsOk (n : Int) (lo hi : Int) (i : Nat) (h : Hs) : Prop := h.1 ≤ i ∧ srt h.1 h.2.1 ∧ ∀ j, j < h.1 → (0 ≤ h.2.2 j ∧ h.2.2 j < n) ∧ lo ≤ h.2.1 j ∧ h.2.1 j ≤ hi
theorem plc_ok {X Y : Nat → Int} {ear t w n lo hi : Int} {i : Nat} {h : Hs} (ho : HsOk n lo hi i h) (hw : 0 ≤ w ∧ w < n) (ht : lo ≤ t ∧ t ≤ hi) : HsOk n lo hi (i + 1) (plc X Y ear t w h) := by
  obtain ⟨h1, h2, h3⟩ := ho
  unfold plc
  by_cases c1 : psN h.2.1 t h.1 0 < h.1 ∧ h.2.1 (psN h.2.1 t h.1 0) = t
  · rw [if_pos c1]
    by_cases c2 : nearR X Y ear w (h.2.2 (psN h.2.1 t h.1 0))
    · rw [if_pos c2]
      refine ⟨by show h.1 ≤ i + 1; omega, h2, fun j hj => ⟨?_, (h3 j hj).2⟩⟩
      show 0 ≤ upr h.2.2 _ w j ∧ upr h.2.2 _ w j < n
      by_cases e : j = psN h.2.1 t h.1 0
      · subst e; rw [upr_s]; exact hw
      · rw [upr_n e]; exact (h3 j hj).1
    · rw [if_neg c2]; exact ⟨by omega, h2, h3⟩
  · rw [if_neg c1]
    refine ⟨by show h.1 + 1 ≤ i + 1; omega, srt_ins h2 c1, fun j hj => ?_⟩
    obtain ⟨g1, g2, g3, g4⟩ := psN_r (T := h.2.1) (t := t) h.1 0
    have hj' : j < h.1 + 1 := hj
    show (0 ≤ insR h.2.2 _ w j ∧ insR h.2.2 _ w j < n) ∧ lo ≤ insR h.2.1 _ t j ∧ insR h.2.1 _ t j ≤ hi
    unfold insR
    by_cases c3 : j < psN h.2.1 t h.1 0
    · rw [if_pos c3, if_pos c3]; exact h3 j (by omega)
    · by_cases c4 : j = psN h.2.1 t h.1 0
      · rw [if_neg c3, if_neg c3, if_pos c4, if_pos c4]; exact ⟨hw, ht⟩
      · rw [if_neg c3, if_neg c3, if_neg c4, if_neg c4]; exact h3 (j - 1) (by omega)
/-- rows hold what is heard -/
def HsIn (N : Int) (T W : Nat → Int) (h : Hs) : Prop := N = (h.1 : Int) ∧ ∀ j, j < h.1 → T j = h.2.1 j ∧ W j = h.2.2 j
/-- the row while its upper part is moved: places above k hold what was below -/
def shf (r : Nat → Int) (N k : Nat) : Nat → Int := fun j => if k < j ∧ j ≤ N then r (j - 1) else r j
theorem shf_0 (r : Nat → Int) (N : Nat) : shf r N N = r := by
  funext j; unfold shf; rw [if_neg (by omega)]
theorem shf_step (r : Nat → Int) {N k : Nat} (h : k < N) : upr (shf r N (k + 1)) (k + 1) (shf r N (k + 1) k) = shf r N k := by
  funext j
  unfold upr
  by_cases e : j = k + 1
  · rw [if_pos e]; unfold shf; rw [if_neg (by omega), if_pos (by omega), e]; rfl
  · rw [if_neg e]; unfold shf
    by_cases c : k + 1 < j ∧ j ≤ N
    · rw [if_pos c, if_pos (by omega)]
    · rw [if_neg c, if_neg (by omega)]
theorem shf_ins {r r' : Nat → Int} {N q : Nat} (h : ∀ j, j < N → r j = r' j) (hq : q ≤ N) (v : Int) : ∀ j, j < N + 1 → upr (shf r N q) q v j = insR r' q v j := by
  intro j hj
  unfold upr insR shf
  by_cases c1 : j < q
  · rw [if_neg (by omega), if_neg (by omega), if_pos c1]; exact h j (by omega)
  · by_cases c2 : j = q
    · rw [if_pos c2, if_neg c1, if_pos c2]
    · rw [if_neg c2, if_pos (by omega), if_neg c1, if_neg c2]; exact h (j - 1) (by omega)

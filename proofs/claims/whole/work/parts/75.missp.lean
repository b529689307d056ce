/-! what an ear may have missed: counting -/
abbrev St4 : Type := Int × Int × Int × Int
def nt (p : Bool) (i pt w : Nat) (s : St4) : St4 := if p then (s.1 + 1, if s.1 = 0 then ((i : Int), (pt : Int), (w : Int)) else s.2) else s
def fdW (P : Nat → Bool) (i pt : Nat) : Nat → Nat → St4 → St4
  | 0, _, s => s
  | k + 1, w, s => fdW P i pt k (w + 1) (nt (P w) i pt w s)
def fdP (P : Nat → Nat → Bool) (N i : Nat) : Nat → Nat → St4 → St4
  | 0, _, s => s
  | k + 1, pt, s => fdP P N i k (pt + 1) (fdW (P pt) i pt N 0 s)
def fdI (P : Nat → Nat → Nat → Bool) (N : Nat) (gp : Nat → Int) : Nat → Nat → St4 → St4
  | 0, _, s => s
  | k + 1, i, s => fdI P N gp k (i + 1) (fdP (P i) N i ((gp i).toNat - 1) 1 s)
theorem fdW_id {P : Nat → Bool} {i pt : Nat} : ∀ k w s, (∀ v, w ≤ v → v < w + k → P v = false) → fdW P i pt k w s = s := by
  intro k
  induction k with
  | zero => intro w s _; rfl
  | succ k ih =>
    intro w s h
    unfold fdW
    rw [h w (Nat.le_refl _) (by omega)]
    exact ih (w + 1) s (fun v h1 h2 => h v (by omega) (by omega))
theorem fdP_id {P : Nat → Nat → Bool} {N i : Nat} : ∀ k pt s, (∀ q, pt ≤ q → q < pt + k → ∀ v, v < N → P q v = false) → fdP P N i k pt s = s := by
  intro k
  induction k with
  | zero => intro pt s _; rfl
  | succ k ih =>
    intro pt s h
    unfold fdP
    rw [fdW_id N 0 s (fun v _ h2 => h pt (Nat.le_refl _) (by omega) v (by omega))]
    exact ih (pt + 1) s (fun q h1 h2 => h q (by omega) (by omega))
theorem fdI_id {P : Nat → Nat → Nat → Bool} {N : Nat} {gp : Nat → Int} : ∀ k i s, (∀ j, i ≤ j → j < i + k → ∀ q v, v < N → P j q v = false) → fdI P N gp k i s = s := by
  intro k
  induction k with
  | zero => intro i s _; rfl
  | succ k ih =>
    intro i s h
    unfold fdI
    rw [fdP_id _ 1 s (fun q _ _ v hv => h i (Nat.le_refl _) (by omega) q v hv)]
    exact ih (i + 1) s (fun j h1 h2 => h j (by omega) (by omega))
theorem fdW_congr {P Q : Nat → Bool} {i pt : Nat} : ∀ k w s, (∀ v, w ≤ v → v < w + k → P v = Q v) → fdW P i pt k w s = fdW Q i pt k w s := by
  intro k
  induction k with
  | zero => intro w s _; rfl
  | succ k ih =>
    intro w s h
    unfold fdW
    rw [h w (Nat.le_refl _) (by omega)]
    exact ih (w + 1) _ (fun v h1 h2 => h v (by omega) (by omega))
theorem fdP_congr {P Q : Nat → Nat → Bool} {N i : Nat} : ∀ k pt s, (∀ q, pt ≤ q → q < pt + k → ∀ v, v < N → P q v = Q q v) → fdP P N i k pt s = fdP Q N i k pt s := by
  intro k
  induction k with
  | zero => intro pt s _; rfl
  | succ k ih =>
    intro pt s h
    unfold fdP
    rw [fdW_congr N 0 s (fun v _ h2 => h pt (Nat.le_refl _) (by omega) v (by omega))]
    exact ih (pt + 1) _ (fun q h1 h2 => h q (by omega) (by omega))
theorem nt_in {p : Bool} {i pt w : Nat} {s : St4} (h : 0 ≤ s.1) : 0 ≤ (nt p i pt w s).1 ∧ (nt p i pt w s).1 ≤ s.1 + 1 := by
  unfold nt
  split
  · exact ⟨by show 0 ≤ s.1 + 1; omega, Int.le_refl _⟩
  · omega
theorem fdW_in {P : Nat → Bool} {i pt : Nat} : ∀ k w s, 0 ≤ s.1 → 0 ≤ (fdW P i pt k w s).1 ∧ (fdW P i pt k w s).1 ≤ s.1 + k := by
  intro k
  induction k with
  | zero => intro w s h; exact ⟨h, by show s.1 ≤ s.1 + ((0 : Nat) : Int); omega⟩
  | succ k ih =>
    intro w s h
    have h1 := nt_in (p := P w) (i := i) (pt := pt) (w := w) h
    have h2 := ih (w + 1) (nt (P w) i pt w s) h1.1
    unfold fdW
    omega
theorem fdP_in {P : Nat → Nat → Bool} {N i : Nat} : ∀ k pt s, 0 ≤ s.1 → 0 ≤ (fdP P N i k pt s).1 ∧ (fdP P N i k pt s).1 ≤ s.1 + k * N := by
  intro k
  induction k with
  | zero => intro pt s h; exact ⟨h, by show s.1 ≤ s.1 + ((0 : Nat) : Int) * N; omega⟩
  | succ k ih =>
    intro pt s h
    have h1 := fdW_in (P := P pt) (i := i) (pt := pt) N 0 s h
    have h2 := ih (pt + 1) (fdW (P pt) i pt N 0 s) h1.1
    unfold fdP
    have h3 : ((k + 1 : Nat) : Int) * N = k * N + N := by push_cast; rw [Int.add_mul, Int.one_mul]
    omega
/-! the pattern of what may be told: its head and its rest -/
abbrev Okf : Type := Nat → Int → Nat → Nat → Int → Bool
def gq (gp : Nat → Int) (j : Nat) (b : Int) (k : Nat) : Int := if k < j then gp k else if k = j then b else if k = j + 1 then gp j - b else gp (k - 1)
def wq (mo j w k : Nat) : Nat := if k = j then w else mo
def msF (ok : Okf) (gp : Nat → Int) (mo j : Nat) (b : Int) (w : Nat) : Nat → Nat → Nat → Int → Bool
  | 0, _, _, _ => true
  | r + 1, k, l, p => ok k (gq gp j b k) (wq mo j w k) l p && msF ok gp mo j b w r (k + 1) (wq mo j w k) (gq gp j b k)
theorem msF_s (ok : Okf) (gp : Nat → Int) (mo j : Nat) (b : Int) (w r k l : Nat) (p : Int) : msF ok gp mo j b w (r + 1) k l p = (ok k (gq gp j b k) (wq mo j w k) l p && msF ok gp mo j b w r (k + 1) (wq mo j w k) (gq gp j b k)) := Eq.trans rfl rfl
def lsK (L0 mo k : Nat) : Nat := if k = 0 then L0 else mo
def bfK (lg : Int) (gp : Nat → Int) (k : Nat) : Int := if k = 0 then lg else gp (k - 1)
def preF (ok : Okf) (gp : Nat → Int) (mo L0 : Nat) (lg : Int) : Nat → Bool
  | 0 => true
  | k + 1 => preF ok gp mo L0 lg k && ok k (gp k) mo (lsK L0 mo k) (bfK lg gp k)
def rsF (ok : Okf) (gp : Nat → Int) (mo : Nat) : Nat → Nat → Bool
  | 0, _ => true
  | r + 1, m => ok (m + 1) (gp m) mo mo (gp (m - 1)) && rsF ok gp mo r (m + 1)
theorem ms_rest (ok : Okf) (gp : Nat → Int) (mo j : Nat) (b : Int) (w : Nat) : ∀ r m, j + 2 ≤ m → msF ok gp mo j b w r (m + 1) mo (gp (m - 1)) = rsF ok gp mo r m := by
  intro r
  induction r with
  | zero => intro m _; rfl
  | succ r ih =>
    intro m hm
    rw [msF_s]
    unfold rsF
    have e1 : gq gp j b (m + 1) = gp m := by unfold gq; rw [if_neg (by omega), if_neg (by omega), if_neg (by omega)]; rfl
    have e2 : wq mo j w (m + 1) = mo := by unfold wq; rw [if_neg (by omega)]
    rw [e1, e2, ← ih (m + 1) (by omega)]
    rfl
theorem ms_pre (ok : Okf) (gp : Nat → Int) (mo j L0 : Nat) (lg b : Int) (w : Nat) : ∀ k, k ≤ j → ∀ r, msF ok gp mo j b w (k + r) 0 L0 lg = (preF ok gp mo L0 lg k && msF ok gp mo j b w r k (lsK L0 mo k) (bfK lg gp k)) := by
  intro k
  induction k with
  | zero => intro _ r; rw [Nat.zero_add]; rfl
  | succ k ih =>
    intro hk r
    rw [show k + 1 + r = k + (r + 1) by omega, ih (by omega) (r + 1), msF_s]
    have e1 : gq gp j b k = gp k := by unfold gq; rw [if_pos (by omega)]
    have e2 : wq mo j w k = mo := by unfold wq; rw [if_neg (by omega)]
    rw [e1, e2]
    show _ = (preF ok gp mo L0 lg k && ok k (gp k) mo (lsK L0 mo k) (bfK lg gp k) && _)
    rw [Bool.and_assoc]
    rfl
theorem ms_all (ok : Okf) (gp : Nat → Int) (mo L0 n j : Nat) (lg b : Int) (w : Nat) (hj : j < n) : msF ok gp mo j b w (n + 1) 0 L0 lg = (preF ok gp mo L0 lg j && (ok j b w (lsK L0 mo j) (bfK lg gp j) && (ok (j + 1) (gp j - b) mo w b && ((decide (n ≤ j + 1) || ok (j + 2) (gp (j + 1)) mo mo (gp j - b)) && rsF ok gp mo (n - (j + 2)) (j + 2))))) := by
  rw [show n + 1 = j + (n + 1 - j) by omega, ms_pre ok gp mo j L0 lg b w j (Nat.le_refl _)]
  congr 1
  rw [show n + 1 - j = (n - (j + 1)) + 1 + 1 by omega, msF_s, msF_s]
  have e1 : gq gp j b j = b := by unfold gq; rw [if_neg (by omega), if_pos rfl]
  have e2 : wq mo j w j = w := by unfold wq; rw [if_pos rfl]
  have e3 : gq gp j b (j + 1) = gp j - b := by unfold gq; rw [if_neg (by omega), if_neg (by omega), if_pos rfl]
  have e4 : wq mo j w (j + 1) = mo := by unfold wq; rw [if_neg (by omega)]
  rw [e1, e2, e3, e4]
  congr 2
  by_cases h : n ≤ j + 1
  · rw [show n - (j + 1) = 0 by omega, show n - (j + 2) = 0 by omega, decide_eq_true h]
    rfl
  · rw [show n - (j + 1) = (n - (j + 2)) + 1 by omega, msF_s, decide_eq_false h, Bool.false_or]
    have e5 : gq gp j b (j + 1 + 1) = gp (j + 1) := by unfold gq; rw [if_neg (by omega), if_neg (by omega), if_neg (by omega)]; rfl
    have e6 : wq mo j w (j + 1 + 1) = mo := by unfold wq; rw [if_neg (by omega)]
    rw [e5, e6]
    congr 1
    exact ms_rest ok gp mo j b w (n - (j + 2)) (j + 2) (Nat.le_refl _)
theorem pre_f {ok : Okf} {gp : Nat → Int} {mo L0 : Nat} {lg : Int} {k : Nat} (h : preF ok gp mo L0 lg k = false) : ∀ j, k ≤ j → preF ok gp mo L0 lg j = false := by
  intro j
  induction j with
  | zero => intro hk; rw [← show k = 0 by omega]; exact h
  | succ j ih =>
    intro hk
    by_cases e : k = j + 1
    · rw [← e]; exact h
    · unfold preF
      rw [ih (by omega)]
      rfl

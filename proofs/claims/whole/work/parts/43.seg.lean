/-! what a piece of code says: sums, conditions -/
abbrev Sem : Type := (Nat → Int) → Option Int
def sNum (v : Int) : Sem := fun _ => some v
def sLet (i : Nat) : Sem := fun e => some (e i)
def ar (op x y : Int) : Int := if op = 37 then wr (x.tmod y) else if op = 42 then wr (x * y) else if op = 43 then wr (x + y) else if op = 45 then wr (x - y) else if op = 47 then wr (x.tdiv y) else if op = 60 then (if y ≤ x then 0 else 1) else if op = 62 then (if x ≤ y then 0 else 1) else if ¬ x = y then 0 else 1
def sBin (op : Int) (f g : Sem) : Sem := fun e => (f e).bind fun x => (g e).bind fun y => if (op = 47 ∨ op = 37) ∧ y = 0 then none else some (ar op x y)
def sNot (f : Sem) : Sem := fun e => (f e).bind fun x => some (wr (1 - x))
def sAnd (f g : Sem) : Sem := fun e => (f e).bind fun x => if x = 1 then g e else some x
def sOr (f g : Sem) : Sem := fun e => (f e).bind fun x => if x = 0 then g e else some x
def bl (f : Sem) : Prop := ∀ e v, f e = some v → v = 0 ∨ v = 1
def ff (f : Sem) : Prop := ∀ e v, f (upr e 9 v) = f e
def evA (m : Mm) : Nat → Int := fun i => if i < 10 then m 18 i else 0
def sE (k i : Nat) : Bool := k == 19 || (k == 17 && i == 5)
theorem evA_fr {m m' : Mm} (h : Fr sE m m') : evA m' = evA m := by
  funext i
  unfold evA
  rw [h 18 i rfl]
def SegA (d w : Nat → Int) (p q k : Nat) (f : Sem) : Prop :=
  p ≤ q ∧ ∀ (m : Mm) (c to t n : Nat), isCd c → m 17 3 = (c : Int) → (∀ i, p ≤ i → i < q → m (c + 1) i = d i ∧ m (c + 2) i = w i) → m 17 5 = 0 → q ≤ to → to ≤ 200 → t + k ≤ 24 → to - p < n →
    (f (evA m) = none → ∃ m', L_X7_run_10 n (to : Int) (t : Int) (p : Int) m = some (0, m') ∧ Fr sE m m') ∧
    (∀ v, f (evA m) = some v → ∃ m' n', L_X7_run_10 n (to : Int) (t : Int) (p : Int) m = L_X7_run_10 n' (to : Int) ((t + 1 : Nat) : Int) (q : Int) m' ∧ Fr sE m m' ∧ m' 17 5 = 0 ∧ (∀ i, i < t → m' 19 i = m 19 i) ∧ m' 19 t = v ∧ to - q < n')
theorem SegA.mono {d w : Nat → Int} {p q k k' : Nat} {f : Sem} (h : SegA d w p q k f) (hk : k ≤ k') : SegA d w p q k' f :=
  ⟨h.1, fun m c to t n h1 h2 h3 h4 h5 h6 h7 h8 => h.2 m c to t n h1 h2 h3 h4 h5 h6 (by omega) h8⟩
theorem SegA.ext {d w d' w' : Nat → Int} {p q k : Nat} {f : Sem} (h : SegA d w p q k f) (he : ∀ i, p ≤ i → i < q → d' i = d i ∧ w' i = w i) : SegA d' w' p q k f :=
  ⟨h.1, fun m c to t n h1 h2 h3 h4 h5 h6 h7 h8 => h.2 m c to t n h1 h2 (fun i a b => ⟨(h3 i a b).1.trans (he i a b).1, (h3 i a b).2.trans (he i a b).2⟩) h4 h5 h6 h7 h8⟩
theorem run_end {m : Mm} {to p n : Nat} {t : Nat} (hp : to ≤ p) : L_X7_run_10 (n + 1) (to : Int) ((t + 1 : Nat) : Int) (p : Int) m = some (m 19 0, m) := by
  show LB_X7_run_10 (L_X7_run_10 n) _ _ _ _ = _
  unfold LB_X7_run_10 J_X7_run_245
  rw [if_pos (by omega), if_neg (by omega), ald_s (by omega)]
  rfl
theorem run_num {m : Mm} {c to p n t : Nat} (hc : isCd c) (h3 : m 17 3 = (c : Int)) (h5 : m 17 5 = 0) (hp : p < to) (ht : to ≤ 200) (hd : m (c + 1) p = 0) (h24 : t < 24) : L_X7_run_10 (n + 1) (to : Int) (t : Int) (p : Int) m = L_X7_run_10 n (to : Int) ((t + 1 : Nat) : Int) ((p + 1 : Nat) : Int) (upd2 m 19 t (m (c + 2) p)) := by
  show LB_X7_run_10 (L_X7_run_10 n) _ _ _ _ = _
  unfold LB_X7_run_10 J_X7_run_59 J_X7_run_89 J_X7_run_230
  rw [h3, if_neg (by omega), if_neg (by omega), Int.toNat_natCast, grd_s hc, ald_s (by omega), nmv_s, grd_s hc, ald_s (by omega), nmv_s, Int.toNat_natCast, hd, if_pos rfl, if_pos (by omega), if_neg (by decide), ast_s (by omega), nmv_s, u2r (by decide), h5, if_pos rfl, nmv_s, wr_s (by omega), wr_s (by omega), Int.toNat_natCast]
  rfl
theorem run_let {m : Mm} {c to p n t i : Nat} (hc : isCd c) (h3 : m 17 3 = (c : Int)) (h5 : m 17 5 = 0) (hp : p < to) (ht : to ≤ 200) (hd : m (c + 1) p = 1) (hw : m (c + 2) p = (i : Int)) (hi : i < 10) (h24 : t < 24) : L_X7_run_10 (n + 1) (to : Int) (t : Int) (p : Int) m = L_X7_run_10 n (to : Int) ((t + 1 : Nat) : Int) ((p + 1 : Nat) : Int) (upd2 m 19 t (m 18 i)) := by
  show LB_X7_run_10 (L_X7_run_10 n) _ _ _ _ = _
  unfold LB_X7_run_10 J_X7_run_59 J_X7_run_89 J_X7_run_230 F_X7_letterAt
  rw [h3, if_neg (by omega), if_neg (by omega), Int.toNat_natCast, grd_s hc, ald_s (by omega), nmv_s, grd_s hc, ald_s (by omega), nmv_s, Int.toNat_natCast, hd, hw, if_neg (by decide), if_neg (by decide), if_pos (by omega), if_pos (by decide), if_neg (by omega), if_neg (by omega), ald_s (by omega), cll_s, ast_s (by omega), nmv_s, u2r (by decide), h5, if_pos rfl, nmv_s, wr_s (by omega), wr_s (by omega), Int.toNat_natCast, Int.toNat_natCast]
  rfl
theorem run_not {m : Mm} {c to p n t : Nat} (hc : isCd c) (h3 : m 17 3 = (c : Int)) (h5 : m 17 5 = 0) (hp : p < to) (ht : to ≤ 200) (hd : m (c + 1) p = 2) (h24 : t < 24) : L_X7_run_10 (n + 1) (to : Int) ((t + 1 : Nat) : Int) (p : Int) m = L_X7_run_10 n (to : Int) ((t + 1 : Nat) : Int) ((p + 1 : Nat) : Int) (upd2 m 19 t (wr (1 - m 19 t))) := by
  have e1 : wr (((t + 1 : Nat) : Int) - 1) = (t : Int) := by rw [wr_s (by omega)]; omega
  show LB_X7_run_10 (L_X7_run_10 n) _ _ _ _ = _
  unfold LB_X7_run_10 J_X7_run_230
  rw [h3, if_neg (by omega), if_neg (by omega), Int.toNat_natCast, grd_s hc, ald_s (by omega), nmv_s, grd_s hc, ald_s (by omega), nmv_s, Int.toNat_natCast, hd, if_neg (by decide), if_pos (by decide), if_pos (by omega), if_neg (by decide), e1, ald_s (by omega), ast_s (by omega), u2r (by decide), h5, if_pos rfl, nmv_s, wr_s (x := (p : Int) + 1) (by omega), Int.toNat_natCast]
  rfl
theorem run_and {m : Mm} {c to p n t r : Nat} (hc : isCd c) (h3 : m 17 3 = (c : Int)) (h5 : m 17 5 = 0) (hp : p < to) (ht : to ≤ 200) (hd : m (c + 1) p = 3) (hw : m (c + 2) p = (r : Int)) (hr : p < r) (hr2 : r ≤ 200) (h24 : t < 24) : L_X7_run_10 (n + 1) (to : Int) ((t + 1 : Nat) : Int) (p : Int) m = if m 19 t = 1 then L_X7_run_10 n (to : Int) (t : Int) ((p + 1 : Nat) : Int) m else L_X7_run_10 n (to : Int) ((t + 1 : Nat) : Int) (r : Int) m := by
  have e1 : wr (((t + 1 : Nat) : Int) - 1) = (t : Int) := by rw [wr_s (by omega)]; omega
  have e2 : wr (((t + 1 : Nat) : Int) + -1) = (t : Int) := by rw [wr_s (by omega)]; omega
  have e3 : wr ((max (p : Int) (wr ((r : Int) - 1))) + 1) = (r : Int) := by rw [wr_s (x := (r : Int) - 1) (by omega), Int.max_eq_right (by omega), wr_s (by omega)]; omega
  show LB_X7_run_10 (L_X7_run_10 n) _ _ _ _ = _
  unfold LB_X7_run_10 J_X7_run_141
  rw [h3, if_neg (by omega), if_neg (by omega), Int.toNat_natCast, grd_s hc, ald_s (by omega), nmv_s, grd_s hc, ald_s (by omega), nmv_s, Int.toNat_natCast, hd, hw, if_neg (by decide), if_pos (by decide), if_pos (by omega), if_pos (by decide), if_pos rfl, e1, ald_s (by omega), Int.toNat_natCast]
  by_cases h : m 19 t = 1
  · rw [if_neg (fun z => z h), if_pos (by decide), if_pos (by decide), if_pos h]
    unfold J_X7_run_186 J_X7_run_230
    rw [nmv_s, h5, if_pos rfl, nmv_s, e2, wr_s (by omega)]
    rfl
  · rw [if_pos h, if_pos (by decide), if_neg (by decide), if_neg h]
    unfold J_X7_run_172 J_X7_run_230
    rw [max_s, cll_s, nmv_s, h5, if_pos rfl, nmv_s, e3]
theorem run_or {m : Mm} {c to p n t r : Nat} (hc : isCd c) (h3 : m 17 3 = (c : Int)) (h5 : m 17 5 = 0) (hp : p < to) (ht : to ≤ 200) (hd : m (c + 1) p = 4) (hw : m (c + 2) p = (r : Int)) (hr : p < r) (hr2 : r ≤ 200) (h24 : t < 24) : L_X7_run_10 (n + 1) (to : Int) ((t + 1 : Nat) : Int) (p : Int) m = if m 19 t = 1 then L_X7_run_10 n (to : Int) ((t + 1 : Nat) : Int) (r : Int) m else L_X7_run_10 n (to : Int) (t : Int) ((p + 1 : Nat) : Int) m := by
  have e1 : wr (((t + 1 : Nat) : Int) - 1) = (t : Int) := by rw [wr_s (by omega)]; omega
  have e2 : wr (((t + 1 : Nat) : Int) + -1) = (t : Int) := by rw [wr_s (by omega)]; omega
  have e3 : wr ((max (p : Int) (wr ((r : Int) - 1))) + 1) = (r : Int) := by rw [wr_s (x := (r : Int) - 1) (by omega), Int.max_eq_right (by omega), wr_s (by omega)]; omega
  show LB_X7_run_10 (L_X7_run_10 n) _ _ _ _ = _
  unfold LB_X7_run_10 J_X7_run_141
  rw [h3, if_neg (by omega), if_neg (by omega), Int.toNat_natCast, grd_s hc, ald_s (by omega), nmv_s, grd_s hc, ald_s (by omega), nmv_s, Int.toNat_natCast, hd, hw, if_neg (by decide), if_pos (by decide), if_pos (by omega), if_pos (by decide), if_neg (by decide), if_neg (by decide), e1, ald_s (by omega), Int.toNat_natCast]
  by_cases h : m 19 t = 1
  · rw [if_neg (fun z => z h), if_neg (by decide), if_neg (by decide), if_pos h]
    unfold J_X7_run_172 J_X7_run_230
    rw [max_s, cll_s, nmv_s, h5, if_pos rfl, nmv_s, e3]
  · rw [if_pos h, if_neg (by decide), if_pos (by decide), if_neg h]
    unfold J_X7_run_186 J_X7_run_230
    rw [nmv_s, h5, if_pos rfl, nmv_s, e2, wr_s (by omega)]
    rfl
def isOp (op : Int) : Prop := op = 37 ∨ op = 42 ∨ op = 43 ∨ op = 45 ∨ op = 47 ∨ op = 60 ∨ op = 61 ∨ op = 62
theorem reckon_s {op : Int} (x y : Int) (m : Mm) : F_X7_reckon op x y m = if (op = 47 ∨ op = 37) ∧ y = 0 then some (0, upd2 m 17 5 1) else some (ar op x y, m) := by
  have h23 : ¬ ((op = 47 ∨ op = 37) ∧ y = 0) → J_X7_reckon_23 op x y m = some (ar op x y, m) := by
    intro hn
    unfold J_X7_reckon_23 ar
    by_cases h1 : op = 37
    · rw [if_pos h1, if_pos h1, dvn_s (fun z => hn ⟨Or.inr h1, z⟩)]
    · rw [if_neg h1, if_neg h1]
      by_cases h2 : op = 42
      · rw [if_pos h2, if_pos h2]
      · rw [if_neg h2, if_neg h2]
        by_cases h3 : op = 43
        · rw [if_pos h3, if_pos h3]
        · rw [if_neg h3, if_neg h3]
          by_cases h4 : op = 45
          · rw [if_pos h4, if_pos h4]
          · rw [if_neg h4, if_neg h4]
            by_cases h5 : op = 47
            · rw [if_pos h5, if_pos h5, dvn_s (fun z => hn ⟨Or.inl h5, z⟩)]
            · rw [if_neg h5, if_neg h5]
              split
              · split <;> rfl
              · split <;> split <;> rfl
  unfold F_X7_reckon J_X7_reckon_12
  by_cases h : (op = 47 ∨ op = 37) ∧ y = 0
  · rw [if_pos h]
    by_cases h1 : op = 47
    · rw [if_pos h1, if_neg (fun z => z h.2), stf_s]
    · rw [if_neg h1, if_neg (fun z => by have := h.1; omega), if_neg (fun z => z h.2), stf_s]
  · rw [if_neg h]
    by_cases h1 : op = 47
    · rw [if_pos h1, if_pos (fun z => h ⟨Or.inl h1, z⟩), h23 h]
    · rw [if_neg h1]
      by_cases h2 : op = 37
      · rw [if_neg (fun z => z h2), if_pos (fun z => h ⟨Or.inr h2, z⟩), h23 h]
      · rw [if_pos h2, h23 h]
theorem run_bin {m : Mm} {c to p n t : Nat} {op : Int} (hc : isCd c) (h3 : m 17 3 = (c : Int)) (h5 : m 17 5 = 0) (hp : p < to) (ht : to ≤ 200) (hd : m (c + 1) p = op) (ho : isOp op) (h24 : t + 1 < 24) : L_X7_run_10 (n + 1) (to : Int) ((t + 1 + 1 : Nat) : Int) (p : Int) m = if (op = 47 ∨ op = 37) ∧ m 19 (t + 1) = 0 then some (0, upd2 (upd2 m 17 5 1) 19 t 0) else L_X7_run_10 n (to : Int) ((t + 1 : Nat) : Int) ((p + 1 : Nat) : Int) (upd2 m 19 t (ar op (m 19 t) (m 19 (t + 1)))) := by
  have e2 : wr (((t + 1 + 1 : Nat) : Int) + -1) = ((t + 1 : Nat) : Int) := by rw [wr_s (by omega)]; omega
  have e1 : wr (((t + 1 : Nat) : Int) - 1) = (t : Int) := by rw [wr_s (by omega)]; omega
  show LB_X7_run_10 (L_X7_run_10 n) _ _ _ _ = _
  unfold LB_X7_run_10
  unfold isOp at ho
  rw [h3, if_neg (by omega), if_neg (by omega), Int.toNat_natCast, grd_s hc, ald_s (by omega), nmv_s, grd_s hc, ald_s (by omega), nmv_s, Int.toNat_natCast, hd, if_neg (by omega), if_pos (by omega), if_pos (by omega), if_pos (by omega), if_neg (by omega), if_pos (by omega), if_pos (by omega), nmv_s, e2, e1, ald_s (by omega), ald_s (by omega), Int.toNat_natCast, Int.toNat_natCast, reckon_s]
  by_cases h : (op = 47 ∨ op = 37) ∧ m 19 (t + 1) = 0
  · rw [if_pos h, if_pos h, cll_s, ast_s (by omega), Int.toNat_natCast]
    unfold J_X7_run_230
    rw [u2r (by decide), u2s, if_neg (by decide)]
  · rw [if_neg h, if_neg h, cll_s, ast_s (by omega), Int.toNat_natCast]
    unfold J_X7_run_230
    rw [u2r (by decide), h5, if_pos rfl, nmv_s, wr_s (by omega)]
    rfl

/-! pieces of code, the reference's -/
def evB (m : Mm) (i : Nat) : Int := if i = 0 then m 54 37 else if i = 1 then m 54 38 else if i = 2 then m 54 39 else if i = 3 then m 54 40 else if i = 4 then (if ¬ m 54 38 = m 54 39 then 0 else 1) else if i = 5 then m 54 41 else if i = 6 then m 54 42 else if i = 7 then m 54 43 else if i = 8 then m 54 44 else if i = 9 then m 54 45 else 0
def ltr (i : Nat) : Int := if i = 0 then 103 else if i = 1 then 119 else if i = 2 then 108 else if i = 3 then 112 else if i = 4 then 115 else if i = 5 then 100 else if i = 6 then 101 else if i = 7 then 107 else if i = 8 then 97 else 102
theorem valueOf_s {i : Nat} (hi : i < 10) (m : Mm) : F_X12_valueOf (ltr i) m = some (evB m i, m) := by
  have h : i = 0 ∨ i = 1 ∨ i = 2 ∨ i = 3 ∨ i = 4 ∨ i = 5 ∨ i = 6 ∨ i = 7 ∨ i = 8 ∨ i = 9 := by omega
  rcases h with e | e | e | e | e | e | e | e | e | e <;> subst e <;> unfold F_X12_valueOf ltr evB <;> simp
  split <;> rfl
def sF (k _ : Nat) : Bool := k == 76 || k == 77
theorem evB_fr {m m' : Mm} (h : Fr sF m m') : evB m' = evB m := by
  funext i
  unfold evB
  rw [h.row 54 (fun _ => rfl)]
def SegB (c g : Nat → Int) (p q : Nat) (f : Sem) : Prop :=
  p < q ∧ ∀ (m : Mm) (to t n : Nat), (∀ i, p ≤ i → i < q → m 67 i = c i ∧ m 68 i = g i) → q ≤ to → to ≤ 200 → t + (q - p) ≤ 240 → to - p < n →
    ∃ m' n', L_X12_works_5 n (to : Int) (t : Int) (p : Int) m = L_X12_works_5 n' (to : Int) ((t + 1 : Nat) : Int) (q : Int) m' ∧ Fr sF m m' ∧ (∀ i, i < t → m' 76 i = m 76 i ∧ m' 77 i = m 77 i) ∧ (f (evB m) = none → m' 77 t ≠ 0) ∧ (∀ v, f (evB m) = some v → m' 77 t = 0 ∧ m' 76 t = v) ∧ to - q < n'
theorem SegB.ext {d w d' w' : Nat → Int} {p q : Nat} {f : Sem} (h : SegB d w p q f) (he : ∀ i, p ≤ i → i < q → d' i = d i ∧ w' i = w i) : SegB d' w' p q f :=
  ⟨h.1, fun m to t n h3 h5 h6 h7 h8 => h.2 m to t n (fun i a b => ⟨(h3 i a b).1.trans (he i a b).1, (h3 i a b).2.trans (he i a b).2⟩) h5 h6 h7 h8⟩
theorem works_end {m : Mm} {to p n : Nat} {t : Int} (hp : to ≤ p) : L_X12_works_5 (n + 1) (to : Int) t (p : Int) m = some (0, m) := by
  show LB_X12_works_5 (L_X12_works_5 n) _ _ _ _ = _
  unfold LB_X12_works_5
  rw [if_pos (by omega)]
theorem works_num {m : Mm} {to p n t : Nat} (hp : p < to) (ht : to ≤ 200) (hd : m 67 p = 0) (h24 : t < 240) : L_X12_works_5 (n + 1) (to : Int) (t : Int) (p : Int) m = L_X12_works_5 n (to : Int) ((t + 1 : Nat) : Int) ((p + 1 : Nat) : Int) (upd2 (upd2 m 77 t 0) 76 t (m 68 p)) := by
  show LB_X12_works_5 (L_X12_works_5 n) _ _ _ _ = _
  unfold LB_X12_works_5 J_X12_works_118 J_X12_works_121
  rw [if_neg (by omega), ald_s (by omega), Int.toNat_natCast, hd, if_pos (by decide), ald_s (by omega), Int.toNat_natCast, hd, if_pos (by decide), ast_s (by omega), ald_s (by omega), Int.toNat_natCast, Int.toNat_natCast, u2r (by decide), hd, if_neg (by decide), ald_s (by omega), ast_s (by omega), nmv_s, nmv_s, wr_s (by omega), wr_s (by omega), Int.toNat_natCast, Int.toNat_natCast, u2r (by decide)]
  rfl
theorem works_let {m : Mm} {to p n t i : Nat} (hp : p < to) (ht : to ≤ 200) (hd : m 67 p = 1) (hw : m 68 p = ltr i) (hi : i < 10) (h24 : t < 240) : L_X12_works_5 (n + 1) (to : Int) (t : Int) (p : Int) m = L_X12_works_5 n (to : Int) ((t + 1 : Nat) : Int) ((p + 1 : Nat) : Int) (upd2 (upd2 m 77 t 0) 76 t (evB m i)) := by
  have he : evB (upd2 m 77 t 0) i = evB m i := by rw [evB_fr (Fr.upd (Fr.refl _ _) _ rfl)]
  show LB_X12_works_5 (L_X12_works_5 n) _ _ _ _ = _
  unfold LB_X12_works_5 J_X12_works_118 J_X12_works_121
  rw [if_neg (by omega), ald_s (by omega), Int.toNat_natCast, hd, if_pos (by decide), ald_s (by omega), Int.toNat_natCast, hd, if_pos (by decide), ast_s (by omega), ald_s (by omega), Int.toNat_natCast, Int.toNat_natCast, u2r (by decide), hd, if_pos (by decide), ald_s (by omega), Int.toNat_natCast, u2r (by decide), hw, valueOf_s hi, cll_s, ast_s (by omega), nmv_s, nmv_s, wr_s (by omega), wr_s (by omega), Int.toNat_natCast, he]
  rfl
theorem works_not {m : Mm} {to p n t : Nat} (hp : p < to) (ht : to ≤ 200) (hd : m 67 p = 2) (h24 : t < 240) : L_X12_works_5 (n + 1) (to : Int) ((t + 1 : Nat) : Int) (p : Int) m = L_X12_works_5 n (to : Int) ((t + 1 : Nat) : Int) ((p + 1 : Nat) : Int) (upd2 m 76 t (wr (1 - m 76 t))) := by
  have e1 : wr (((t + 1 : Nat) : Int) - 1) = (t : Int) := by rw [wr_s (by omega)]; omega
  show LB_X12_works_5 (L_X12_works_5 n) _ _ _ _ = _
  unfold LB_X12_works_5 J_X12_works_121
  rw [if_neg (by omega), ald_s (by omega), Int.toNat_natCast, hd, if_pos (by decide), ald_s (by omega), Int.toNat_natCast, hd, if_neg (by decide), e1, ald_s (by omega), ast_s (by omega), nmv_s, wr_s (x := (p : Int) + 1) (by omega), Int.toNat_natCast]
  rfl
theorem works_op {m : Mm} {to p n t : Nat} {op : Int} (hp : p < to) (ht : to ≤ 200) (hd : m 67 p = op) (ho : 2 < op) (h24 : t + 2 ≤ 240) : L_X12_works_5 (n + 1) (to : Int) ((t + 1 + 1 : Nat) : Int) (p : Int) m = cll (F_X12_does op (t : Int) m) (fun _ m' => L_X12_works_5 n (to : Int) ((t + 1 : Nat) : Int) ((p + 1 : Nat) : Int) m') := by
  have e2 : wr (((t + 1 + 1 : Nat) : Int) + -1) = ((t + 1 : Nat) : Int) := by rw [wr_s (by omega)]; omega
  have e1 : wr (((t + 1 : Nat) : Int) - 1) = (t : Int) := by rw [wr_s (by omega)]; omega
  show LB_X12_works_5 (L_X12_works_5 n) _ _ _ _ = _
  unfold LB_X12_works_5 J_X12_works_121
  rw [if_neg (by omega), ald_s (by omega), Int.toNat_natCast, hd, if_neg (by omega), nmv_s, ald_s (by omega), Int.toNat_natCast, hd, e2, e1, wr_s (x := (p : Int) + 1) (by omega)]
  rfl
theorem worked_s {op : Int} (x y : Int) (m : Mm) : ∃ W, F_X12_worked op x y m = some (W, m) ∧ (¬ ((op = 47 ∨ op = 37) ∧ y = 0) → W = ar op x y) := by
  unfold F_X12_worked ar
  by_cases h1 : op = 37
  · rw [if_pos h1, if_pos h1]
    by_cases hy : y = 0
    · rw [if_neg (fun z => z hy)]; exact ⟨0, rfl, fun z => absurd ⟨Or.inr h1, hy⟩ z⟩
    · rw [if_pos hy, dvn_s hy]; exact ⟨_, rfl, fun _ => rfl⟩
  · rw [if_neg h1, if_neg h1]
    by_cases h2 : op = 42
    · rw [if_pos h2, if_pos h2]; exact ⟨_, rfl, fun _ => rfl⟩
    · rw [if_neg h2, if_neg h2]
      by_cases h3 : op = 43
      · rw [if_pos h3, if_pos h3]; exact ⟨_, rfl, fun _ => rfl⟩
      · rw [if_neg h3, if_neg h3]
        by_cases h4 : op = 45
        · rw [if_pos h4, if_pos h4]; exact ⟨_, rfl, fun _ => rfl⟩
        · rw [if_neg h4, if_neg h4]
          by_cases h5 : op = 47
          · rw [if_pos h5, if_pos h5]
            by_cases hy : y = 0
            · rw [if_neg (fun z => z hy)]; exact ⟨0, rfl, fun z => absurd ⟨Or.inl h5, hy⟩ z⟩
            · rw [if_pos hy, dvn_s hy]; exact ⟨_, rfl, fun _ => rfl⟩
          · rw [if_neg h5, if_neg h5]
            split
            · split <;> exact ⟨_, rfl, fun _ => rfl⟩
            · split <;> split <;> exact ⟨_, rfl, fun _ => rfl⟩
theorem does_121 {op : Int} {t : Nat} (ht : t + 1 < 240) (m : Mm) : ∃ W, J_X12_does_121 op (t : Int) ((t + 1 : Nat) : Int) m = some (0, upd2 m 76 t W) ∧ (¬ ((op = 47 ∨ op = 37) ∧ m 76 (t + 1) = 0) → W = ar op (m 76 t) (m 76 (t + 1))) := by
  obtain ⟨W, h1, h2⟩ := worked_s (op := op) (m 76 t) (m 76 (t + 1)) m
  refine ⟨W, ?_, h2⟩
  unfold J_X12_does_121
  rw [ald_s (by omega), ald_s (by omega), Int.toNat_natCast, Int.toNat_natCast, h1, cll_s, ast_s (by omega), Int.toNat_natCast]
theorem does_bin {op : Int} {t : Nat} (ho : isOp op) (ht : t + 1 < 240) (m : Mm) : ∃ R W, F_X12_does op (t : Int) m = some (0, upd2 (upd2 m 77 t R) 76 t W) ∧ ((m 77 t ≠ 0 ∨ m 77 (t + 1) ≠ 0 ∨ ((op = 47 ∨ op = 37) ∧ m 76 (t + 1) = 0)) → R ≠ 0) ∧ (m 77 t = 0 → m 77 (t + 1) = 0 → ¬ ((op = 47 ∨ op = 37) ∧ m 76 (t + 1) = 0) → R = 0 ∧ W = ar op (m 76 t) (m 76 (t + 1))) := by
  have e1 : wr ((t : Int) + 1) = ((t + 1 : Nat) : Int) := by rw [wr_s (by omega)]; rfl
  have hcl : ∀ R : Int, ((m 77 t ≠ 0 ∨ m 77 (t + 1) ≠ 0 ∨ ((op = 47 ∨ op = 37) ∧ m 76 (t + 1) = 0)) → R ≠ 0) → (m 77 t = 0 → m 77 (t + 1) = 0 → ¬ ((op = 47 ∨ op = 37) ∧ m 76 (t + 1) = 0) → R = 0) → F_X12_does op (t : Int) m = J_X12_does_121 op (t : Int) ((t + 1 : Nat) : Int) (upd2 m 77 t R) → ∃ R W, F_X12_does op (t : Int) m = some (0, upd2 (upd2 m 77 t R) 76 t W) ∧ ((m 77 t ≠ 0 ∨ m 77 (t + 1) ≠ 0 ∨ ((op = 47 ∨ op = 37) ∧ m 76 (t + 1) = 0)) → R ≠ 0) ∧ (m 77 t = 0 → m 77 (t + 1) = 0 → ¬ ((op = 47 ∨ op = 37) ∧ m 76 (t + 1) = 0) → R = 0 ∧ W = ar op (m 76 t) (m 76 (t + 1))) := by
    intro R h1 h2 h3
    obtain ⟨W, w1, w2⟩ := does_121 (op := op) ht (upd2 m 77 t R)
    rw [u2r (by decide)] at w2
    exact ⟨R, W, by rw [h3, w1], h1, fun a b c => ⟨h2 a b c, w2 c⟩⟩
  unfold isOp at ho
  by_cases h1 : m 77 t = 0
  · by_cases h2 : m 77 (t + 1) = 0
    · by_cases h3 : (op = 47 ∨ op = 37) ∧ m 76 (t + 1) = 0
      · refine hcl 1 (fun _ => by decide) (fun _ _ z => absurd h3 z) ?_
        unfold F_X12_does
        rw [nmv_s, e1, if_neg (by omega), if_pos (by omega), ald_s (by omega), Int.toNat_natCast, if_neg (fun z => z h1), ald_s (by omega), Int.toNat_natCast, if_neg (fun z => z h2)]
        by_cases h4 : op = 47
        · rw [if_pos h4, ald_s (by omega), Int.toNat_natCast, if_neg (fun z => z h3.2), ast_s (by omega), Int.toNat_natCast]
        · rw [if_neg h4, if_neg (by have := h3.1; omega), ald_s (by omega), Int.toNat_natCast, if_neg (fun z => z h3.2), ast_s (by omega), Int.toNat_natCast]
      · refine hcl 0 (fun z => by rcases z with z | z | z; exact absurd h1 z; exact absurd h2 z; exact absurd z h3) (fun _ _ _ => rfl) ?_
        unfold F_X12_does
        rw [nmv_s, e1, if_neg (by omega), if_pos (by omega), ald_s (by omega), Int.toNat_natCast, if_neg (fun z => z h1), ald_s (by omega), Int.toNat_natCast, if_neg (fun z => z h2)]
        by_cases h4 : op = 47
        · rw [if_pos h4, ald_s (by omega), Int.toNat_natCast, if_pos (fun z => h3 ⟨Or.inl h4, z⟩), ast_s (by omega), Int.toNat_natCast]
        · rw [if_neg h4]
          by_cases h5 : op = 37
          · rw [if_neg (fun z => z h5), ald_s (by omega), Int.toNat_natCast, if_pos (fun z => h3 ⟨Or.inr h5, z⟩), ast_s (by omega), Int.toNat_natCast]
          · rw [if_pos h5, ast_s (by omega), Int.toNat_natCast]
    · refine hcl 1 (fun _ => by decide) (fun _ z => absurd z h2) ?_
      unfold F_X12_does
      rw [nmv_s, e1, if_neg (by omega), if_pos (by omega), ald_s (by omega), Int.toNat_natCast, if_neg (fun z => z h1), ald_s (by omega), Int.toNat_natCast, if_pos h2, ast_s (by omega), Int.toNat_natCast]
  · refine hcl 1 (fun _ => by decide) (fun z => absurd z h1) ?_
    unfold F_X12_does
    rw [nmv_s, e1, if_neg (by omega), if_pos (by omega), ald_s (by omega), Int.toNat_natCast, if_pos h1, ast_s (by omega), Int.toNat_natCast]
theorem does_and {t : Nat} (ht : t + 1 < 240) (m : Mm) : F_X12_does 38 (t : Int) m = if m 77 t = 0 ∧ m 76 t = 1 then some (0, upd2 (upd2 m 76 t (m 76 (t + 1))) 77 t (m 77 (t + 1))) else some (0, m) := by
  have e1 : wr ((t : Int) + 1) = ((t + 1 : Nat) : Int) := by rw [wr_s (by omega)]; rfl
  unfold F_X12_does J_X12_does_16 J_X12_does_46
  rw [nmv_s, e1, if_pos rfl, ald_s (by omega), Int.toNat_natCast]
  by_cases h1 : m 77 t = 0
  · rw [if_neg (fun z => z h1), ald_s (by omega), Int.toNat_natCast, if_neg (by decide)]
    by_cases h2 : m 76 t = 1
    · rw [if_pos h2, if_pos ⟨h1, h2⟩, ald_s (by omega), ast_s (by omega), ald_s (by omega), ast_s (by omega), Int.toNat_natCast, Int.toNat_natCast, u2r (by decide)]
    · rw [if_neg h2, if_neg (fun z => h2 z.2)]
  · rw [if_pos h1, if_neg (fun z => h1 z.1)]
theorem does_or {t : Nat} (ht : t + 1 < 240) (m : Mm) : F_X12_does 124 (t : Int) m = if m 77 t = 0 ∧ m 76 t = 0 then some (0, upd2 (upd2 m 76 t (m 76 (t + 1))) 77 t (m 77 (t + 1))) else some (0, m) := by
  have e1 : wr ((t : Int) + 1) = ((t + 1 : Nat) : Int) := by rw [wr_s (by omega)]; rfl
  unfold F_X12_does J_X12_does_16 J_X12_does_46
  rw [nmv_s, e1, if_neg (by decide), if_neg (by decide), ald_s (by omega), Int.toNat_natCast]
  by_cases h1 : m 77 t = 0
  · rw [if_neg (fun z => z h1), ald_s (by omega), Int.toNat_natCast, if_pos (by decide)]
    by_cases h2 : m 76 t = 0
    · rw [if_pos h2, if_pos ⟨h1, h2⟩, ald_s (by omega), ast_s (by omega), ald_s (by omega), ast_s (by omega), Int.toNat_natCast, Int.toNat_natCast, u2r (by decide)]
    · rw [if_neg h2, if_neg (fun z => h2 z.2)]
  · rw [if_pos h1, if_neg (fun z => h1 z.1)]
theorem B_num {d w : Nat → Int} {p : Nat} (hd : d p = 0) : SegB d w p (p + 1) (sNum (w p)) := by
  refine ⟨by omega, ?_⟩
  intro m to t n hs hq hto ht hn
  obtain ⟨n', rfl⟩ : ∃ n', n = n' + 1 := ⟨n - 1, by omega⟩
  have h := hs p (by omega) (by omega)
  refine ⟨upd2 (upd2 m 77 t 0) 76 t (w p), n', ?_, Fr.upd (Fr.upd (Fr.refl _ _) _ rfl) _ rfl, fun i hi => ⟨?_, ?_⟩, fun e => (nomatch e), fun v hv => ⟨?_, ?_⟩, by omega⟩
  · rw [works_num (by omega) hto (h.1.trans hd) (by omega), h.2]
  · rw [u2n (by omega), u2r (by decide)]
  · rw [u2r (by decide), u2n (by omega)]
  · rw [u2r (by decide), u2s]
  · rw [u2s]; exact Option.some.inj hv
theorem B_let {d w : Nat → Int} {p i : Nat} (hd : d p = 1) (hw : w p = ltr i) (hi : i < 10) : SegB d w p (p + 1) (sLet i) := by
  refine ⟨by omega, ?_⟩
  intro m to t n hs hq hto ht hn
  obtain ⟨n', rfl⟩ : ∃ n', n = n' + 1 := ⟨n - 1, by omega⟩
  have h := hs p (by omega) (by omega)
  refine ⟨upd2 (upd2 m 77 t 0) 76 t (evB m i), n', ?_, Fr.upd (Fr.upd (Fr.refl _ _) _ rfl) _ rfl, fun i hi => ⟨?_, ?_⟩, fun e => (nomatch e), fun v hv => ⟨?_, ?_⟩, by omega⟩
  · rw [works_let (by omega) hto (h.1.trans hd) (h.2.trans hw) hi (by omega)]
  · rw [u2n (by omega), u2r (by decide)]
  · rw [u2r (by decide), u2n (by omega)]
  · rw [u2r (by decide), u2s]
  · rw [u2s]; exact Option.some.inj hv
theorem B_not {d w : Nat → Int} {p q : Nat} {f : Sem} (hf : SegB d w p q f) (hd : d q = 2) : SegB d w p (q + 1) (sNot f) := by
  have l1 := hf.1
  refine ⟨by omega, ?_⟩
  intro m to t n hs hq hto ht hn
  obtain ⟨m1, n1, a1, a2, a3, a4, a5, a6⟩ := hf.2 m to t n (fun i a b => hs i a (by omega)) (by omega) hto (by omega) hn
  obtain ⟨n3, rfl⟩ : ∃ n', n1 = n' + 1 := ⟨n1 - 1, by omega⟩
  have hd2 : m1 67 q = 2 := ((a2 67 q rfl).trans (hs q (by omega) (by omega)).1).trans hd
  have hst := works_not (n := n3) (show q < to by omega) hto hd2 (t := t) (by omega)
  refine ⟨upd2 m1 76 t (wr (1 - m1 76 t)), n3, by rw [a1, hst], Fr.upd a2 _ rfl, fun i hi => ⟨?_, ?_⟩, fun e => ?_, fun v hv => ?_, by omega⟩
  · rw [u2n (by omega), (a3 i hi).1]
  · rw [u2r (by decide), (a3 i hi).2]
  · rw [u2r (by decide)]
    apply a4
    cases ef : f (evB m) with
    | none => rfl
    | some x => unfold sNot at e; rw [ef] at e; exact (nomatch e)
  · cases ef : f (evB m) with
    | none => unfold sNot at hv; rw [ef] at hv; exact (nomatch hv)
    | some x =>
      unfold sNot at hv; rw [ef] at hv
      have hx := a5 x ef
      rw [u2r (by decide), u2s, hx.2]
      exact ⟨hx.1, Option.some.inj hv⟩
theorem B_two {d w : Nat → Int} {p q r : Nat} {f g h : Sem} {op : Int} (hf : SegB d w p q f) (hg : SegB d w q r g) (hd : d r = op) (ho : 2 < op)
    (hD : ∀ (m : Mm) (e : Nat → Int) (t : Nat), t + 1 < 240 → (f e = none → m 77 t ≠ 0) → (∀ v, f e = some v → m 77 t = 0 ∧ m 76 t = v) → (g e = none → m 77 (t + 1) ≠ 0) → (∀ v, g e = some v → m 77 (t + 1) = 0 ∧ m 76 (t + 1) = v) →
      ∃ m', F_X12_does op (t : Int) m = some (0, m') ∧ Fr sF m m' ∧ (∀ i, i < t → m' 76 i = m 76 i ∧ m' 77 i = m 77 i) ∧ (h e = none → m' 77 t ≠ 0) ∧ (∀ v, h e = some v → m' 77 t = 0 ∧ m' 76 t = v)) : SegB d w p (r + 1) h := by
  have l1 := hf.1
  have l2 := hg.1
  refine ⟨by omega, ?_⟩
  intro m to t n hs hq hto ht hn
  obtain ⟨m1, n1, a1, a2, a3, a4, a5, a6⟩ := hf.2 m to t n (fun i a b => hs i a (by omega)) (by omega) hto (by omega) hn
  obtain ⟨m2, n2, b1, b2, b3, b4, b5, b6⟩ := hg.2 m1 to (t + 1) n1 (fun i a b => ⟨(a2 67 i rfl).trans (hs i (by omega) (by omega)).1, (a2 68 i rfl).trans (hs i (by omega) (by omega)).2⟩) (by omega) hto (by omega) a6
  obtain ⟨n3, rfl⟩ : ∃ n', n2 = n' + 1 := ⟨n2 - 1, by omega⟩
  have hd2 : m2 67 r = op := ((b2 67 r rfl).trans ((a2 67 r rfl).trans (hs r (by omega) (by omega)).1)).trans hd
  have hst := works_op (n := n3) (show r < to by omega) hto hd2 ho (t := t) (by omega)
  rw [evB_fr a2] at b4 b5
  obtain ⟨m3, c1, c2, c3, c4, c5⟩ := hD m2 (evB m) t (by omega) (fun z => by rw [(b3 t (by omega)).2]; exact a4 z) (fun v z => by rw [(b3 t (by omega)).2, (b3 t (by omega)).1]; exact a5 v z) b4 b5
  rw [c1, cll_s] at hst
  exact ⟨m3, n3, by rw [a1, b1, hst], (a2.trans b2).trans c2, fun i hi => ⟨by rw [(c3 i hi).1, (b3 i (by omega)).1, (a3 i hi).1], by rw [(c3 i hi).2, (b3 i (by omega)).2, (a3 i hi).2]⟩, c4, c5, by omega⟩
theorem B_bin {d w : Nat → Int} {p q r : Nat} {f g : Sem} {op : Int} (hf : SegB d w p q f) (hg : SegB d w q r g) (hd : d r = op) (ho : isOp op) : SegB d w p (r + 1) (sBin op f g) := by
  refine B_two hf hg hd (by unfold isOp at ho; omega) ?_
  intro m e t ht f0 f1 g0 g1
  obtain ⟨R, W, h1, h2, h3⟩ := does_bin ho ht m
  refine ⟨_, h1, Fr.upd (Fr.upd (Fr.refl _ _) _ rfl) _ rfl, fun i hi => ⟨by rw [u2n (by omega), u2r (by decide)], by rw [u2r (by decide), u2n (by omega)]⟩, fun z => ?_, fun v z => ?_⟩
  · rw [u2r (by decide), u2s]
    cases ef : f e with
    | none => exact h2 (Or.inl (f0 ef))
    | some x =>
      cases eg : g e with
      | none => exact h2 (Or.inr (Or.inl (g0 eg)))
      | some y =>
        have e0 : sBin op f g e = if (op = 47 ∨ op = 37) ∧ y = 0 then none else some (ar op x y) := by unfold sBin; rw [ef, eg]; rfl
        rw [e0] at z
        by_cases hz : (op = 47 ∨ op = 37) ∧ y = 0
        · exact h2 (Or.inr (Or.inr (by rw [(g1 y eg).2]; exact hz)))
        · rw [if_neg hz] at z; exact (nomatch z)
  · cases ef : f e with
    | none => unfold sBin at z; rw [ef] at z; exact (nomatch z)
    | some x =>
      cases eg : g e with
      | none => unfold sBin at z; rw [ef, eg] at z; exact (nomatch z)
      | some y =>
        have e0 : sBin op f g e = if (op = 47 ∨ op = 37) ∧ y = 0 then none else some (ar op x y) := by unfold sBin; rw [ef, eg]; rfl
        rw [e0] at z
        by_cases hz : (op = 47 ∨ op = 37) ∧ y = 0
        · rw [if_pos hz] at z; exact (nomatch z)
        · rw [if_neg hz] at z
          have := h3 (f1 x ef).1 (g1 y eg).1 (by rw [(g1 y eg).2]; exact hz)
          rw [u2r (by decide), u2s, u2s]
          rw [(f1 x ef).2, (g1 y eg).2] at this
          exact ⟨this.1, this.2.trans (Option.some.inj z)⟩
theorem B_and {d w : Nat → Int} {p q r : Nat} {f g : Sem} (hf : SegB d w p q f) (hg : SegB d w q r g) (hd : d r = 38) : SegB d w p (r + 1) (sAnd f g) := by
  refine B_two hf hg hd (by decide) ?_
  intro m e t ht f0 f1 g0 g1
  rw [does_and ht]
  cases ef : f e with
  | none =>
    have e0 : sAnd f g e = none := by unfold sAnd; rw [ef]; rfl
    rw [if_neg (fun z => f0 ef z.1)]
    exact ⟨m, rfl, Fr.refl _ _, fun _ _ => ⟨rfl, rfl⟩, fun _ => f0 ef, fun v z => by rw [e0] at z; exact (nomatch z)⟩
  | some x =>
    have e0 : sAnd f g e = if x = 1 then g e else some x := by unfold sAnd; rw [ef]; rfl
    have hx := f1 x ef
    rw [e0]
    by_cases h1 : x = 1
    · rw [if_pos h1, if_pos ⟨hx.1, by rw [hx.2]; exact h1⟩]
      refine ⟨_, rfl, Fr.upd (Fr.upd (Fr.refl _ _) _ rfl) _ rfl, fun i hi => ⟨by rw [u2r (by decide), u2n (by omega)], by rw [u2n (by omega), u2r (by decide)]⟩, fun z => ?_, fun v z => ?_⟩
      · rw [u2s]; exact g0 z
      · rw [u2s, u2r (by decide), u2s]; exact g1 v z
    · rw [if_neg h1, if_neg (fun z => h1 (by rw [← hx.2]; exact z.2))]
      exact ⟨m, rfl, Fr.refl _ _, fun _ _ => ⟨rfl, rfl⟩, fun z => (nomatch z), fun v z => ⟨hx.1, by rw [hx.2]; exact Option.some.inj z⟩⟩
theorem B_or {d w : Nat → Int} {p q r : Nat} {f g : Sem} (hf : SegB d w p q f) (hg : SegB d w q r g) (hd : d r = 124) : SegB d w p (r + 1) (sOr f g) := by
  refine B_two hf hg hd (by decide) ?_
  intro m e t ht f0 f1 g0 g1
  rw [does_or ht]
  cases ef : f e with
  | none =>
    have e0 : sOr f g e = none := by unfold sOr; rw [ef]; rfl
    rw [if_neg (fun z => f0 ef z.1)]
    exact ⟨m, rfl, Fr.refl _ _, fun _ _ => ⟨rfl, rfl⟩, fun _ => f0 ef, fun v z => by rw [e0] at z; exact (nomatch z)⟩
  | some x =>
    have e0 : sOr f g e = if x = 0 then g e else some x := by unfold sOr; rw [ef]; rfl
    have hx := f1 x ef
    rw [e0]
    by_cases h1 : x = 0
    · rw [if_pos h1, if_pos ⟨hx.1, by rw [hx.2]; exact h1⟩]
      refine ⟨_, rfl, Fr.upd (Fr.upd (Fr.refl _ _) _ rfl) _ rfl, fun i hi => ⟨by rw [u2r (by decide), u2n (by omega)], by rw [u2n (by omega), u2r (by decide)]⟩, fun z => ?_, fun v z => ?_⟩
      · rw [u2s]; exact g0 z
      · rw [u2s, u2r (by decide), u2s]; exact g1 v z
    · rw [if_neg h1, if_neg (fun z => h1 (by rw [← hx.2]; exact z.2))]
      exact ⟨m, rfl, Fr.refl _ _, fun _ _ => ⟨rfl, rfl⟩, fun z => (nomatch z), fun v z => ⟨hx.1, by rw [hx.2]; exact Option.some.inj z⟩⟩

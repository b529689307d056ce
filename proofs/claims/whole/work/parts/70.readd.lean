/-! read: the reference from the back; the set -/
theorem Bw_b (ft : Nat → Nat → Nat → Bool) {N : Nat} (hN : N ≤ 8) {r : Nat} (hr : r ≤ 12) (i l : Nat) : 0 ≤ Bw ft N r i l ∧ Bw ft N r i l ≤ 282429536481 := ⟨(Bw_in ft hN r i l).1, Int.le_trans (Bw_in ft hN r i l).2 (p912 hr)⟩
def Qw (ft : Nat → Nat → Nat → Bool) (N r i l w : Nat) : Int := sg w (fun w' => if ft i w' l then Bw ft N r (i + 1) w' else 0)
theorem Qw_b (ft : Nat → Nat → Nat → Bool) {N : Nat} (hN : N ≤ 8) {r : Nat} (hr : r ≤ 12) (i l : Nat) {w : Nat} (hw : w ≤ 9) : 0 ≤ Qw ft N r i l w ∧ Qw ft N r i l w ≤ 2541865828329 := by
  have h := sg_in (M := 282429536481) (f := fun w' => if ft i w' l then Bw ft N r (i + 1) w' else 0) w fun j _ => by
    show 0 ≤ (if ft i j l then Bw ft N r (i + 1) j else 0) ∧ (if ft i j l then Bw ft N r (i + 1) j else 0) ≤ 282429536481
    have := Bw_b ft hN hr (i + 1) j
    split <;> omega
  have h2 : (w : Int) * 282429536481 ≤ 2541865828329 := by omega
  exact ⟨h.1, Int.le_trans h.2 h2⟩
theorem Qw_s (ft : Nat → Nat → Nat → Bool) (N r i l w : Nat) : Qw ft N r i l (w + 1) = Qw ft N r i l w + (if ft i w l then Bw ft N r (i + 1) w else 0) := sg_s _ _
abbrev K3 : Type := Int → Int → Int → Mm → Rs
theorem bw368 {K : K3} {K2 : K4} {a : Mm} {G : Tg} {N n r i l : Nat} {ear lg what : Int} {gp tl : Nat → Int} (hi : i < n) (hl : l < 9) (hr : r ≤ 12) : ∀ (k w : Nat) (b : Mm) (f : Nat), w + k = N → RbS a b G N n ear lg gp tl → (∀ v, v < 9 → b 83 (9 * i + 9 + v) = Bw (ftB G (fun w => wayA a ear (w : Int)) (a 1 6) ear gp tl lg) N r (i + 1) v) → b 83 (9 * i + l) = Qw (ftB G (fun w => wayA a ear (w : Int)) (a 1 6) ear gp tl lg) N r i l w → k < f →
    ∃ b', L_X12_read_368 K K2 f ear what (i : Int) (l : Int) (w : Int) b = K2 ear what (i : Int) ((l + 1 : Nat) : Int) b' ∧ Fr sFw b b' ∧ b' 83 (9 * i + l) = Bw (ftB G (fun w => wayA a ear (w : Int)) (a 1 6) ear gp tl lg) N (r + 1) i l ∧ (∀ m, m ≠ 9 * i + l → b' 83 m = b 83 m) ∧ b' 82 = b 82 := by
  intro k
  induction k with
  | zero =>
    intro w b f hw hR hB hq hf
    obtain ⟨f', rfl⟩ : ∃ f', f = f' + 1 := ⟨f - 1, by omega⟩
    have hn2 := hR.1.1.n
    have hn3 := hR.1.2.2.1
    refine ⟨b, ?_, Fr.refl _ _, by rw [hq, Bw_s, show w = N by omega]; rfl, fun _ _ => rfl, rfl⟩
    show LB_X12_read_368 K K2 (L_X12_read_368 K K2 f') _ _ _ _ _ _ = _
    unfold LB_X12_read_368
    rw [if_pos (by omega), nmv_s, wr_s (by omega)]
    rfl
  | succ k ih =>
    intro w b f hw hR hB hq hf
    obtain ⟨f', rfl⟩ : ∃ f', f = f' + 1 := ⟨f - 1, by omega⟩
    have hn2 := hR.1.1.n
    have hn3 := hR.1.2.2.1
    have hn5 := hR.1.2.2.2.2
    have hN8 := hR.1.1.A.1
    generalize hft : ftB G (fun w => wayA a ear (w : Int)) (a 1 6) ear gp tl lg = ft at *
    have hBw := Bw_b ft (show N ≤ 8 by omega) hr (i + 1) w
    have hQ := Qw_b ft (show N ≤ 8 by omega) hr i l (show w ≤ 9 by omega)
    obtain ⟨b1, e1, e2⟩ := fitsB_s hR (i := i) (w := w) hi (by omega) l
    rw [hft] at e1
    have r83 : b1 83 = b 83 := e2.row 83 (fun _ => rfl)
    have hBv := hB w (by omega)
    have hst : L_X12_read_368 K K2 (f' + 1) ear what (i : Int) (l : Int) (w : Int) b = if ft i w l = true then L_X12_read_368 K K2 f' ear what (i : Int) (l : Int) ((w + 1 : Nat) : Int) (upd2 b1 83 (9 * i + l) (Qw ft N r i l w + Bw ft N r (i + 1) w)) else L_X12_read_368 K K2 f' ear what (i : Int) (l : Int) ((w + 1 : Nat) : Int) b1 := by
      show LB_X12_read_368 K K2 (L_X12_read_368 K K2 f') _ _ _ _ _ _ = _
      unfold LB_X12_read_368 J_X12_read_423
      rw [if_neg (by omega), e1, cll_s, ib0]
      by_cases hc : ft i w l = true
      · rw [if_pos hc, if_pos hc, ix1 (by omega) (by omega), ix2 (by omega) (by omega), ald_s (by omega), ald_s (by omega), ast_s (by omega), nmv_s, Int.toNat_natCast, Int.toNat_natCast, r83, hq, hBv, wl_id (by unfold inL; omega), wr_s (by omega)]
        rfl
      · rw [if_neg hc, if_neg hc, nmv_s, wr_s (by omega)]
        rfl
    rw [hst]
    by_cases hc : ft i w l = true
    · rw [if_pos hc]
      have hfr : Fr sFw b (upd2 b1 83 (9 * i + l) (Qw ft N r i l w + Bw ft N r (i + 1) w)) := Fr.upd (frNF e2) _ rfl
      obtain ⟨b2, r1, r2, r3, r4, r5⟩ := ih (w + 1) _ f' (by omega) (hR.fr hfr) (fun v h9 => by rw [u2n (by omega), r83]; exact hB v h9) (by rw [u2s, Qw_s, if_pos hc]) (by omega)
      exact ⟨b2, r1, hfr.trans r2, r3, fun m hm => by rw [r4 m hm, u2n hm, r83], by rw [r5, u2r (by decide)]; exact e2.row 82 (fun _ => rfl)⟩
    · rw [if_neg hc]
      obtain ⟨b2, r1, r2, r3, r4, r5⟩ := ih (w + 1) b1 f' (by omega) (hR.fr (frNF e2)) (fun v h9 => by rw [r83]; exact hB v h9) (by rw [r83, hq, Qw_s, if_neg hc, Int.add_zero]) (by omega)
      exact ⟨b2, r1, (frNF e2).trans r2, r3, fun m hm => by rw [r4 m hm, r83], by rw [r5]; exact e2.row 82 (fun _ => rfl)⟩
theorem bw358 {K : K3} {a : Mm} {G : Tg} {N n r i : Nat} {ear lg what : Int} {gp tl : Nat → Int} (hi : i < n) (hr : r ≤ 12) : ∀ (k l : Nat) (b : Mm) (f : Nat), l + k = 9 → RbS a b G N n ear lg gp tl → (∀ v, v < 9 → b 83 (9 * i + 9 + v) = Bw (ftB G (fun w => wayA a ear (w : Int)) (a 1 6) ear gp tl lg) N r (i + 1) v) → (∀ v, v < 9 → b 83 (9 * i + v) = if v < l then Bw (ftB G (fun w => wayA a ear (w : Int)) (a 1 6) ear gp tl lg) N (r + 1) i v else 0) → k < f →
    ∃ b', L_X12_read_358 K f ear what (i : Int) (l : Int) b = K ear what ((i : Int) - 1) b' ∧ Fr sFw b b' ∧ (∀ v, v < 9 → b' 83 (9 * i + v) = Bw (ftB G (fun w => wayA a ear (w : Int)) (a 1 6) ear gp tl lg) N (r + 1) i v) ∧ (∀ m, (m < 9 * i ∨ 9 * i + 9 ≤ m) → b' 83 m = b 83 m) ∧ b' 82 = b 82 := by
  intro k
  induction k with
  | zero =>
    intro l b f hl hR hB hv hf
    obtain ⟨f', rfl⟩ : ∃ f', f = f' + 1 := ⟨f - 1, by omega⟩
    have hn5 := hR.1.2.2.2.2
    refine ⟨b, ?_, Fr.refl _ _, fun v h9 => by rw [hv v h9, if_pos (by omega)], fun _ _ => rfl, rfl⟩
    show LB_X12_read_358 K (L_X12_read_358 K f') _ _ _ _ _ = _
    unfold LB_X12_read_358
    rw [if_pos (by omega), nmv_s, wr_s (by omega), show (i : Int) + -1 = (i : Int) - 1 by omega]
  | succ k ih =>
    intro l b f hl hR hB hv hf
    obtain ⟨f', rfl⟩ : ∃ f', f = f' + 1 := ⟨f - 1, by omega⟩
    have hN8 := hR.1.1.A.1
    have hn3 := hR.1.2.2.1
    obtain ⟨b1, e1, e2, e3, e4, e5⟩ := bw368 (K := K) (K2 := L_X12_read_358 K f') (what := what) hi (show l < 9 by omega) hr N 0 b 100000 (by omega) hR hB (by rw [hv l (by omega), if_neg (by omega)]; rfl) (by omega)
    obtain ⟨b2, r1, r2, r3, r4, r5⟩ := ih (l + 1) b1 f' (by omega) (hR.fr e2) (fun v h9 => by rw [e4 _ (by omega)]; exact hB v h9) (fun v h9 => by
      by_cases e : v = l
      · subst e; rw [e3, if_pos (by omega)]
      · rw [e4 _ (by omega), hv v h9]
        by_cases c : v < l
        · rw [if_pos c, if_pos (by omega)]
        · rw [if_neg c, if_neg (by omega)]) (by omega)
    refine ⟨b2, ?_, e2.trans r2, r3, fun m hm => by rw [r4 m hm, e4 m (by omega)], r5.trans e5⟩
    rw [← r1, ← e1]
    show LB_X12_read_358 K (L_X12_read_358 K f') _ _ _ _ _ = _
    unfold LB_X12_read_358
    rw [if_neg (by omega), nmv_s]
    rfl
def rdEnd (what : Int) (b : Mm) : Rs := if ¬ what = (-1) then nmv 0 (fun x3 => nmv 0 (fun x4 => (L_X12_read_462 100000 what x3 x4 b))) else ald b 83 126 (b 54 55) (fun x5 => some (x5, b))
theorem bw350 {a : Mm} {G : Tg} {N n : Nat} {ear lg what : Int} {gp tl : Nat → Int} : ∀ (i : Nat) (b : Mm) (f : Nat), i ≤ n → RbS a b G N n ear lg gp tl → (∀ j v, i ≤ j → j ≤ n → v < 9 → b 83 (9 * j + v) = Bw (ftB G (fun w => wayA a ear (w : Int)) (a 1 6) ear gp tl lg) N (n - j) j v) → (∀ m, m < 9 * i → b 83 m = 0) → i < f →
    ∃ b', L_X12_read_350 f ear what ((i : Int) - 1) b = rdEnd what b' ∧ Fr sFw b b' ∧ (∀ j v, j ≤ n → v < 9 → b' 83 (9 * j + v) = Bw (ftB G (fun w => wayA a ear (w : Int)) (a 1 6) ear gp tl lg) N (n - j) j v) ∧ b' 82 = b 82 := by
  intro i
  induction i with
  | zero =>
    intro b f hi hR hB hz hf
    obtain ⟨f', rfl⟩ : ∃ f', f = f' + 1 := ⟨f - 1, by omega⟩
    refine ⟨b, ?_, Fr.refl _ _, fun j v h1 h2 => hB j v (by omega) h1 h2, rfl⟩
    show LB_X12_read_350 (L_X12_read_350 f') _ _ _ _ = _
    unfold LB_X12_read_350 rdEnd
    rw [if_pos (by omega)]
  | succ i ih =>
    intro b f hi hR hB hz hf
    obtain ⟨f', rfl⟩ : ∃ f', f = f' + 1 := ⟨f - 1, by omega⟩
    have hn5 := hR.1.2.2.2.2
    have er : n - i = (n - (i + 1)) + 1 := by omega
    obtain ⟨b1, e1, e2, e3, e4, e5⟩ := bw358 (K := L_X12_read_350 f') (what := what) (r := n - (i + 1)) (show i < n by omega) (by omega) 9 0 b 100000 (by omega) hR (fun v h9 => by rw [show 9 * i + 9 + v = 9 * (i + 1) + v by omega]; exact hB (i + 1) v (Nat.le_refl _) hi h9) (fun v h9 => by rw [if_neg (by omega)]; exact hz _ (by omega)) (by omega)
    obtain ⟨b2, r1, r2, r3, r4⟩ := ih b1 f' (by omega) (hR.fr e2) (fun j v h1 h2 h3 => by
      by_cases e : j = i
      · subst e; rw [er]; exact e3 v h3
      · rw [e4 _ (by omega)]; exact hB j v (by omega) h2 h3) (fun m hm => by rw [e4 m (by omega)]; exact hz m (by omega)) (by omega)
    refine ⟨b2, ?_, e2.trans r2, r3, r4.trans e5⟩
    rw [← r1, ← e1, show ((i + 1 : Nat) : Int) - 1 = (i : Int) by omega]
    show LB_X12_read_350 (L_X12_read_350 f') _ _ _ _ = _
    unfold LB_X12_read_350
    rw [if_neg (by omega), nmv_s]
    rfl
theorem ones319 {n : Nat} {ear what : Int} (hn : n ≤ 12) : ∀ (k l : Nat) (b : Mm) (f : Nat), l + k = 9 → (∀ v, v < l → b 83 (9 * n + v) = 1) → k < f → ∃ b', L_X12_read_319 f ear (n : Int) what (l : Int) b = L_X12_read_350 100000 ear what ((n : Int) - 1) b' ∧ (∀ v, v < 9 → b' 83 (9 * n + v) = 1) ∧ (∀ m, (m < 9 * n) → b' 83 m = b 83 m) ∧ (∀ c, c ≠ 83 → b' c = b c) := by
  intro k
  induction k with
  | zero =>
    intro l b f hl hv hf
    obtain ⟨f', rfl⟩ : ∃ f', f = f' + 1 := ⟨f - 1, by omega⟩
    refine ⟨b, ?_, fun v h => hv v (by omega), fun _ _ => rfl, fun _ _ => rfl⟩
    show LB_X12_read_319 (L_X12_read_319 f') _ _ _ _ _ = _
    unfold LB_X12_read_319
    rw [if_pos (by omega), nmv_s, wr_s (by omega)]
  | succ k ih =>
    intro l b f hl hv hf
    obtain ⟨f', rfl⟩ : ∃ f', f = f' + 1 := ⟨f - 1, by omega⟩
    obtain ⟨b', r1, r2, r3, r4⟩ := ih (l + 1) (upd2 b 83 (9 * n + l) 1) f' (by omega) (fun v h => by
      by_cases e : v = l
      · subst e; rw [u2s]
      · rw [u2n (by omega)]; exact hv v (by omega)) (by omega)
    refine ⟨b', ?_, r2, fun m hm => by rw [r3 m hm, u2n (by omega)], fun c hc => (r4 c hc).trans (u2r hc)⟩
    rw [← r1]
    show LB_X12_read_319 (L_X12_read_319 f') _ _ _ _ _ = _
    unfold LB_X12_read_319
    rw [if_neg (by omega), ix1 (by omega) (by omega), ast_s (by omega), nmv_s, Int.toNat_natCast, wr_s (by omega)]
    rfl
theorem zer164 {n L0 : Nat} {ear what : Int} (hL : L0 < 9) : ∀ (k m : Nat) (b : Mm) (f : Nat), m + k = 126 → b 54 55 = (L0 : Int) → (∀ v, v < m → b 82 v = 0 ∧ b 83 v = 0) → k < f → ∃ b', L_X12_read_164 f ear (n : Int) what (m : Int) b = L_X12_read_206 100000 ear (n : Int) what ((0 : Nat) : Int) b' ∧ (∀ v, v < 126 → b' 82 v = (if v = L0 then 1 else 0) ∧ b' 83 v = 0) ∧ (∀ c, c ≠ 82 → c ≠ 83 → b' c = b c) := by
  intro k
  induction k with
  | zero =>
    intro m b f hm h55 hz hf
    obtain ⟨f', rfl⟩ : ∃ f', f = f' + 1 := ⟨f - 1, by omega⟩
    refine ⟨upd2 b 82 L0 1, ?_, fun v hv => ⟨?_, by rw [u2r (by decide)]; exact (hz v (by omega)).2⟩, fun c h1 _ => u2r h1⟩
    · show LB_X12_read_164 (L_X12_read_164 f') _ _ _ _ _ = _
      unfold LB_X12_read_164
      rw [if_pos (by omega), h55, ast_s (by omega), nmv_s, Int.toNat_natCast]
      rfl
    · by_cases e : v = L0
      · subst e; rw [u2s, if_pos rfl]
      · rw [u2n e, if_neg e]; exact (hz v (by omega)).1
  | succ k ih =>
    intro m b f hm h55 hz hf
    obtain ⟨f', rfl⟩ : ∃ f', f = f' + 1 := ⟨f - 1, by omega⟩
    obtain ⟨b', r1, r2, r3⟩ := ih (m + 1) (upd2 (upd2 b 82 m 0) 83 m 0) f' (by omega) (by rw [u2r (by decide), u2r (by decide)]; exact h55) (fun v hv => by
      rw [u2r (show 82 ≠ 83 by decide)]
      by_cases e : v = m
      · subst e; rw [u2s, u2s]; exact ⟨rfl, rfl⟩
      · rw [u2n e, u2n e, u2r (by decide)]; exact hz v (by omega)) (by omega)
    refine ⟨b', ?_, r2, fun c h1 h2 => (r3 c h1 h2).trans ((u2r h2).trans (u2r h1))⟩
    rw [← r1]
    show LB_X12_read_164 (L_X12_read_164 f') _ _ _ _ _ = _
    unfold LB_X12_read_164
    rw [if_neg (by omega), ast_s (by omega), ast_s (by omega), nmv_s, Int.toNat_natCast, wr_s (by omega)]
    rfl
theorem set462 {N w0 : Nat} {P : Nat → Prop} (hN : N ≤ 8) (hw0 : w0 < 12) : ∀ (k w : Nat) (b : Mm) (y : Nat) (f : Nat), w + k = N → b 54 2 = (N : Int) → (∀ v, v < N → (P v ↔ 0 < b 82 (9 * w0 + 9 + v) ∧ 0 < b 83 (9 * w0 + 9 + v))) → y < 2 ^ w → S8 (y : Int) → (∀ v, v < 8 → (bit (y : Int) v = 1 ↔ v < w ∧ P v)) → k < f → ∃ z : Int, L_X12_read_462 f (w0 : Int) (y : Int) (w : Int) b = some (z, b) ∧ S8 z ∧ (∀ v, v < 8 → (bit z v = 1 ↔ v < N ∧ P v)) := by
  intro k
  induction k with
  | zero =>
    intro w b y f hw hn hP hy hs hb hf
    obtain ⟨f', rfl⟩ : ∃ f', f = f' + 1 := ⟨f - 1, by omega⟩
    refine ⟨(y : Int), ?_, hs, by rw [← show w = N by omega]; exact hb⟩
    show LB_X12_read_462 (L_X12_read_462 f') _ _ _ _ = _
    unfold LB_X12_read_462
    rw [if_pos (by omega)]
  | succ k ih =>
    intro w b y f hw hn hP hy hs hb hf
    obtain ⟨f', rfl⟩ : ∃ f', f = f' + 1 := ⟨f - 1, by omega⟩
    have hw8 : w < 8 := by omega
    obtain ⟨u1, u2⟩ := lor_up w hw8 y hy
    obtain ⟨o1, o2⟩ := bit_one (v := w) hw8
    obtain ⟨p1, p2⟩ := bit_or hs o1
    have hlc : ∀ x : Int, lcmp x 0 ≤ 0 ↔ ¬ 0 < x := by
      intro x
      unfold lcmp
      by_cases h1 : x < 0
      · rw [if_pos h1]; constructor <;> intro _ <;> omega
      · rw [if_neg h1]
        by_cases h2 : x = 0
        · rw [if_pos h2]; constructor <;> intro _ <;> omega
        · rw [if_neg h2]; constructor <;> intro _ <;> omega
    have hPw := hP w (by omega)
    have hst : L_X12_read_462 (f' + 1) (w0 : Int) (y : Int) (w : Int) b = if 0 < b 82 (9 * w0 + 9 + w) ∧ 0 < b 83 (9 * w0 + 9 + w) then L_X12_read_462 f' (w0 : Int) (ior (y : Int) (ishl 1 (w : Int))) ((w + 1 : Nat) : Int) b else L_X12_read_462 f' (w0 : Int) (y : Int) ((w + 1 : Nat) : Int) b := by
      show LB_X12_read_462 (L_X12_read_462 f') _ _ _ _ = _
      unfold LB_X12_read_462 J_X12_read_520
      rw [if_neg (by omega), ix2 (by omega) (by omega), ald_s (by omega), Int.toNat_natCast]
      by_cases h1 : 0 < b 82 (9 * w0 + 9 + w)
      · rw [if_neg (fun z => (hlc _).mp z h1), ald_s (by omega), Int.toNat_natCast]
        by_cases h2 : 0 < b 83 (9 * w0 + 9 + w)
        · rw [if_neg (fun z => (hlc _).mp z h2), if_pos ⟨h1, h2⟩, nmv_s, nmv_s, u1, wr_s (by omega)]
          rfl
        · rw [if_pos ((hlc _).mpr h2), if_neg (fun z => h2 z.2), nmv_s, wr_s (by omega)]
          rfl
      · rw [if_pos ((hlc _).mpr h1), if_neg (fun z => h1 z.1), nmv_s, wr_s (by omega)]
        rfl
    rw [hst]
    by_cases hc : 0 < b 82 (9 * w0 + 9 + w) ∧ 0 < b 83 (9 * w0 + 9 + w)
    · rw [if_pos hc]
      have hnn : 0 ≤ ior (y : Int) (ishl 1 (w : Int)) := p1.1
      obtain ⟨y', hy'⟩ : ∃ y' : Nat, ior (y : Int) (ishl 1 (w : Int)) = (y' : Int) := ⟨(ior (y : Int) (ishl 1 (w : Int))).toNat, by omega⟩
      rw [hy'] at u2 p1 p2
      rw [hy']
      refine ih (w + 1) b y' f' (by omega) hn hP (by exact_mod_cast u2) p1 (fun v hv => ?_) (by omega)
      rw [p2 v hv, hb v hv, o2 v hv]
      constructor
      · rintro (⟨z1, z2⟩ | z)
        · exact ⟨by omega, z2⟩
        · exact ⟨by omega, by rw [z]; exact hPw.mpr hc⟩
      · rintro ⟨z1, z2⟩
        by_cases e : v = w
        · exact Or.inr e
        · exact Or.inl ⟨by omega, z2⟩
    · rw [if_neg hc]
      refine ih (w + 1) b y f' (by omega) hn hP (by rw [Nat.pow_succ]; omega) hs (fun v hv => ?_) (by omega)
      rw [hb v hv]
      constructor
      · rintro ⟨z1, z2⟩; exact ⟨by omega, z2⟩
      · rintro ⟨z1, z2⟩
        by_cases e : v = w
        · rw [e] at z2; exact absurd (hPw.mp z2) hc
        · exact ⟨by omega, z2⟩

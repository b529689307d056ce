/-! soonest: the reference as a whole -/
def cS (x : Int) (q : Nat) : Nat := lst (fun j => decide (bit x j = 1) && decide (cnX x j = q)) 8 0
def cI (x : Int) (q : Nat) : Int := (cS x q : Int)
theorem cS_at {x : Int} {j : Nat} (hj : j < 8) (hb : bit x j = 1) : cS x (cnX x j) = j := by
  unfold cS
  refine lst_u (Nat.zero_le _) (by omega) ?_ (fun v _ hv => ?_)
  · rw [decide_eq_true hb, decide_eq_true rfl]; rfl
  · by_cases h : bit x v = 1
    · have h1 := cn_s x v
      rw [if_neg (by omega : ¬ bit x v = 0)] at h1
      have h2 := cn_mono (x := x) (by omega : v + 1 ≤ j)
      rw [decide_eq_false (by omega : ¬ cnX x v = cnX x j), Bool.and_false]
    · rw [decide_eq_false h, Bool.false_and]
theorem cn_hit {x : Int} (hx : 0 ≤ x ∧ x ≤ 2147483647) : ∀ n, n ≤ 8 → ∀ q, q < cnX x n → ∃ j, j < n ∧ bit x j = 1 ∧ cnX x j = q := by
  intro n
  induction n with
  | zero => intro _ q hq; exact absurd hq (Nat.not_lt_zero _)
  | succ n ih =>
    intro hn q hq
    rw [cn_s] at hq
    by_cases h : q < cnX x n
    · obtain ⟨j, h1, h2, h3⟩ := ih (by omega) q h
      exact ⟨j, by omega, h2, h3⟩
    · rcases bit_01 hx (by omega : n < 32) with hb | hb
      · rw [if_pos hb] at hq; omega
      · rw [if_neg (by omega)] at hq
        exact ⟨n, by omega, hb, by omega⟩
theorem cS_s {x : Int} (hx : 0 ≤ x ∧ x ≤ 2147483647) {n : Nat} (hn : n ≤ 8) {q : Nat} (hq : q < cnX x n) : cS x q < n ∧ bit x (cS x q) = 1 ∧ cnX x (cS x q) = q := by
  obtain ⟨j, h1, h2, h3⟩ := cn_hit hx n hn q hq
  have := cS_at (x := x) (by omega : j < 8) h2
  rw [h3] at this
  rw [this]
  exact ⟨h1, h2, h3⟩
theorem cn_top : ∀ n : Nat, n ≤ 8 → ∀ k : Nat, k < 256 → (k : Int) ≤ ishl 1 (n : Int) - 1 → cnX (k : Int) n = cnX (k : Int) 8 := by decide +kernel
def LSn (L : Nat → Int) (x : Int) (w : Nat) : Nat := if w < cnX x 8 then (L (cS x w)).toNat else 0
theorem dg0 (w : Nat) : dg 0 w = 0 := by unfold dg; rw [Nat.zero_div]
theorem wsm_rsm {L : Nat → Int} {x : Int} (hx : 0 ≤ x ∧ x ≤ 2147483647) (hL : ∀ j, j < 8 → 0 ≤ L j ∧ L j ≤ 4) : ∀ k i, i + k = 8 → wsm L x k i = (rsm (LSn L x) 0 (cnX x 8 - cnX x i) (cnX x i) : Int) := by
  intro k
  induction k with
  | zero =>
    intro i hi
    have e : i = 8 := by omega
    subst e
    rw [Nat.sub_self]
    rfl
  | succ k ih =>
    intro i hi
    have h1 := ih (i + 1) (by omega)
    have hc := cn_s x i
    have hm := cn_mono (x := x) (by omega : i + 1 ≤ 8)
    unfold wsm
    rcases bit_01 hx (by omega : i < 32) with hb | hb
    · rw [if_pos hb] at hc ⊢
      rw [hc, Nat.add_zero] at h1
      rw [Int.zero_add]
      exact h1
    · rw [if_neg (by omega)] at hc ⊢
      obtain ⟨d, hd⟩ : ∃ d, cnX x 8 - cnX x i = d + 1 := ⟨cnX x 8 - cnX x i - 1, by omega⟩
      have hd2 : cnX x 8 - cnX x (i + 1) = d := by omega
      rw [hd]
      unfold rsm
      rw [dg0, Nat.sub_zero, h1, hd2, hc]
      have hv : LSn L x (cnX x i) = (L i).toNat := by
        unfold LSn
        rw [if_pos (by omega), cS_at (by omega) hb]
      rw [hv]
      have := hL i (by omega)
      omega
theorem wsm_S {L : Nat → Int} {x : Int} (hx : 0 ≤ x ∧ x ≤ 2147483647) (hL : ∀ j, j < 8 → 0 ≤ L j ∧ L j ≤ 4) : wsm L x 8 0 = (rsm (LSn L x) 0 (cnX x 8) 0 : Int) := by
  have := wsm_rsm hx hL 8 0 rfl
  rw [show cnX x 0 = 0 from rfl, Nat.sub_zero] at this
  exact this
def syS (G : Tg) (L W : Nat → Int) (x : Int) : Syf := syB G (cI x) (LSn L x) W
def ansS (G : Tg) (L W : Nat → Int) (x what : Int) : Int :=
  if VV (syS G L W x) (cnX x 8) (LSn L x) 0 4 21 = 1000000000 then -2
  else if what = -1 then VV (syS G L W x) (cnX x 8) (LSn L x) 0 4 21
  else if 200 ≤ what then gpO (gqN (syS G L W x) (cnX x 8) (LSn L x) (rsm (LSn L x) 0 (cnX x 8) 0) ((what - 200).toNat + 1))
  else cI x (wqN (syS G L W x) (cnX x 8) (LSn L x) (what - 100).toNat)
theorem InvP.A8 {a b : Mm} (hP : InvP a b) : ∀ j, j < 8 → 0 ≤ a 5 j ∧ a 5 j ≤ 4 := by
  intro j hj
  by_cases h : (j : Int) < a 1 5
  · exact (hP.2.1 j h).2.2.2
  · have := hP.2.2.1 j (by omega) hj; omega
/-- both sides' words are the same -/
theorem syS_AB {a b : Mm} (hP : InvP a b) {G : Tg} {k n : Nat} (hn : a 1 5 = (n : Int)) (hk : k < 256) (hx : (k : Int) ≤ ishl 1 (n : Int) - 1) : syB G (cI (k : Int)) (LSn (a 5) (k : Int)) (b 60) = syS G (a 5) (a 6) (k : Int) := by
  have hn8 := hP.A.1
  funext st l p w g
  unfold syS syB
  by_cases h : dg st w < LSn (a 5) (k : Int) w
  · have hw : w < cnX (k : Int) 8 := by
      unfold LSn at h
      by_cases c : w < cnX (k : Int) 8
      · exact c
      · rw [if_neg c] at h; omega
    have hl : LSn (a 5) (k : Int) w = (a 5 (cS (k : Int) w)).toNat := by unfold LSn; rw [if_pos hw]
    rw [hl] at h
    have hc := cS_s (x := (k : Int)) (by omega) (by omega : n ≤ 8) (by rw [cn_top n (by omega) k hk hx]; exact hw)
    have h2 := (hP.2.2.2 (cS (k : Int) w) (dg st w) (by omega) (by omega)).1
    rw [show (cI (k : Int) w).toNat = cS (k : Int) w from Int.toNat_natCast _, h2]
  · rw [decide_eq_false h, Bool.false_and, Bool.false_and]
def sSb (k i : Nat) : Bool := sN k i || (decide (84 ≤ k) && decide (k ≤ 89)) || (k == 54 && (i == 57 || i == 63))
theorem sSb_of {k i : Nat} {S : Nat → Nat → Bool} {b b' : Mm} (h : Fr S b b') (hs : ∀ k i, S k i = true → sSb k i = true) : Fr sSb b b' := h.mono fun k i e => by
  cases hk : S k i with
  | false => rfl
  | true => rw [hs k i hk] at e; exact (nomatch e)
theorem sb1 {b b' : Mm} (h : Fr sCr b b') : Fr sSb b b' := sSb_of (k := 0) (i := 0) h fun k i e => by
  unfold sCr at e
  unfold sSb
  simp only [Bool.or_eq_true, Bool.and_eq_true, beq_iff_eq, decide_eq_true_eq] at e ⊢
  omega
theorem sb2 {b b' : Mm} (h : Fr sCw b b') : Fr sSb b b' := sSb_of (k := 0) (i := 0) h fun k i e => by
  unfold sCw at e
  unfold sSb
  simp only [Bool.or_eq_true, Bool.and_eq_true, beq_iff_eq, decide_eq_true_eq] at e ⊢
  rcases e with e | e
  · exact Or.inl (Or.inl e)
  · exact Or.inl (Or.inr (by omega))
theorem sb3 {b b' : Mm} (h : Fr sSo b b') : Fr sSb b b' := sSb_of (k := 0) (i := 0) h fun k i e => by
  unfold sSo at e
  unfold sSb
  simp only [Bool.or_eq_true, Bool.and_eq_true, beq_iff_eq, decide_eq_true_eq] at e ⊢
  omega
theorem VV_le {sy : Syf} {M : Nat} {Ln : Nat → Nat} {st l p : Nat} : VV sy M Ln st l p ≤ 1000000000 := by
  unfold VV
  have h := (mnW_le (c := cV sy M Ln st l p) (g0 := if st = 0 then 21 else 1) (gk := if st = 0 then 1 else 20) M 0 (if dnB Ln st M 0 = true then 0 else 1000000000)).1
  have : (if dnB Ln st M 0 = true then (0 : Int) else 1000000000) ≤ 1000000000 := by split <;> decide
  omega
theorem isSt0 {Ln : Nat → Nat} {M : Nat} : isSt Ln M 0 := ⟨by decide, fun w _ => by rw [dg0]; exact Nat.zero_le _⟩
theorem s103 {a b : Mm} {G : Tg} (hP : InvP a b) (hB : GB b G) {k n : Nat} (hn : a 1 5 = (n : Int)) (hk : k < 256) (hx : (k : Int) ≤ ishl 1 (n : Int) - 1) (h4 : pcN k ≤ 4) {what : Int} (hw : what = -1 ∨ (100 ≤ what ∧ what ≤ 99 + wsm (a 5) (k : Int) 8 0) ∨ (200 ≤ what ∧ what ≤ 199 + wsm (a 5) (k : Int) 8 0)) : ∃ b', J_X12_soonest_103 (k : Int) what b = some (ansS G (a 5) (a 6) (k : Int) what, b') ∧ Fr sSb b b' := by
  have hn8 := hP.A.1
  have hnn : n ≤ 8 := by omega
  have hxr : 0 ≤ (k : Int) ∧ (k : Int) ≤ 2147483647 := by omega
  have hbn : b 54 2 = (n : Int) := hP.1.1.trans hn
  have hM8 := cn_top n hnn k hk hx
  have hM4 : cnX (k : Int) 8 ≤ 4 := by rw [cn_all k hk]; exact h4
  have hwS := wsm_S hxr hP.A8
  rw [hwS] at hw
  -- the crowd
  have f0 : Fr sCr b (upd2 b 54 57 0) := (Fr.refl _ _).upd _ rfl
  obtain ⟨b1, e1, e2, e3, e4, e5⟩ := lays7 (x := (k : Int)) hxr hnn (by omega) n 0 (upd2 b 54 57 0) 100000 (by omega) (by rw [u2n (by decide)]; exact hbn) (by rw [u2s]; rfl) (fun j hj => by omega) (fun q hq => absurd hq (Nat.not_lt_zero _)) (by omega)
  have f1 : Fr sCr b b1 := f0.trans e2
  have hC1 : CwS b1 G (cnX (k : Int) 8) (cI (k : Int)) := by
    refine ⟨hB.fr (f1 54 14 rfl) (fun k i g1 g2 => f1 k i (by unfold sCr; simp only [Bool.or_eq_false_iff, Bool.and_eq_false_iff, beq_eq_false_iff_ne]; omega)), hM4, by rw [e3, hM8], fun j hj => ?_⟩
    obtain ⟨c1, c2, c3⟩ := cS_s hxr hnn (by rw [hM8]; exact hj)
    have := e4 _ c1 c2
    rw [c3] at this
    exact this
  obtain ⟨b2, d1, d2, d3⟩ := ly54 (cnX (k : Int) 8) 0 b1 100000 (by omega) hC1 (fun w g l p ho hq => by unfold plM at hq; have := ho.2.1; have := ho.2.2.2; omega) (by omega)
  have hLC : F_X12_laysCrowd (k : Int) b = some (0, b2) := by
    rw [show ((0 : Nat) : Int) = 0 from rfl] at e1 d1
    unfold F_X12_laysCrowd
    rw [stf_s, nmv_s, e1]
    exact d1
  have f2 : Fr sSb b b2 := (sb1 f1).trans (sb2 d2)
  have hR : RC b2 G (cnX (k : Int) 8) (cI (k : Int)) (LSn (a 5) (k : Int)) (b 60) := by
    refine ⟨hC1.fr d2, fun w hw => ?_, d3, f2.row 60 (fun _ => rfl)⟩
    obtain ⟨c1, c2, c3⟩ := cS_s (q := w) hxr hnn (by rw [hM8]; exact hw)
    have hl : LSn (a 5) (k : Int) w = (a 5 (cS (k : Int) w)).toNat := by unfold LSn; rw [if_pos hw]
    have h5 := hP.A8 (cS (k : Int) w) (by omega)
    have hb5 := (hP.2.1 (cS (k : Int) w) (by omega)).1.2.2.2
    have hc : cI (k : Int) w = (cS (k : Int) w : Int) := rfl
    refine ⟨by omega, ?_, by omega⟩
    rw [f2.row 59 (fun _ => rfl), hc, Int.toNat_natCast, hb5, hl]
    omega
  obtain ⟨b3, g1, g2, g3⟩ := laysSoon_s hR
  have f3 : Fr sSb b b3 := f2.trans (sb3 (s86_So g2))
  have hRF : RF b3 G (cnX (k : Int) 8) (cI (k : Int)) (LSn (a 5) (k : Int)) (b 60) := ⟨hR.fr (s86_So g2), g3⟩
  have hsy : syB G (cI (k : Int)) (LSn (a 5) (k : Int)) (b 60) = syS G (a 5) (a 6) (k : Int) := syS_AB hP hn hk hx
  have hv : b3 86 ((0 * 5 + 4) * 22 + 21) = VV (syS G (a 5) (a 6) (k : Int)) (cnX (k : Int) 8) (LSn (a 5) (k : Int)) 0 4 21 := by
    rw [← hsy]
    exact g3 0 4 21 isSt0 (Or.inr ⟨rfl, rfl⟩) (by decide) (by decide)
  obtain ⟨p1, p2⟩ := soonPlace_s (st := 0) (l := 4) (p := 21) (by decide) (by decide) (by decide) b3
  have hle := VV_le (sy := syS G (a 5) (a 6) (k : Int)) (M := cnX (k : Int) 8) (Ln := LSn (a 5) (k : Int)) (st := 0) (l := 4) (p := 21)
  unfold J_X12_soonest_103
  rw [hLC, cll_s, g1, cll_s, show (0 : Int) = ((0 : Nat) : Int) from rfl, show (4 : Int) = ((4 : Nat) : Int) from rfl, show (21 : Int) = ((21 : Nat) : Int) from rfl, p1, cll_s, ald_s (by omega), nmv_s, Int.toNat_natCast, hv]
  unfold ansS
  by_cases hF : VV (syS G (a 5) (a 6) (k : Int)) (cnX (k : Int) 8) (LSn (a 5) (k : Int)) 0 4 21 = 1000000000
  · rw [if_neg (fun z => z hF), if_pos hF]
    exact ⟨b3, rfl, f3⟩
  · rw [if_pos hF, if_neg hF]
    by_cases hw1 : what = -1
    · rw [if_neg (fun z => z hw1), if_pos hw1]
      exact ⟨b3, rfl, f3⟩
    · rw [if_pos hw1, if_neg hw1]
      have hV : VV (syB G (cI (k : Int)) (LSn (a 5) (k : Int)) (b 60)) (cnX (k : Int) 8) (LSn (a 5) (k : Int)) 0 4 21 < 1000000000 := by rw [hsy]; omega
      obtain ⟨b4, q1, q2, q3⟩ := findsWho_s hV hRF
      obtain ⟨b5, r1, r2, r3, r4⟩ := findsGaps_s hV (by omega) q3
      have h16 := rsm16 hR.sy 0
      rw [hsy] at r4
      have r5 := r3.2.2
      rw [hsy] at r5
      have f5 : Fr sSb b b5 := (f3.trans (sb3 (sWh_So q2))).trans (sb3 (sWh_So (sGa_Wh r2)))
      rw [q1, cll_s, r1, cll_s]
      by_cases h2 : 200 ≤ what
      · rw [if_pos h2, if_pos h2, wr_s (by omega), ald_s (by omega), r4 (what - 200).toNat (by omega), gapOf_s, cll_s]
        exact ⟨b5, rfl, f5⟩
      · rw [if_neg h2, if_neg h2, wr_s (by omega), ald_s (by omega), r5 (what - 100).toNat (by omega)]
        have hwl : wqN (syS G (a 5) (a 6) (k : Int)) (cnX (k : Int) 8) (LSn (a 5) (k : Int)) (what - 100).toNat < cnX (k : Int) 8 := by
          rw [← hsy]
          exact ((Rq_i hR.sy hV (what - 100).toNat (by omega)).2 (by omega)).1
        rw [ald_s (by omega), Int.toNat_natCast, r3.1.1.1.2.2.2 _ hwl]
        exact ⟨b5, rfl, f5⟩
theorem s24 {x what : Int} {n : Nat} (hx : 0 ≤ x ∧ x ≤ 2147483647) (hn : n ≤ 8) {b : Mm} (hb : b 54 2 = (n : Int)) (hL : ∀ j, j < 8 → 0 ≤ b 59 j ∧ b 59 j ≤ 4) : ∀ (k i : Nat) (acc : Int) (f : Nat), i + k = n → (0 ≤ acc ∧ acc ≤ 4 * i) → k < f → L_X12_soonest_24 f x what acc (i : Int) b = if what = -1 ∨ (100 ≤ what ∧ what ≤ 99 + (acc + wsm (b 59) x k i)) ∨ (200 ≤ what ∧ what ≤ 199 + (acc + wsm (b 59) x k i)) then J_X12_soonest_103 x what b else some (-3, b) := by
  intro k
  induction k with
  | zero =>
    intro i acc f hi ha hf
    obtain ⟨f', rfl⟩ : ∃ f', f = f' + 1 := ⟨f - 1, by omega⟩
    show LB_X12_soonest_24 (L_X12_soonest_24 f') _ _ _ _ _ = _
    unfold LB_X12_soonest_24
    rw [if_pos (by omega), show wsm (b 59) x 0 i = 0 from rfl, Int.add_zero]
    by_cases h1 : what = -1
    · rw [if_pos h1, if_pos (Or.inl h1)]
    · rw [if_neg h1, lies_s, cll_s, wr_s (by omega)]
      by_cases h2 : 100 ≤ what ∧ what ≤ 99 + acc
      · rw [b2i_t h2, if_pos (by decide), if_pos (Or.inr (Or.inl h2))]
      · rw [b2i_f h2, if_neg (by decide), lies_s, cll_s, wr_s (by omega)]
        by_cases h3 : 200 ≤ what ∧ what ≤ 199 + acc
        · rw [b2i_t h3, if_pos (by decide), if_pos (Or.inr (Or.inr h3))]
        · rw [b2i_f h3, if_neg (by decide), if_neg (by omega)]
  | succ k ih =>
    intro i acc f hi ha hf
    obtain ⟨f', rfl⟩ : ∃ f', f = f' + 1 := ⟨f - 1, by omega⟩
    have hLi := hL i (by omega)
    show LB_X12_soonest_24 (L_X12_soonest_24 f') _ _ _ _ _ = _
    unfold LB_X12_soonest_24
    rw [if_neg (by omega), has2_s hx (by omega), cll_s]
    unfold J_X12_soonest_56
    by_cases hb0 : bit x i = 0
    · rw [if_pos hb0, nmv_s, nmv_s, wr_s (x := acc + 0) (by omega), wr_s (by omega), Int.add_zero, show wsm (b 59) x (k + 1) i = (if bit x i = 0 then 0 else b 59 i) + wsm (b 59) x k (i + 1) from rfl, if_pos hb0, Int.zero_add]
      exact ih (i + 1) acc f' (by omega) (by omega) (by omega)
    · rw [if_neg hb0, ald_s (by omega), nmv_s, nmv_s, Int.toNat_natCast, wr_s (x := acc + b 59 i) (by omega), wr_s (by omega), show wsm (b 59) x (k + 1) i = (if bit x i = 0 then 0 else b 59 i) + wsm (b 59) x k (i + 1) from rfl, if_neg hb0, ← Int.add_assoc acc (b 59 i)]
      exact ih (i + 1) (acc + b 59 i) f' (by omega) (by omega) (by omega)

/-! missed: the reference -/
def MbS (a b : Mm) (G : Tg) (N n : Nat) (ear lg : Int) (L0 : Nat) (gp tl : Nat → Int) : Prop :=
  (InvP a b ∧ GB b G ∧ a 1 5 = (N : Int) ∧ (0 ≤ ear ∧ ear < (N : Int)) ∧ n ≤ 10) ∧ (b 54 55 = (L0 : Int) ∧ b 54 56 = lg) ∧ (∀ i, i < n → b 80 i = gp i ∧ 1 ≤ gp i ∧ gp i ≤ 63) ∧ (∀ i, i ≤ n → b 81 i = tl i)
theorem MbS.fr {a b b' : Mm} {G : Tg} {N n L0 : Nat} {ear lg : Int} {gp tl : Nat → Int} (h : MbS a b G N n ear lg L0 gp tl) (f : Fr sN b b') : MbS a b' G N n ear lg L0 gp tl := by
  obtain ⟨⟨h1, h2, h3, h4, h5⟩, ⟨h6, h6'⟩, h7, h8⟩ := h
  refine ⟨⟨h1.fr (Fr.refl (fun _ _ => false) a) f, h2.frN f, h3, h4, h5⟩, ⟨(f 54 55 rfl).trans h6, (f 54 56 rfl).trans h6'⟩, fun i hi => ?_, fun i hi => ?_⟩
  · rw [f.row 80 (fun _ => rfl)]; exact h7 i hi
  · rw [f.row 81 (fun _ => rfl)]; exact h8 i hi
theorem isMs_l {a : Mm} {G : Tg} {N n L0 mo j w : Nat} {ear lg : Int} {gp tl : Nat → Int} {pt : Nat} (hj : j < n) (hmo : mo < N) (hw : w < N) (hpt : (pt : Int) < gp j) : ∀ (r k : Nat) (b : Mm) (l : Nat) (p : Int) (f : Nat), k + r = n + 1 → MbS a b G N n ear lg L0 gp tl → r < f → ∃ b', L_X12_isMissed_15 f ear (mo : Int) (n : Int) (j : Int) (pt : Int) (w : Int) (l : Int) p (k : Int) b = some (b01 (msF (okB G (fun w => wayA a ear (w : Int)) ear tl) gp mo j (pt : Int) w r k l p), b') ∧ Fr sN b b' := by
  intro r
  induction r with
  | zero =>
    intro k b l p f hk hM hf
    obtain ⟨f', rfl⟩ : ∃ f', f = f' + 1 := ⟨f - 1, by omega⟩
    refine ⟨b, ?_, Fr.refl _ _⟩
    show LB_X12_isMissed_15 (L_X12_isMissed_15 f') _ _ _ _ _ _ _ _ _ _ = _
    unfold LB_X12_isMissed_15
    rw [if_pos (by omega)]
    rfl
  | succ r ih =>
    intro k b l p f hk hM hf
    obtain ⟨f', rfl⟩ : ∃ f', f = f' + 1 := ⟨f - 1, by omega⟩
    have hM' := hM
    obtain ⟨⟨h1, h2, h3, h4, h5⟩, ⟨h6, h6'⟩, h7, h8⟩ := hM
    have hN8 := h1.A.1
    have hgj := h7 j hj
    have hun : L_X12_isMissed_15 (f' + 1) ear (mo : Int) (n : Int) (j : Int) (pt : Int) (w : Int) (l : Int) p (k : Int) b = J_X12_isMissed_98 (L_X12_isMissed_15 f') ear (mo : Int) (n : Int) (j : Int) (pt : Int) (w : Int) (l : Int) p (k : Int) (gq gp j (pt : Int) k) ((wq mo j w k : Nat) : Int) b := by
      show LB_X12_isMissed_15 (L_X12_isMissed_15 f') _ _ _ _ _ _ _ _ _ _ = _
      unfold LB_X12_isMissed_15 J_X12_isMissed_83 gq wq
      rw [if_neg (by omega)]
      by_cases c1 : k < j
      · rw [if_neg (show ¬ (j : Int) ≤ (k : Int) by omega), ald_s (by omega), nmv_s, if_pos (show ¬ (k : Int) = (j : Int) by omega), nmv_s, Int.toNat_natCast, (h7 k (by omega)).1, if_pos c1, if_neg (show ¬ k = j by omega)]
      · rw [if_pos (show (j : Int) ≤ (k : Int) by omega), if_neg c1]
        by_cases c2 : k = j
        · rw [if_neg (show ¬ ¬ (k : Int) = (j : Int) by omega), nmv_s, if_neg (show ¬ ¬ (k : Int) = (j : Int) by omega), nmv_s, if_pos c2, if_pos c2]
        · rw [if_pos (show ¬ (k : Int) = (j : Int) by omega), if_neg c2, if_neg c2, wr_s (x := (j : Int) + 1) (by omega)]
          by_cases c3 : k = j + 1
          · rw [if_neg (show ¬ ¬ (k : Int) = (j : Int) + 1 by omega), ald_s (by omega), nmv_s, if_pos (show ¬ (k : Int) = (j : Int) by omega), nmv_s, Int.toNat_natCast, hgj.1, wr_s (by omega), if_pos c3]
          · rw [if_pos (show ¬ (k : Int) = (j : Int) + 1 by omega), wr_s (x := (k : Int) - 1) (by omega), ald_s (by omega), nmv_s, if_pos (show ¬ (k : Int) = (j : Int) by omega), nmv_s, show ((k : Int) - 1).toNat = k - 1 by omega, (h7 (k - 1) (by omega)).1, if_neg c3]
    rw [hun, msF_s]
    have hwq : wq mo j w k < N := by unfold wq; split <;> omega
    generalize hq : wq mo j w k = q at hwq
    generalize hg : gq gp j (pt : Int) k = g
    obtain ⟨b1, e1, e2, _⟩ := means_s h2 ear g (q : Int) (l : Int) p (wayA a ear (q : Int))
    unfold J_X12_isMissed_98
    rw [ald_s (by omega), Int.toNat_natCast, h8 k (by omega), wayOf_s h1 (by omega) (show 0 ≤ (q : Int) ∧ (q : Int) < a 1 5 by omega), cll_s, e1, cll_s]
    have hok := okB_iff G (fun w => wayA a ear (w : Int)) ear tl k g q l p
    by_cases c : okB G (fun w => wayA a ear (w : Int)) ear tl k g q l p = true
    · have his : F_X12_isAs (tl k) (mn G g (q : Int) (l : Int) p ear (wayA a ear (q : Int))) b1 = some (1, b1) := by
        unfold F_X12_isAs
        rcases hok.mp c with z | z
        · rw [if_pos z]
        · by_cases z2 : tl k = 32
          · rw [if_pos z2]
          · rw [if_neg z2, if_neg (fun y => y z.symm)]
      rw [his, cll_s, if_pos (by decide), nmv_s, nmv_s, nmv_s, wr_s (by omega), c, Bool.true_and]
      obtain ⟨b2, r1, r2⟩ := ih (k + 1) b1 q g f' (by omega) (hM'.fr e2) (by omega)
      exact ⟨b2, r1, e2.trans r2⟩
    · have his : F_X12_isAs (tl k) (mn G g (q : Int) (l : Int) p ear (wayA a ear (q : Int))) b1 = some (0, b1) := by
        unfold F_X12_isAs
        rw [if_neg (fun z => c (hok.mpr (Or.inl z))), if_pos (fun z => c (hok.mpr (Or.inr z.symm)))]
      rw [his, cll_s, if_neg (by decide), show okB G (fun w => wayA a ear (w : Int)) ear tl k g q l p = false from by
        cases hz : okB G (fun w => wayA a ear (w : Int)) ear tl k g q l p with
        | false => rfl
        | true => exact absurd hz c, Bool.false_and]
      exact ⟨b1, rfl, e2⟩
def fsT (what : Int) (s : St4) : Int := if s.1 = 0 then -3 else if ¬ what = 0 then if ¬ what = 1 then s.2.2.2 else s.2.2.1 else s.2.1
abbrev K7 : Type := Int → Int → Int → Int → Int → Int → Int → Mm → Rs
abbrev K8 : Type := Int → Int → Int → Int → Int → Int → Int → Int → Mm → Rs
theorem m240 {K : K7} {K2 : K8} {a : Mm} {G : Tg} {N n L0 mo j pt : Nat} {ear lg what : Int} {gp tl : Nat → Int} (hj : j < n) (hmo : mo < N) (hpt : (pt : Int) < gp j) : ∀ (k w : Nat) (b : Mm) (s : St4) (f : Nat), w + k = N → MbS a b G N n ear lg L0 gp tl → (0 ≤ s.1 ∧ s.1 + k ≤ 100000) → k < f → ∃ b', L_X12_missed_240 K K2 f ear (mo : Int) (n : Int) what s.1 (fsT what s) (j : Int) (pt : Int) (w : Int) b = K2 ear (mo : Int) (n : Int) what (fdW (PF (okB G (fun w => wayA a ear (w : Int)) ear tl) (fun w => wayA a ear (w : Int)) (a 1 6) gp mo L0 n lg j pt) j pt k w s).1 (fsT what (fdW (PF (okB G (fun w => wayA a ear (w : Int)) ear tl) (fun w => wayA a ear (w : Int)) (a 1 6) gp mo L0 n lg j pt) j pt k w s)) (j : Int) ((pt + 1 : Nat) : Int) b' ∧ Fr sN b b' := by
  intro k
  induction k with
  | zero =>
    intro w b s f hw hM hs hf
    obtain ⟨f', rfl⟩ : ∃ f', f = f' + 1 := ⟨f - 1, by omega⟩
    have h2 := hM.1.1.n
    have h3 := hM.1.2.2.1
    have hg := (hM.2.2.1 j hj).2
    refine ⟨b, ?_, Fr.refl _ _⟩
    show LB_X12_missed_240 K K2 (L_X12_missed_240 K K2 f') _ _ _ _ _ _ _ _ _ _ = _
    unfold LB_X12_missed_240 fdW
    rw [if_pos (by omega), nmv_s, wr_s (by omega)]
    rfl
  | succ k ih =>
    intro w b s f hw hM hs hf
    obtain ⟨f', rfl⟩ : ∃ f', f = f' + 1 := ⟨f - 1, by omega⟩
    have h2 := hM.1.1.n
    have h3 := hM.1.2.2.1
    have hN8 := hM.1.1.A.1
    have hg := (hM.2.2.1 j hj).2
    have h4 := hM.1.2.2.2.1
    have h5 := hM.1.2.2.2.2
    have h55 := hM.2.1
    have hnx : ∀ (b1 : Mm) (v : Bool), PF (okB G (fun w => wayA a ear (w : Int)) ear tl) (fun w => wayA a ear (w : Int)) (a 1 6) gp mo L0 n lg j pt w = v → Fr sN b b1 → ∃ b', J_X12_missed_311 K K2 (L_X12_missed_240 K K2 f') ear (mo : Int) (n : Int) what (nt v j pt w s).1 (fsT what (nt v j pt w s)) (j : Int) (pt : Int) (w : Int) b1 = K2 ear (mo : Int) (n : Int) what (fdW (PF (okB G (fun w => wayA a ear (w : Int)) ear tl) (fun w => wayA a ear (w : Int)) (a 1 6) gp mo L0 n lg j pt) j pt (k + 1) w s).1 (fsT what (fdW (PF (okB G (fun w => wayA a ear (w : Int)) ear tl) (fun w => wayA a ear (w : Int)) (a 1 6) gp mo L0 n lg j pt) j pt (k + 1) w s)) (j : Int) ((pt + 1 : Nat) : Int) b' ∧ Fr sN b b' := by
      intro b1 v hv hf1
      have hnt := nt_in (p := v) (i := j) (pt := pt) (w := w) hs.1
      obtain ⟨b', r1, r2⟩ := ih (w + 1) b1 (nt v j pt w s) f' (by omega) (hM.fr hf1) (by omega) (by omega)
      refine ⟨b', ?_, hf1.trans r2⟩
      unfold J_X12_missed_311 fdW
      rw [nmv_s, wr_s (by omega), hv]
      exact r1
    show ∃ b', LB_X12_missed_240 K K2 (L_X12_missed_240 K K2 f') _ _ _ _ _ _ _ _ _ _ = _ ∧ _
    unfold LB_X12_missed_240
    rw [if_neg (by omega), isNear_s hM.1.1 (by omega) (show 0 ≤ (w : Int) ∧ (w : Int) < a 1 5 by omega), cll_s, ib0]
    show ∃ b', (if wayA a ear (w : Int) ≤ a 1 6 then _ else _) = _ ∧ _
    by_cases c : wayA a ear (w : Int) ≤ a 1 6
    · rw [if_pos c]
      obtain ⟨b1, e1, e2⟩ := isMs_l (a := a) (G := G) (L0 := L0) (w := w) (pt := pt) hj hmo (by omega) hpt (n + 1) 0 b L0 lg 100000 (by omega) hM (by omega)
      have hms : F_X12_isMissed ear (mo : Int) (n : Int) (j : Int) (pt : Int) (w : Int) b = some (b01 (msF (okB G (fun w => wayA a ear (w : Int)) ear tl) gp mo j (pt : Int) w (n + 1) 0 L0 lg), b1) := by
        unfold F_X12_isMissed
        rw [nmv_s, nmv_s, nmv_s, h55.1, h55.2]
        exact e1
      rw [hms, cll_s]
      cases hv : msF (okB G (fun w => wayA a ear (w : Int)) ear tl) gp mo j (pt : Int) w (n + 1) 0 L0 lg with
      | false =>
        rw [show b01 false = 0 from rfl, if_neg (by decide)]
        exact hnx b1 false (by unfold PF; rw [hv, Bool.and_false]) e2
      | true =>
        rw [show b01 true = 1 from rfl, if_pos (by decide)]
        obtain ⟨b', r1, r2⟩ := hnx b1 true (by unfold PF; rw [hv, decide_eq_true c]; rfl) e2
        refine ⟨b', ?_, r2⟩
        rw [← r1]
        unfold J_X12_missed_308 nt fsT
        rw [if_pos rfl]
        by_cases h0 : s.1 = 0
        · rw [if_neg (fun z => z h0), if_pos h0]
          show _ = J_X12_missed_311 K K2 (L_X12_missed_240 K K2 f') ear (mo : Int) (n : Int) what (s.1 + 1) (if s.1 + 1 = 0 then -3 else if ¬ what = 0 then if ¬ what = 1 then (w : Int) else (pt : Int) else (j : Int)) (j : Int) (pt : Int) (w : Int) b1
          rw [if_neg (show ¬ s.1 + 1 = 0 by omega)]
          by_cases w0 : what = 0
          · rw [if_neg (fun z => z w0), nmv_s, nmv_s, wr_s (by omega), if_neg (fun z => z w0)]
          · rw [if_pos w0, if_pos w0]
            by_cases w1 : what = 1
            · rw [if_neg (fun z => z w1), nmv_s, nmv_s, wr_s (by omega), if_neg (fun z => z w1)]
            · rw [if_pos w1, nmv_s, nmv_s, wr_s (by omega), if_pos w1]
        · rw [if_pos h0, if_neg h0, if_neg h0, nmv_s, wr_s (by omega)]
          show _ = J_X12_missed_311 K K2 (L_X12_missed_240 K K2 f') ear (mo : Int) (n : Int) what (s.1 + 1) (if s.1 + 1 = 0 then -3 else if ¬ what = 0 then if ¬ what = 1 then s.2.2.2 else s.2.2.1 else s.2.1) (j : Int) (pt : Int) (w : Int) b1
          rw [if_neg (show ¬ s.1 + 1 = 0 by omega)]
    · rw [if_neg c]
      exact hnx b false (by unfold PF; rw [decide_eq_false c, Bool.false_and]) (Fr.refl _ _)
theorem m225 {K : K7} {a : Mm} {G : Tg} {N n L0 mo j : Nat} {ear lg what : Int} {gp tl : Nat → Int} (hj : j < n) (hmo : mo < N) : ∀ (k pt : Nat) (b : Mm) (s : St4) (f : Nat), (pt : Int) + k = gp j → MbS a b G N n ear lg L0 gp tl → (0 ≤ s.1 ∧ s.1 + k * N ≤ 100000) → k < f → ∃ b', L_X12_missed_225 K f ear (mo : Int) (n : Int) what s.1 (fsT what s) (j : Int) (pt : Int) b = K ear (mo : Int) (n : Int) what (fdP (PF (okB G (fun w => wayA a ear (w : Int)) ear tl) (fun w => wayA a ear (w : Int)) (a 1 6) gp mo L0 n lg j) N j k pt s).1 (fsT what (fdP (PF (okB G (fun w => wayA a ear (w : Int)) ear tl) (fun w => wayA a ear (w : Int)) (a 1 6) gp mo L0 n lg j) N j k pt s)) ((j + 1 : Nat) : Int) b' ∧ Fr sN b b' := by
  intro k
  induction k with
  | zero =>
    intro pt b s f hpt hM hs hf
    obtain ⟨f', rfl⟩ : ∃ f', f = f' + 1 := ⟨f - 1, by omega⟩
    have h5 := hM.1.2.2.2.2
    refine ⟨b, ?_, Fr.refl _ _⟩
    show LB_X12_missed_225 K (L_X12_missed_225 K f') _ _ _ _ _ _ _ _ _ = _
    unfold LB_X12_missed_225 fdP
    rw [ald_s (by omega), Int.toNat_natCast, (hM.2.2.1 j hj).1, if_pos (by omega), nmv_s, wr_s (by omega)]
    rfl
  | succ k ih =>
    intro pt b s f hpt hM hs hf
    obtain ⟨f', rfl⟩ : ∃ f', f = f' + 1 := ⟨f - 1, by omega⟩
    have h5 := hM.1.2.2.2.2
    have h3 := hM.1.2.2.1
    have hN8 := hM.1.1.A.1
    have hkN : ((k + 1 : Nat) : Int) * N = k * N + N := by push_cast; rw [Int.add_mul, Int.one_mul]
    have hk0 : 0 ≤ (k : Int) * N := Int.mul_nonneg (by omega) (by omega)
    have hin := fdW_in (P := PF (okB G (fun w => wayA a ear (w : Int)) ear tl) (fun w => wayA a ear (w : Int)) (a 1 6) gp mo L0 n lg j pt) (i := j) (pt := pt) N 0 s hs.1
    obtain ⟨b1, e1, e2⟩ := m240 (K := K) (K2 := L_X12_missed_225 K f') (what := what) (pt := pt) hj hmo (show (pt : Int) < gp j by omega) N 0 b s 100000 (by omega) hM (by omega) (by omega)
    obtain ⟨b2, r1, r2⟩ := ih (pt + 1) b1 (fdW (PF (okB G (fun w => wayA a ear (w : Int)) ear tl) (fun w => wayA a ear (w : Int)) (a 1 6) gp mo L0 n lg j pt) j pt N 0 s) f' (by omega) (hM.fr e2) (by omega) (by omega)
    refine ⟨b2, ?_, e2.trans r2⟩
    unfold fdP
    rw [← r1, ← e1]
    show LB_X12_missed_225 K (L_X12_missed_225 K f') _ _ _ _ _ _ _ _ _ = _
    unfold LB_X12_missed_225
    rw [ald_s (by omega), Int.toNat_natCast, (hM.2.2.1 j hj).1, if_neg (by omega), nmv_s]
    rfl
theorem m216 {a : Mm} {G : Tg} {N n L0 mo : Nat} {ear lg what : Int} {gp tl : Nat → Int} (hmo : mo < N) : ∀ (k j : Nat) (b : Mm) (s : St4) (f : Nat), j + k = n → MbS a b G N n ear lg L0 gp tl → (0 ≤ s.1 ∧ s.1 + 504 * k ≤ 100000) → k < f → ∃ b', L_X12_missed_216 f ear (mo : Int) (n : Int) what s.1 (fsT what s) (j : Int) b = some (if ¬ what = -1 then fsT what (fdI (PF (okB G (fun w => wayA a ear (w : Int)) ear tl) (fun w => wayA a ear (w : Int)) (a 1 6) gp mo L0 n lg) N gp k j s) else (fdI (PF (okB G (fun w => wayA a ear (w : Int)) ear tl) (fun w => wayA a ear (w : Int)) (a 1 6) gp mo L0 n lg) N gp k j s).1, b') ∧ Fr sN b b' := by
  intro k
  induction k with
  | zero =>
    intro j b s f hj hM hs hf
    obtain ⟨f', rfl⟩ : ∃ f', f = f' + 1 := ⟨f - 1, by omega⟩
    refine ⟨b, ?_, Fr.refl _ _⟩
    show LB_X12_missed_216 (L_X12_missed_216 f') _ _ _ _ _ _ _ _ = _
    unfold LB_X12_missed_216 fdI
    rw [if_pos (by omega)]
    by_cases c : what = -1
    · rw [if_neg (fun z => z c), if_neg (fun z => z c)]
    · rw [if_pos c, if_pos c]
  | succ k ih =>
    intro j b s f hj hM hs hf
    obtain ⟨f', rfl⟩ : ∃ f', f = f' + 1 := ⟨f - 1, by omega⟩
    have hgj := (hM.2.2.1 j (by omega)).2
    have h3 := hM.1.2.2.1
    have hN8 := hM.1.1.A.1
    have hb : (((gp j).toNat - 1 : Nat) : Int) * (N : Int) ≤ 504 := by
      have h1 : (((gp j).toNat - 1 : Nat) : Int) * (N : Int) ≤ 63 * (N : Int) := Int.mul_le_mul_of_nonneg_right (by omega) (by omega)
      omega
    have hin := fdP_in (P := PF (okB G (fun w => wayA a ear (w : Int)) ear tl) (fun w => wayA a ear (w : Int)) (a 1 6) gp mo L0 n lg j) (N := N) (i := j) ((gp j).toNat - 1) 1 s hs.1
    obtain ⟨b1, e1, e2⟩ := m225 (K := L_X12_missed_216 f') (what := what) (show j < n by omega) hmo ((gp j).toNat - 1) 1 b s 100000 (by omega) hM (by omega) (by omega)
    obtain ⟨b2, r1, r2⟩ := ih (j + 1) b1 (fdP (PF (okB G (fun w => wayA a ear (w : Int)) ear tl) (fun w => wayA a ear (w : Int)) (a 1 6) gp mo L0 n lg j) N j ((gp j).toNat - 1) 1 s) f' (by omega) (hM.fr e2) (by omega) (by omega)
    refine ⟨b2, ?_, e2.trans r2⟩
    unfold fdI
    rw [← r1, ← e1]
    show LB_X12_missed_216 (L_X12_missed_216 f') _ _ _ _ _ _ _ _ = _
    unfold LB_X12_missed_216
    rw [if_neg (by omega), nmv_s]
    rfl

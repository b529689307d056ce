/-! missed: the class, the rest; the reference -/
def sMk (k i : Nat) : Bool := sM k i || k == 40
theorem frMk {m m' : Mm} (h : Fr sM m m') : Fr sMk m m' := h.mono fun k i e => by
  unfold sMk at e
  cases hs : sM k i with
  | false => rfl
  | true => rw [hs] at e; exact (nomatch e)
theorem MdS.frk {a a' : Mm} {G : Tg} {N n : Nat} {ear rg : Int} {wy gp tl : Nat → Int} (h : MdS a G N n ear rg wy gp tl) (f : Fr sMk a a') : MdS a' G N n ear rg wy gp tl := by
  obtain ⟨⟨h1, h2, h3, h4, h5, h6⟩, ⟨h7, h8, h10⟩, h11, h12⟩ := h
  refine ⟨⟨h1.fr f, h2.fr (f 17 3 rfl) (fun k i g1 g2 => f k i (by
    unfold sMk sM
    simp only [Bool.or_eq_false_iff, Bool.and_eq_false_iff, beq_eq_false_iff_ne]
    omega)), (f 1 5 rfl).trans h3, h4, (f 1 6 rfl).trans h5, fun w => ?_⟩, ⟨(f 34 10 rfl).trans h7, (f 34 11 rfl).trans h8, h10⟩, fun i hi => ?_, fun i hi => ?_⟩
  · rw [wayA_fr f]; exact h6 w
  · rw [f.row 35 (fun _ => rfl)]; exact h11 i hi
  · rw [f.row 36 (fun _ => rfl)]; exact h12 i hi
def b01 (b : Bool) : Int := if b then 1 else 0
theorem judge_l {G : Tg} {N n mo : Nat} {ear rg : Int} {wy gp tl : Nat → Int} (hmo : mo < N) (hm : wy mo ≤ rg) : ∀ (i : Nat) (a : Mm) (f : Nat), i < n ∨ i = 1 → MdS a G N n ear rg wy gp tl → (∀ k, i < k → 2 ≤ k → k ≤ n + 1 → a 40 k = b01 (rsF (okB G wy ear tl) gp mo (n - k) k)) → i < f → ∃ a', L_X5_judgeRest_29 f (mo : Int) (i : Int) a = some (0, a') ∧ Fr sMk a a' ∧ (∀ k, 2 ≤ k → k ≤ n + 1 → a' 40 k = b01 (rsF (okB G wy ear tl) gp mo (n - k) k)) := by
  intro i
  induction i with
  | zero =>
    intro a f hi hM hk hf
    obtain ⟨f', rfl⟩ : ∃ f', f = f' + 1 := ⟨f - 1, by omega⟩
    refine ⟨a, ?_, Fr.refl _ _, fun k h1 h2 => hk k (by omega) h1 h2⟩
    show LB_X5_judgeRest_29 (L_X5_judgeRest_29 f') _ _ _ = _
    unfold LB_X5_judgeRest_29
    rw [if_pos (by decide)]
  | succ i ih =>
    intro a f hi hM hk hf
    obtain ⟨f', rfl⟩ : ∃ f', f = f' + 1 := ⟨f - 1, by omega⟩
    by_cases h1 : i + 1 < 2
    · refine ⟨a, ?_, Fr.refl _ _, fun k g1 g2 => hk k (by omega) g1 g2⟩
      show LB_X5_judgeRest_29 (L_X5_judgeRest_29 f') _ _ _ = _
      unfold LB_X5_judgeRest_29
      rw [if_pos (by omega)]
    · have h10 := hM.2.1.2.2
      have hin : i + 1 < n := by omega
      generalize hok : okB G wy ear tl = ok at *
      have hnext := hk (i + 2) (by omega) (by omega) (by omega)
      have hrs : rsF ok gp mo (n - (i + 1)) (i + 1) = (ok (i + 2) (gp (i + 1)) mo mo (gp i) && rsF ok gp mo (n - (i + 2)) (i + 2)) := by
        rw [show n - (i + 1) = (n - (i + 2)) + 1 by omega]
        rfl
      have hst : ∃ a1, Fr sM a a1 ∧ L_X5_judgeRest_29 (f' + 1) (mo : Int) ((i + 1 : Nat) : Int) a = L_X5_judgeRest_29 f' (mo : Int) (i : Int) (upd2 a1 40 (i + 1) (b01 (rsF ok gp mo (n - (i + 1)) (i + 1)))) := by
        have hun : L_X5_judgeRest_29 (f' + 1) (mo : Int) ((i + 1 : Nat) : Int) a = LB_X5_judgeRest_29 (L_X5_judgeRest_29 f') (mo : Int) ((i + 1 : Nat) : Int) a := Eq.trans rfl rfl
        rw [hun]
        unfold LB_X5_judgeRest_29 J_X5_judgeRest_82
        rw [if_neg (by omega), wr_s (x := ((i + 1 : Nat) : Int) + 1) (by omega), ald_s (by omega), show (((i + 1 : Nat) : Int) + 1).toNat = i + 2 by omega, hnext, hrs]
        by_cases c : rsF ok gp mo (n - (i + 2)) (i + 2) = true
        · rw [c, if_neg (by decide), ald_s (by omega), Int.toNat_natCast, wr_s (x := ((i + 1 : Nat) : Int) - 1) (by omega), ald_s (by omega), show (((i + 1 : Nat) : Int) - 1).toNat = i by omega, (hM.2.2.1 (i + 1) hin).1, (hM.2.2.1 i (by omega)).1]
          obtain ⟨a1, e1, e2⟩ := fitsM hM (i := i + 2) (w := mo) (by omega) hmo (gp (i + 1)) mo (gp i)
          rw [hok] at e1
          rw [show ((i + 1 : Nat) : Int) + 1 = ((i + 2 : Nat) : Int) by omega, e1, cll_s, ib0, Bool.and_true]
          refine ⟨a1, e2, ?_⟩
          by_cases z : ok (i + 2) (gp (i + 1)) mo mo (gp i) = true
          · rw [if_pos ⟨hm, z⟩, ast_s (by omega), nmv_s, Int.toNat_natCast, z, wr_s (by omega), show ((i + 1 : Nat) : Int) + -1 = (i : Int) by omega]
            rfl
          · rw [if_neg (fun y => z y.2), ast_s (by omega), nmv_s, Int.toNat_natCast, wr_s (by omega), show ((i + 1 : Nat) : Int) + -1 = (i : Int) by omega, show ok (i + 2) (gp (i + 1)) mo mo (gp i) = false from by
              cases hz : ok (i + 2) (gp (i + 1)) mo mo (gp i) with
              | false => rfl
              | true => exact absurd hz z]
            rfl
        · have c' : rsF ok gp mo (n - (i + 2)) (i + 2) = false := by
            cases hz : rsF ok gp mo (n - (i + 2)) (i + 2) with
            | false => rfl
            | true => exact absurd hz c
          rw [c', if_pos (by decide), ast_s (by omega), nmv_s, Int.toNat_natCast, wr_s (by omega), show ((i + 1 : Nat) : Int) + -1 = (i : Int) by omega, Bool.and_false]
          exact ⟨a, Fr.refl _ _, rfl⟩
      obtain ⟨a1, o1, o2⟩ := hst
      have hf2 : Fr sMk a (upd2 a1 40 (i + 1) (b01 (rsF ok gp mo (n - (i + 1)) (i + 1)))) := Fr.upd (frMk o1) _ rfl
      obtain ⟨a2, r1, r2, r3⟩ := ih (upd2 a1 40 (i + 1) (b01 (rsF ok gp mo (n - (i + 1)) (i + 1)))) f' (by omega) (hM.frk hf2) (fun k g1 g2 g3 => by
        by_cases e : k = i + 1
        · subst e; rw [u2s]
        · rw [u2n e, o1 40 k rfl]; exact hk k (by omega) g2 g3) (by omega)
      exact ⟨a2, by rw [o2, r1], hf2.trans r2, r3⟩
def PF (ok : Okf) (wy : Nat → Int) (rg : Int) (gp : Nat → Int) (mo L0 n : Nat) (lg : Int) (j pt w : Nat) : Bool := decide (wy w ≤ rg) && msF ok gp mo j (pt : Int) w (n + 1) 0 L0 lg
theorem PF_eq {ok : Okf} {wy : Nat → Int} {rg : Int} {gp : Nat → Int} {mo L0 n : Nat} {lg : Int} {j : Nat} (hj : j < n) (hp : preF ok gp mo L0 lg j = true) (hr : rsF ok gp mo (n - (j + 2)) (j + 2) = true) (pt w : Nat) : PF ok wy rg gp mo L0 n lg j pt w = (onF ok gp mo n j pt && PA ok wy rg gp mo j (lsK L0 mo j) (bfK lg gp j) pt w) := by
  unfold PF PA onF
  rw [ms_all ok gp mo L0 n j lg (pt : Int) w hj, hp, hr]
  cases decide (wy w ≤ rg) <;> cases ok j (pt : Int) w (lsK L0 mo j) (bfK lg gp j) <;> cases ok (j + 1) (gp j - pt) mo w (pt : Int) <;> cases (decide (n ≤ j + 1) || ok (j + 2) (gp (j + 1)) mo mo (gp j - pt)) <;> rfl
theorem PF_f {ok : Okf} {wy : Nat → Int} {rg : Int} {gp : Nat → Int} {mo L0 n : Nat} {lg : Int} {j : Nat} (hj : j < n) (h : preF ok gp mo L0 lg j = false ∨ rsF ok gp mo (n - (j + 2)) (j + 2) = false) (pt w : Nat) : PF ok wy rg gp mo L0 n lg j pt w = false := by
  unfold PF
  rw [ms_all ok gp mo L0 n j lg (pt : Int) w hj]
  rcases h with h | h
  · rw [h]; cases decide (wy w ≤ rg) <;> rfl
  · rw [h]; cases decide (wy w ≤ rg) <;> cases preF ok gp mo L0 lg j <;> cases ok j (pt : Int) w (lsK L0 mo j) (bfK lg gp j) <;> cases ok (j + 1) (gp j - pt) mo w (pt : Int) <;> cases (decide (n ≤ j + 1) || ok (j + 2) (gp (j + 1)) mo mo (gp j - pt)) <;> rfl
theorem ways_l {G : Tg} {N n mo L0 : Nat} {ear rg lg : Int} {wy gp tl : Nat → Int} (hmo : mo < N) (hm : wy mo ≤ rg) : ∀ (k i : Nat) (a : Mm) (s : St4) (f : Nat), i + k = n → MdS a G N n ear rg wy gp tl → Sa a s → (0 ≤ s.1 ∧ s.1 + 504 * k ≤ 100000) → (∀ k, 2 ≤ k → k ≤ n + 1 → a 40 k = b01 (rsF (okB G wy ear tl) gp mo (n - k) k)) → preF (okB G wy ear tl) gp mo L0 lg i = true → k < f →
    ∃ a', L_X5_waysToMiss_23 f (mo : Int) ((lsK L0 mo i : Nat) : Int) (bfK lg gp i) (i : Int) a = some ((fdI (PF (okB G wy ear tl) wy rg gp mo L0 n lg) N gp k i s).1, a') ∧ Sa a' (fdI (PF (okB G wy ear tl) wy rg gp mo L0 n lg) N gp k i s) ∧ Fr sMi a a' := by
  intro k
  induction k with
  | zero =>
    intro i a s f hi hM hS hs hJ hp hf
    obtain ⟨f', rfl⟩ : ∃ f', f = f' + 1 := ⟨f - 1, by omega⟩
    have h7 := hM.2.1.1
    refine ⟨a, ?_, hS, Fr.refl _ _⟩
    show LB_X5_waysToMiss_23 (L_X5_waysToMiss_23 f') _ _ _ _ _ = _
    unfold LB_X5_waysToMiss_23
    rw [if_pos (by omega), hS.1]
    rfl
  | succ k ih =>
    intro i a s f hi hM hS hs hJ hp hf
    obtain ⟨f', rfl⟩ : ∃ f', f = f' + 1 := ⟨f - 1, by omega⟩
    have h7 := hM.2.1.1
    have h10 := hM.2.1.2.2
    have hg := hM.2.2.1 i (by omega)
    have hN8 := hM.1.1.1
    have h3 := hM.1.2.2.1
    generalize hok : okB G wy ear tl = ok at *
    have hJi := hJ (i + 2) (by omega) (by omega)
    -- what is missed within this gap
    have hin := fdP_in (P := PF ok wy rg gp mo L0 n lg i) (N := N) (i := i) ((gp i).toNat - 1) 1 s hs.1
    have hb : (((gp i).toNat - 1 : Nat) : Int) * (N : Int) ≤ 504 := by
      have h1 : (((gp i).toNat - 1 : Nat) : Int) * (N : Int) ≤ 63 * (N : Int) := Int.mul_le_mul_of_nonneg_right (by omega) (by omega)
      omega
    have hW : ∃ a1, Fr sMi a a1 ∧ Sa a1 (fdP (PF ok wy rg gp mo L0 n lg i) N i ((gp i).toNat - 1) 1 s) ∧ a1 40 = a 40 ∧ L_X5_waysToMiss_23 (f' + 1) (mo : Int) ((lsK L0 mo i : Nat) : Int) (bfK lg gp i) (i : Int) a = J_X5_waysToMiss_53 (L_X5_waysToMiss_23 f') (mo : Int) ((lsK L0 mo i : Nat) : Int) (bfK lg gp i) (i : Int) a1 := by
      have hun : L_X5_waysToMiss_23 (f' + 1) (mo : Int) ((lsK L0 mo i : Nat) : Int) (bfK lg gp i) (i : Int) a = LB_X5_waysToMiss_23 (L_X5_waysToMiss_23 f') (mo : Int) ((lsK L0 mo i : Nat) : Int) (bfK lg gp i) (i : Int) a := Eq.trans rfl rfl
      rw [hun]
      unfold LB_X5_waysToMiss_23
      rw [if_neg (by omega), wr_s (x := (i : Int) + 2) (by omega), ald_s (by omega), show ((i : Int) + 2).toNat = i + 2 by omega, hJi]
      by_cases c : rsF ok gp mo (n - (i + 2)) (i + 2) = true
      · rw [c, if_neg (by decide)]
        obtain ⟨a1, e1, e2, e3⟩ := miss3 (l := lsK L0 mo i) (p := bfK lg gp i) (show i < n by omega) hmo hm ((gp i).toNat - 1) 1 a s 100000 (by omega) hM hS (by omega) (by omega) (by omega)
        rw [hok] at e2
        have h40 : a1 40 = a 40 := e3.row 40 (fun _ => rfl)
        refine ⟨a1, e3, ?_, h40, ?_⟩
        · rw [fdP_congr (Q := fun q w => onF ok gp mo n i q && PA ok wy rg gp mo i (lsK L0 mo i) (bfK lg gp i) q w) _ 1 s (fun q _ _ v _ => PF_eq (by omega) hp c q v)]
          exact e2
        · unfold F_X5_missWithin
          rw [show ((1 : Nat) : Int) = 1 from rfl] at e1
          rw [nmv_s, e1, cll_s]
      · have c' : rsF ok gp mo (n - (i + 2)) (i + 2) = false := by
          cases hz : rsF ok gp mo (n - (i + 2)) (i + 2) with
          | false => rfl
          | true => exact absurd hz c
        rw [c', if_pos (by decide)]
        refine ⟨a, Fr.refl _ _, ?_, rfl, rfl⟩
        rw [fdP_id _ 1 s (fun q _ _ v _ => PF_f (by omega) (Or.inr c') q v)]
        exact hS
    obtain ⟨a1, y1, y2, y3, y4⟩ := hW
    rw [y4]
    unfold J_X5_waysToMiss_53 fdI
    have hM1 := hM.fr y1
    obtain ⟨a2, e1, e2⟩ := fitsM hM1 (i := i) (w := mo) (by omega) hmo (gp i) (lsK L0 mo i) (bfK lg gp i)
    rw [hok] at e1
    rw [ald_s (by omega), Int.toNat_natCast, (hM1.2.2.1 i (by omega)).1, e1, cll_s, ibn]
    have hS2 := y2.fr e2
    by_cases c : ok i (gp i) mo (lsK L0 mo i) (bfK lg gp i) = true
    · rw [if_pos ⟨hm, c⟩, nmv_s, ald_s (by omega), nmv_s, nmv_s, Int.toNat_natCast, ((hM1.fr (frMi e2)).2.2.1 i (by omega)).1, wr_s (by omega)]
      have hp1 : preF ok gp mo L0 lg (i + 1) = true := by
        show (preF ok gp mo L0 lg i && ok i (gp i) mo (lsK L0 mo i) (bfK lg gp i)) = true
        rw [hp, c]; rfl
      obtain ⟨a3, r1, r2, r3⟩ := ih (i + 1) a2 _ f' (by omega) (hM1.fr (frMi e2)) hS2 (by omega) (by rw [e2.row 40 (fun _ => rfl), y3]; exact hJ) hp1 (by omega)
      refine ⟨a3, ?_, r2, (y1.trans (frMi e2)).trans r3⟩
      have l1 : lsK L0 mo (i + 1) = mo := by unfold lsK; rw [if_neg (by omega)]
      have l2 : bfK lg gp (i + 1) = gp i := by unfold bfK; rw [if_neg (by omega)]; rfl
      rw [l1, l2] at r1
      exact r1
    · rw [if_neg (fun z => c z.2)]
      have c' : ok i (gp i) mo (lsK L0 mo i) (bfK lg gp i) = false := by
        cases hz : ok i (gp i) mo (lsK L0 mo i) (bfK lg gp i) with
        | false => rfl
        | true => exact absurd hz c
      have hp1 : preF ok gp mo L0 lg (i + 1) = false := by
        show (preF ok gp mo L0 lg i && ok i (gp i) mo (lsK L0 mo i) (bfK lg gp i)) = false
        rw [c', Bool.and_false]
      rw [fdI_id k (i + 1) _ (fun j h1 h2 q v _ => PF_f (by omega) (Or.inl (pre_f hp1 j h1)) q v)]
      exact ⟨a2, by rw [hS2.1], hS2, y1.trans (frMi e2)⟩
def sMw (k i : Nat) : Bool := sM k i || k == 39 || k == 40 || (k == 34 && i == 14)
theorem toMw {S : Nat → Nat → Bool} {m m' : Mm} (h : Fr S m m') (hs : ∀ k i, sMw k i = false → S k i = false) : Fr sMw m m' := h.mono hs
theorem ways_s {G : Tg} {N n mo L0 : Nat} {ear rg lg : Int} {wy gp tl : Nat → Int} {a : Mm} (hn : 1 ≤ n) (hmo : mo < N) (hm : wy mo ≤ rg) (hM : MdS a G N n ear rg wy gp tl) (h12 : a 34 12 = (L0 : Int)) (h13 : a 34 13 = lg) :
    ∃ a', F_X5_waysToMiss (mo : Int) a = some ((fdI (PF (okB G wy ear tl) wy rg gp mo L0 n lg) N gp n 0 (0, 0, 0, 0)).1, a') ∧ Sa a' (fdI (PF (okB G wy ear tl) wy rg gp mo L0 n lg) N gp n 0 (0, 0, 0, 0)) ∧ Fr sMw a a' := by
  have h10 := hM.2.1.2.2
  have h7 := hM.2.1.1
  have f0 : Fr sMi a (upd2 a 34 14 0) := Fr.upd (Fr.refl _ _) _ rfl
  have hM0 := hM.fr f0
  have f1 : Fr sMk (upd2 a 34 14 0) (upd2 (upd2 (upd2 a 34 14 0) 40 (n + 1) 1) 40 n 1) := Fr.upd (Fr.upd (Fr.refl _ _) _ rfl) _ rfl
  have hrs0 : ∀ m, rsF (okB G wy ear tl) gp mo 0 m = true := fun m => rfl
  obtain ⟨a1, e1, e2, e3⟩ := judge_l hmo hm (n - 1) (upd2 (upd2 (upd2 a 34 14 0) 40 (n + 1) 1) 40 n 1) 100000 (by omega) (hM0.frk f1) (fun k g1 g2 g3 => by
    by_cases e : k = n
    · subst e; rw [u2s, Nat.sub_self, hrs0]; rfl
    · have : k = n + 1 := by omega
      subst this
      rw [u2n (by omega), u2s, show n - (n + 1) = 0 by omega, hrs0]; rfl) (by omega)
  have hM1 := (hM0.frk f1).frk e2
  have hS1 : Sa a1 (0, 0, 0, 0) := ⟨by rw [e2 34 14 rfl, u2r (by decide), u2r (by decide), u2s], fun z => absurd rfl z⟩
  obtain ⟨a2, r1, r2, r3⟩ := ways_l (L0 := L0) (lg := lg) hmo hm n 0 a1 (0, 0, 0, 0) 100000 (by omega) hM1 hS1 ⟨by decide, by show (0 : Int) + 504 * (n : Int) ≤ 100000; omega⟩ e3 rfl (by omega)
  refine ⟨a2, ?_, r2, ?_⟩
  · unfold F_X5_waysToMiss F_X5_judgeRest
    rw [stf_s, u2n (by decide), h7, wr_s (by omega), ast_s (by omega), u2r (by decide), u2n (by decide), h7, ast_s (by omega), nmv_s, u2r (by decide), u2r (by decide), u2n (by decide), h7, wr_s (by omega), show ((n : Int) + 1).toNat = n + 1 by omega, Int.toNat_natCast, show (n : Int) - 1 = ((n - 1 : Nat) : Int) by omega, e1, cll_s, nmv_s, nmv_s, nmv_s, e2 34 12 rfl, u2r (by decide), u2r (by decide), u2n (by decide), h12, e2 34 13 rfl, u2r (by decide), u2r (by decide), u2n (by decide), h13]
    exact r1
  · refine ((toMw f0 ?_).trans (toMw (f1.trans e2) ?_)).trans (toMw r3 ?_)
    all_goals
      intro k i e
      unfold sMw at e
      first | unfold sMi | unfold sMk
      simp only [Bool.or_eq_false_iff, Bool.and_eq_false_iff, beq_eq_false_iff_ne] at e ⊢
    · exact ⟨⟨e.1.1.1, e.1.1.2⟩, e.2⟩
    · exact ⟨e.1.1.1, e.1.2⟩
    · exact ⟨⟨e.1.1.1, e.1.1.2⟩, e.2⟩

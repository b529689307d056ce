/-! the class chooses -/
def sCh (k i : Nat) : Bool := k == 44 || (k == 43 && (i == 11 || i == 12))
theorem rsm_s (Ln : Nat → Nat) (st k w : Nat) : rsm Ln st (k + 1) w = (Ln w - dg st w) + rsm Ln st k (w + 1) := Eq.trans rfl rfl
theorem ch17 {kc ks n M S : Nat} {x : Int} {L : Nat → Int} (hx : 0 ≤ x ∧ x ≤ 2147483647) (hn : n ≤ 8) (hM : cnX x n = M) (hM8 : cnX x 8 = M) (hM4 : M ≤ 4) (hL : ∀ j, j < 8 → 0 ≤ L j ∧ L j ≤ 4) (hS : rsm (LSn L x) 0 M 0 = S) (hS16 : S ≤ 16) : ∀ (k i : Nat) (a : Mm) (f T : Nat), i + k = n → a 1 5 = (n : Int) → a 5 = L → a 43 11 = (cnX x i : Int) → a 43 12 = (T : Int) → T + rsm (LSn L x) 0 (M - cnX x i) (cnX x i) = S → (∀ q, q < cnX x i → a 44 q = cI x q) → k < f → ∃ a', L_X1_choose_17 kc ks f x (i : Int) a = J_X1_choose_87 kc ks a' ∧ Fr sCh a a' ∧ a' 43 11 = (M : Int) ∧ a' 43 12 = (S : Int) ∧ ∀ q, q < M → a' 44 q = cI x q := by
  intro k
  induction k with
  | zero =>
    intro i a f T hi h15 h5 h11 h12 hT h44 hf
    obtain ⟨f', rfl⟩ : ∃ f', f = f' + 1 := ⟨f - 1, by omega⟩
    have e : i = n := by omega
    subst e
    rw [hM] at h11 hT h44
    rw [Nat.sub_self] at hT
    have hT' : T = S := hT
    subst hT'
    refine ⟨a, ?_, Fr.refl _ _, h11, h12, h44⟩
    show LB_X1_choose_17 kc ks (L_X1_choose_17 kc ks f') _ _ _ = _
    unfold LB_X1_choose_17
    rw [if_pos (by rw [h15]; omega)]
  | succ k ih =>
    intro i a f T hi h15 h5 h11 h12 hT h44 hf
    obtain ⟨f', rfl⟩ : ∃ f', f = f' + 1 := ⟨f - 1, by omega⟩
    have hmi := cn_mono (x := x) (by omega : i + 1 ≤ n)
    have hcs := cn_s x i
    show ∃ a', LB_X1_choose_17 kc ks (L_X1_choose_17 kc ks f') _ _ _ = _ ∧ _
    unfold LB_X1_choose_17
    rw [if_neg (by rw [h15]; omega)]
    by_cases h4 : 4 ≤ cnX x i
    · have e : cnX x i = M := by
        rcases bit_01 hx (by omega : i < 32) with hb | hb
        · rw [if_pos hb] at hcs; omega
        · rw [if_neg (by omega)] at hcs; omega
      rw [e] at h11 hT h44
      rw [Nat.sub_self] at hT
      have hT' : T = S := hT
      subst hT'
      rw [if_pos (by rw [h11]; omega)]
      exact ⟨a, rfl, Fr.refl _ _, h11, h12, h44⟩
    · rw [if_neg (by rw [h11]; omega)]
      have hstep : ∀ a1 T1, Fr sCh a a1 → a1 43 11 = (cnX x (i + 1) : Int) → a1 43 12 = ((T1 : Nat) : Int) → T1 + rsm (LSn L x) 0 (M - cnX x (i + 1)) (cnX x (i + 1)) = S → (∀ q, q < cnX x (i + 1) → a1 44 q = cI x q) → ∃ a', J_X1_choose_81 kc ks (L_X1_choose_17 kc ks f') x (i : Int) a1 = J_X1_choose_87 kc ks a' ∧ Fr sCh a a' ∧ a' 43 11 = (M : Int) ∧ a' 43 12 = (S : Int) ∧ ∀ q, q < M → a' 44 q = cI x q := by
        intro a1 T1 g1 g2 g3 g4 g5
        obtain ⟨a2, e1, e2, e3⟩ := ih (i + 1) a1 f' T1 (by omega) ((g1 1 5 rfl).trans h15) ((g1.row 5 fun _ => rfl).trans h5) g2 g3 g4 g5 (by omega)
        refine ⟨a2, ?_, g1.trans e2, e3⟩
        unfold J_X1_choose_81
        rw [nmv_s, wr_s (by omega), ← e1]
        rfl
      rcases bit_01 hx (by omega : i < 32) with hb | hb
      · rw [if_pos hb, Nat.add_zero] at hcs
        rw [show iand (ishr x (i : Int)) 1 = 0 from hb, if_pos rfl]
        exact hstep a T (Fr.refl _ _) (by rw [hcs]; exact h11) h12 (by rw [hcs]; exact hT) (by rw [hcs]; exact h44)
      · rw [if_neg (by omega)] at hcs
        have hw := cS_at (x := x) (by omega : i < 8) hb
        have hLi := hL i (by omega)
        have hln : LSn L x (cnX x i) = (L i).toNat := by
          unfold LSn
          rw [if_pos (by omega), hw]
        obtain ⟨dd, hdd⟩ : ∃ dd, M - cnX x i = dd + 1 := ⟨M - cnX x i - 1, by omega⟩
        rw [hdd, rsm_s, dg0, hln] at hT
        have hdd2 : M - cnX x (i + 1) = dd := by omega
        rw [show iand (ishr x (i : Int)) 1 = 1 from hb, if_neg (by decide), h11, ast_s (by omega), Int.toNat_natCast, stf_s, u2r (by decide), h11, wr_s (by omega)]
        have ew := wordsBy_s (m := upd2 (upd2 a 44 (cnX x i) (i : Int)) 43 11 ((cnX x i : Int) + 1)) (by rw [u2r (by decide), u2r (by decide), h15]; omega) (i : Int)
        rw [u2r (by decide), u2r (by decide), u2r (by decide), u2r (by decide), h15, if_pos (by omega), h5, Int.toNat_natCast] at ew
        rw [ew, cll_s, stf_s, u2n (by decide), u2r (by decide), h12, wr_s (by omega), show (T : Int) + L i = ((T + (L i).toNat : Nat) : Int) by omega]
        refine hstep _ (T + (L i).toNat) ((((Fr.refl _ _).upd _ rfl).upd _ rfl).upd _ rfl) ?_ ?_ ?_ ?_
        · rw [u2n (by decide), u2s]; omega
        · rw [u2s]
        · rw [hdd2, hcs]; omega
        · intro q hq
          rw [u2r (by decide), u2r (by decide)]
          by_cases e : q = cnX x i
          · subst e
            rw [u2s]
            unfold cI
            rw [hw]
          · rw [u2n e]
            exact h44 q (by omega)
theorem ch122 {d N : Nat} (hd0 : d = 51 ∨ 95 ≤ d) (hN : N ≤ 60000) : ∀ (k i : Nat) (a : Mm) (f : Nat), i + k = N → isDI a d → a 43 9 = (d : Int) → N ≤ lenA a d → (∀ j, j < i → a d j = -1) → k < f → ∃ a', L_X1_choose_122 f (N : Int) (i : Int) a = some (0, a') ∧ Fr (sD d) a a' ∧ ∀ j, j < N → a' d j = -1 := by
  intro k
  induction k with
  | zero =>
    intro i a f hi hd h9 hl hj hf
    obtain ⟨f', rfl⟩ : ∃ f', f = f' + 1 := ⟨f - 1, by omega⟩
    refine ⟨a, ?_, Fr.refl _ _, fun j h => hj j (by omega)⟩
    show LB_X1_choose_122 (L_X1_choose_122 f') _ _ _ = _
    unfold LB_X1_choose_122
    rw [if_pos (by omega)]
  | succ k ih =>
    intro i a f hi hd h9 hl hj hf
    obtain ⟨f', rfl⟩ : ∃ f', f = f' + 1 := ⟨f - 1, by omega⟩
    have f0 : Fr (sD d) a (upd2 a d i (-1)) := (Fr.refl _ _).upd _ (beq_self_eq_true _)
    obtain ⟨a1, e1, e2, e3⟩ := ih (i + 1) (upd2 a d i (-1)) f' (by omega) (by
      unfold isDI at hd ⊢
      rw [cntD_u2 (by omega)]; exact hd) (by rw [u2r (by omega)]; exact h9) (by rw [lenA_u2 (by omega)]; exact hl) (fun j h => by
      by_cases e : j = i
      · subst e; rw [u2s]
      · rw [u2n e]; exact hj j (by omega)) (by omega)
    refine ⟨a1, ?_, f0.trans e2, e3⟩
    show LB_X1_choose_122 (L_X1_choose_122 f') _ _ _ = _
    unfold LB_X1_choose_122
    rw [if_neg (by omega), h9, Int.toNat_natCast, grd_s hd, ast_s (by omega), Int.toNat_natCast, nmv_s, wr_s (by omega), ← e1]
    rfl
theorem nd_s : ∀ M, M ≤ 4 → wr ((wr (oneF M * (M : Int))) * 21) = (nd M : Int) := by decide +kernel
theorem nd_le (M : Nat) : nd M ≤ 52500 := by unfold nd; split; omega; split; omega; split; omega; split <;> omega
theorem lenA_0 {a a' : Mm} (h : a' 0 = a 0) (d : Nat) : lenA a' d = lenA a d := by unfold lenA; rw [h]
theorem cntD_0 {a a' : Mm} (h : a' 0 = a 0) : cntD a' = cntD a := by unfold cntD; rw [h]
def sCa (k i : Nat) : Bool := k == 44 || (k == 43 && (i == 9 || i == 10 || i == 11 || i == 12)) || k == 0 || k == 51 || decide (95 ≤ k)
theorem choose_s {a : Mm} {n M S k : Nat} {L : Nat → Int} (hk : k < 256) (hn : n ≤ 8) (h15 : a 1 5 = (n : Int)) (h5 : a 5 = L) (hM : cnX (k : Int) n = M) (hM8 : cnX (k : Int) 8 = M) (hM4 : M ≤ 4) (hL : ∀ j, j < 8 → 0 ≤ L j ∧ L j ≤ 4) (hS : rsm (LSn L (k : Int)) 0 M 0 = S) (hS16 : S ≤ 16) (h9 : 0 ≤ a 43 9) (hdi : isDI a (a 43 9).toNat) (h100 : 0 ≤ a 0 100 ∧ a 0 100 < 100000) : ∃ (kc ks : Nat) (a' : Mm) (d : Nat), F_X1_choose kc ks (k : Int) a = some (0, a') ∧ Fr sCa a a' ∧ a' 43 9 = (d : Int) ∧ isDI a' d ∧ nd M ≤ lenA a' d ∧ a' 43 10 = (k : Int) ∧ a' 43 11 = (M : Int) ∧ a' 43 12 = (S : Int) ∧ (∀ q, q < M → a' 44 q = cI (k : Int) q) ∧ (∀ j, j < nd M → a' d j = -1) ∧ ((kc = 0 ∧ ks = 0 ∧ lenA a' d = lenA a (a 43 9).toNat ∧ a' 0 100 = a 0 100) ∨ (kc = 1 ∧ ks = nd M ∧ lenA a' d = nd M ∧ lenA a (a 43 9).toNat < nd M ∧ a' 0 100 = a 0 100 + 1)) := by
  have hxr : 0 ≤ (k : Int) ∧ (k : Int) ≤ 2147483647 := by omega
  have hnl := nd_le M
  obtain ⟨d0, hd0⟩ : ∃ d0 : Nat, a 43 9 = (d0 : Int) := ⟨(a 43 9).toNat, by omega⟩
  rw [hd0, Int.toNat_natCast] at hdi
  rw [hd0, Int.toNat_natCast]
  have hdn := hdi.ne
  have f0 : Fr sCa a (upd2 (upd2 (upd2 a 43 10 (k : Int)) 43 11 0) 43 12 0) := ((((Fr.refl _ _).upd _ rfl).upd _ rfl).upd _ rfl)
  have pre : ∀ kc ks, ∃ a1, F_X1_choose kc ks (k : Int) a = J_X1_choose_87 kc ks a1 ∧ Fr sCa a a1 ∧ a1 0 = a 0 ∧ a1 43 9 = (d0 : Int) ∧ a1 43 10 = (k : Int) ∧ a1 43 11 = (M : Int) ∧ a1 43 12 = (S : Int) ∧ ∀ q, q < M → a1 44 q = cI (k : Int) q := by
    intro kc ks
    obtain ⟨a1, e1, e2, e3, e4, e5⟩ := ch17 (kc := kc) (ks := ks) (L := L) hxr hn hM hM8 hM4 hL hS hS16 n 0 (upd2 (upd2 (upd2 a 43 10 (k : Int)) 43 11 0) 43 12 0) 100000 0 (by omega) (by rw [u2r (by decide), u2r (by decide), u2r (by decide)]; exact h15) (by rw [u2r (by decide), u2r (by decide), u2r (by decide)]; exact h5) (by rw [u2n (by decide)]; exact u2s _ _ _ _) (u2s _ _ _ _) (by rw [show cnX (k : Int) 0 = 0 from rfl, Nat.sub_zero, Nat.zero_add]; exact hS) (fun q hq => absurd hq (Nat.not_lt_zero _)) (by omega)
    refine ⟨a1, ?_, f0.trans (e2.mono fun k i e => ?_), ?_, ?_, ?_, e3, e4, e5⟩
    · rw [show ((0 : Nat) : Int) = 0 from rfl] at e1
      unfold F_X1_choose
      rw [stf_s, stf_s, stf_s, nmv_s]
      exact e1
    · unfold sCa at e
      unfold sCh
      simp only [Bool.or_eq_false_iff, Bool.and_eq_false_iff, beq_eq_false_iff_ne, decide_eq_false_iff_not] at e ⊢
      omega
    · rw [e2.row 0 fun _ => rfl, u2r (by decide), u2r (by decide), u2r (by decide)]
    · rw [e2 43 9 rfl, u2n (by decide), u2n (by decide), u2n (by decide)]; exact hd0
    · rw [e2 43 10 rfl, u2n (by decide), u2n (by decide), u2s]
  have hone : ∀ K, onl (M : Int) K = K (oneF M) := fun K => by
    unfold onl
    rw [if_pos (by omega), Int.toNat_natCast]
  have sDa : ∀ d a a', (d = 51 ∨ 95 ≤ d) → Fr (sD d) a a' → Fr sCa a a' := fun d a a' hd h => h.mono fun k i e => by
    refine sD_n fun z => ?_
    subst z
    unfold sCa at e
    simp only [Bool.or_eq_false_iff, Bool.and_eq_false_iff, beq_eq_false_iff_ne, decide_eq_false_iff_not] at e
    omega
  by_cases hc : nd M ≤ lenA a d0
  · obtain ⟨a1, e1, e2, e3, e4, e5, e6, e7, e8⟩ := pre 0 0
    have hdi1 : isDI a1 d0 := by unfold isDI at hdi ⊢; rw [cntD_0 e3]; exact hdi
    have hl1 := lenA_0 e3 d0
    obtain ⟨a2, g1, g2, g3⟩ := ch122 (d := d0) (N := nd M) hdn (by omega) (nd M) 0 a1 100000 (by omega) hdi1 e4 (by omega) (fun j hj => absurd hj (Nat.not_lt_zero _)) (by omega)
    have h02 : a2 0 = a1 0 := g2.row 0 fun _ => sD_n (by omega)
    refine ⟨0, 0, a2, d0, ?_, e2.trans (sDa d0 _ _ hdn g2), ?_, ?_, ?_, ?_, ?_, ?_, ?_, g3, Or.inl ⟨rfl, rfl, ?_, ?_⟩⟩
    · rw [e1]
      unfold J_X1_choose_87 J_X1_choose_120
      rw [e6, hone, nd_s M hM4, nmv_s, e4, Int.toNat_natCast, grd_s hdi1, if_pos (by omega), grd_s ⟨rfl, rfl⟩, nmv_s, ← g1]
      rfl
    · rw [g2 43 9 (sD_n (by omega))]; exact e4
    · unfold isDI at hdi1 ⊢; rw [cntD_0 h02]; exact hdi1
    · rw [lenA_0 h02]; omega
    · rw [g2 43 10 (sD_n (by omega))]; exact e5
    · rw [g2 43 11 (sD_n (by omega))]; exact e6
    · rw [g2 43 12 (sD_n (by omega))]; exact e7
    · intro q hq; rw [g2 44 q (sD_n (by omega))]; exact e8 q hq
    · rw [lenA_0 h02]; exact hl1
    · rw [h02, e3]
  · obtain ⟨a1, e1, e2, e3, e4, e5, e6, e7, e8⟩ := pre 1 (nd M)
    have hdi1 : isDI a1 d0 := by unfold isDI at hdi ⊢; rw [cntD_0 e3]; exact hdi
    have hl1 := lenA_0 e3 d0
    have hcn : 95 ≤ cntD a1 := by unfold cntD; omega
    have h1001 : 0 ≤ a1 0 100 ∧ a1 0 100 < 100000 := by rw [e3]; exact h100
    have hcn2 : cntD (nwM a1 (nd M : Int)) = cntD a1 + 1 := nwM_cnt h1001.1
    have hln2 : lenA (nwM a1 (nd M : Int)) (cntD a1) = nd M := by
      have h1 : cntD a1 ≠ 0 := by omega
      unfold lenA
      rw [if_neg (by omega)]
      unfold nwM
      rw [if_neg (fun z => h1 z.symm), if_pos rfl]
      unfold upr
      rw [if_pos rfl, Int.toNat_natCast]
    have h0100 : nwM a1 (nd M : Int) 0 100 = a1 0 100 + 1 := by
      have h1 : cntD a1 ≠ 0 := by omega
      unfold nwM
      rw [if_neg (fun z => h1 z.symm), if_pos rfl]
      unfold upr
      rw [if_neg (by omega), if_pos rfl]
    have hold : ∀ k, k ≠ 0 → k < 95 → nwM a1 (nd M : Int) k = a1 k := fun k g1 g2 => by
      unfold nwM
      rw [if_neg (by omega), if_neg g1]
    have fn : Fr sCa a (upd2 (nwM a1 (nd M : Int)) 43 9 ((cntD a1 : Nat) : Int)) := by
      refine Fr.upd ?_ _ rfl
      refine e2.trans fun k i e => ?_
      unfold sCa at e
      simp only [Bool.or_eq_false_iff, Bool.and_eq_false_iff, beq_eq_false_iff_ne, decide_eq_false_iff_not] at e
      rw [hold k (by omega) (by omega)]
    have h00 : upd2 (nwM a1 (nd M : Int)) 43 9 ((cntD a1 : Nat) : Int) 0 = nwM a1 (nd M : Int) 0 := u2r (by decide)
    obtain ⟨a2, g1, g2, g3⟩ := ch122 (d := cntD a1) (N := nd M) (Or.inr hcn) (by omega) (nd M) 0 (upd2 (nwM a1 (nd M : Int)) 43 9 ((cntD a1 : Nat) : Int)) 100000 (by omega) (by
      right
      rw [cntD_0 h00]; omega) (u2s _ _ _ _) (by rw [lenA_0 h00]; omega) (fun j hj => absurd hj (Nat.not_lt_zero _)) (by omega)
    have h02 : a2 0 = nwM a1 (nd M : Int) 0 := (g2.row 0 fun _ => sD_n (by omega)).trans h00
    refine ⟨1, nd M, a2, cntD a1, ?_, fn.trans (sDa _ _ _ (Or.inr hcn) g2), ?_, ?_, ?_, ?_, ?_, ?_, ?_, g3, Or.inr ⟨rfl, rfl, ?_, by omega, ?_⟩⟩
    · rw [e1]
      unfold J_X1_choose_87 J_X1_choose_120
      rw [e6, hone, nd_s M hM4, nmv_s, e4, Int.toNat_natCast, grd_s hdi1, if_neg (by omega)]
      unfold nwa
      rw [if_pos ⟨rfl, (Int.toNat_natCast _).symm, by omega, by omega, h1001.1, h1001.2⟩]
      dsimp only
      rw [stf_s, nmv_s, ← g1]
      rfl
    · rw [g2 43 9 (sD_n (by omega)), u2s]
    · right
      rw [cntD_0 h02]; omega
    · rw [lenA_0 h02]; omega
    · rw [g2 43 10 (sD_n (by omega)), u2n (by decide), hold 43 (by decide) (by decide)]; exact e5
    · rw [g2 43 11 (sD_n (by omega)), u2n (by decide), hold 43 (by decide) (by decide)]; exact e6
    · rw [g2 43 12 (sD_n (by omega)), u2n (by decide), hold 43 (by decide) (by decide)]; exact e7
    · intro q hq; rw [g2 44 q (sD_n (by omega)), u2r (by decide), hold 44 (by decide) (by decide)]; exact e8 q hq
    · rw [lenA_0 h02]; exact hln2
    · rw [h02, h0100, e3]
/-- what was chosen and asked is what the least breaths go by -/
theorem KS_of {a : Mm} {G : Tg} {M d : Nat} {c : Nat → Int} {Ln : Nat → Nat} {W : Nat → Int} (hC : ChS a G M c Ln W) (hA : Ask a G M c Ln W) (h9 : a 43 9 = (d : Int)) (hd : isDI a d) (hl : nd M ≤ lenA a d) : KS a (syB G c Ln W) Ln M d := by
  refine ⟨SyB hC.2.2.1 (fun v hv => (hC.2.2.2.2.1 v hv).2.2.2), hC.2.2.2.1, h9, hd, hl, hA.1, fun l g w st h1 h2 h3 h4 h5 => ?_⟩
  have hE := hA.2.1 l g h1 h2 h3 w h4
  have hLw := (hC.2.2.2.2.1 w h4).2.2.2
  constructor
  · intro h6
    refine (hE (dg st w) h6).1.cong fun n hn => ?_
    by_cases h7 : 1 ≤ n
    · rw [decide_eq_true h7, decide_eq_true (show 1 ≤ n ∧ n < limC 21 (dg st w) from ⟨h7, hn⟩)]
      rfl
    · rw [decide_eq_false h7, decide_eq_false (fun z => h7 z.1)]
      rfl
  · intro n h6 h7 h8
    have h9' : dg st w < Ln w := by
      unfold syB at h8
      rw [Bool.and_eq_true, decide_eq_true_eq] at h8
      exact h8.1
    exact (hE (dg st w) (by omega)).2 n h6 h7 h8

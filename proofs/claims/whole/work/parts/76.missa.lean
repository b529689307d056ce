/-! missed: the class -/
def okB (G : Tg) (wy : Nat → Int) (ear : Int) (tl : Nat → Int) : Okf := fun i g w l p => decide (tl i = 32) || decide (mn G g (w : Int) (l : Int) p ear (wy w) = tl i)
theorem okB_iff (G : Tg) (wy : Nat → Int) (ear : Int) (tl : Nat → Int) (i : Nat) (g : Int) (w l : Nat) (p : Int) : okB G wy ear tl i g w l p = true ↔ tl i = 32 ∨ mn G g (w : Int) (l : Int) p ear (wy w) = tl i := by
  unfold okB
  rw [Bool.or_eq_true, decide_eq_true_eq, decide_eq_true_eq]
def MdS (a : Mm) (G : Tg) (N n : Nat) (ear rg : Int) (wy gp tl : Nat → Int) : Prop :=
  (PpA a ∧ GA a G ∧ a 1 5 = (N : Int) ∧ (0 ≤ ear ∧ ear < (N : Int)) ∧ a 1 6 = rg ∧ ∀ w : Nat, wayA a ear (w : Int) = wy w) ∧ (a 34 10 = (n : Int) ∧ a 34 11 = ear ∧ n ≤ 10) ∧ (∀ i, i < n → a 35 i = gp i ∧ 1 ≤ gp i ∧ gp i ≤ 63) ∧ (∀ i, i ≤ n → a 36 i = tl i)
def sMi (k i : Nat) : Bool := sM k i || k == 39 || (k == 34 && i == 14)
theorem frMi {m m' : Mm} (h : Fr sM m m') : Fr sMi m m' := h.mono fun k i e => by
  unfold sMi at e
  cases hs : sM k i with
  | false => rfl
  | true => rw [hs] at e; exact (nomatch e)
theorem MdS.fr {a a' : Mm} {G : Tg} {N n : Nat} {ear rg : Int} {wy gp tl : Nat → Int} (h : MdS a G N n ear rg wy gp tl) (f : Fr sMi a a') : MdS a' G N n ear rg wy gp tl := by
  obtain ⟨⟨h1, h2, h3, h4, h5, h6⟩, ⟨h7, h8, h10⟩, h11, h12⟩ := h
  refine ⟨⟨h1.fr f, h2.fr (f 17 3 rfl) (fun k i g1 g2 => f k i (by
    unfold sMi sM
    simp only [Bool.or_eq_false_iff, Bool.and_eq_false_iff, beq_eq_false_iff_ne]
    omega)), (f 1 5 rfl).trans h3, h4, (f 1 6 rfl).trans h5, fun w => ?_⟩, ⟨(f 34 10 rfl).trans h7, (f 34 11 rfl).trans h8, h10⟩, fun i hi => ?_, fun i hi => ?_⟩
  · rw [wayA_fr f]; exact h6 w
  · rw [f.row 35 (fun _ => rfl)]; exact h11 i hi
  · rw [f.row 36 (fun _ => rfl)]; exact h12 i hi
theorem fitsM {a : Mm} {G : Tg} {N n : Nat} {ear rg : Int} {wy gp tl : Nat → Int} (h : MdS a G N n ear rg wy gp tl) {i w : Nat} (hi : i ≤ n) (hw : w < N) (g : Int) (l : Nat) (p : Int) : ∃ a', F_X5_fits (i : Int) g (w : Int) (l : Int) p a = some (b2i (wy w ≤ rg ∧ okB G wy ear tl i g w l p = true), a') ∧ Fr sM a a' := by
  obtain ⟨⟨h1, h2, h3, h4, h5, h6⟩, ⟨h7, h8, h10⟩, h11, h12⟩ := h
  obtain ⟨a', e1, e2⟩ := fitsG h1 h2 h8 (by omega) (i := i) (w := w) (by omega) (by omega) g (l : Int) p
  refine ⟨a', ?_, e2⟩
  rw [e1]
  congr 2
  have : (wayA a ear (w : Int) ≤ a 1 6 ∧ (a 36 i = 32 ∨ mn G g (w : Int) (l : Int) p ear (wayA a ear (w : Int)) = a 36 i)) ↔ (wy w ≤ rg ∧ okB G wy ear tl i g w l p = true) := by
    rw [h6 w, h5, h12 i hi, okB_iff]
  unfold b2i
  by_cases c : wy w ≤ rg ∧ okB G wy ear tl i g w l p = true
  · rw [if_pos c, if_pos (this.mpr c)]
  · rw [if_neg c, if_neg (fun z => c (this.mp z))]
def Sa (a : Mm) (s : St4) : Prop := a 34 14 = s.1 ∧ (s.1 ≠ 0 → a 39 0 = s.2.1 ∧ a 39 1 = s.2.2.1 ∧ a 39 2 = s.2.2.2)
theorem Sa.fr {a a' : Mm} {s : St4} (h : Sa a s) (f : Fr sM a a') : Sa a' s := by
  unfold Sa
  rw [f 34 14 rfl, f.row 39 (fun _ => rfl)]
  exact h
theorem note_s {a : Mm} {s : St4} (h : Sa a s) (hs : 0 ≤ s.1 ∧ s.1 ≤ 100000) (i pt w : Nat) : ∃ a', F_X5_note (i : Int) (pt : Int) (w : Int) a = some (0, a') ∧ Sa a' (nt true i pt w s) ∧ Fr sMi a a' := by
  unfold F_X5_note J_X5_note_28 nt
  rw [if_pos rfl, h.1]
  by_cases h0 : s.1 = 0
  · rw [if_neg (fun z => z h0), if_pos h0, ast_s (by decide), ast_s (by decide), ast_s (by decide), stf_s, u2r (by decide), u2r (by decide), u2r (by decide), h.1, wr_s (by omega)]
    refine ⟨_, rfl, ⟨u2s _ _ _ _, fun _ => ?_⟩, Fr.upd (Fr.upd (Fr.upd (Fr.upd (Fr.refl _ _) _ rfl) _ rfl) _ rfl) _ rfl⟩
    rw [u2r (by decide)]
    refine ⟨?_, ?_, ?_⟩
    · rw [show (2 : Int).toNat = 2 from rfl, u2n (by decide), show (1 : Int).toNat = 1 from rfl, u2n (by decide), show (0 : Int).toNat = 0 from rfl, u2s]
    · rw [show (2 : Int).toNat = 2 from rfl, u2n (by decide), show (1 : Int).toNat = 1 from rfl, u2s]
    · rw [show (2 : Int).toNat = 2 from rfl, u2s]
  · rw [if_pos h0, if_neg h0, stf_s, wr_s (by omega)]
    refine ⟨_, rfl, ⟨u2s _ _ _ _, fun _ => ?_⟩, Fr.upd (Fr.refl _ _) _ rfl⟩
    rw [u2r (by decide)]
    exact h.2 h0
abbrev K5' : Type := Int → Int → Int → Int → Int → Mm → Rs
def PA (ok : Okf) (wy : Nat → Int) (rg : Int) (gp : Nat → Int) (mo i l : Nat) (p : Int) (pt w : Nat) : Bool := decide (wy w ≤ rg) && (ok i (pt : Int) w l p && ok (i + 1) (gp i - pt) mo w (pt : Int))
theorem miss67 {K : K5'} {G : Tg} {N n i mo l pt : Nat} {ear rg p : Int} {wy gp tl : Nat → Int} (hi : i < n) (hmo : mo < N) (hm : wy mo ≤ rg) : ∀ (k w : Nat) (a : Mm) (s : St4) (f : Nat), w + k = N → MdS a G N n ear rg wy gp tl → Sa a s → (0 ≤ s.1 ∧ s.1 + k ≤ 100000) → (pt : Int) < gp i → k < f → ∃ a', L_X5_missWithin_67 K f (i : Int) (mo : Int) (l : Int) p (pt : Int) (gp i - pt) 1 (w : Int) a = K (i : Int) (mo : Int) (l : Int) p ((pt + 1 : Nat) : Int) a' ∧ Sa a' (fdW (PA (okB G wy ear tl) wy rg gp mo i l p pt) i pt k w s) ∧ Fr sMi a a' := by
  intro k
  induction k with
  | zero =>
    intro w a s f hw hM hS hs hpt hf
    obtain ⟨f', rfl⟩ : ∃ f', f = f' + 1 := ⟨f - 1, by omega⟩
    have h3 := hM.1.2.2.1
    have hg := (hM.2.2.1 i hi).2
    refine ⟨a, ?_, hS, Fr.refl _ _⟩
    show LB_X5_missWithin_67 K (L_X5_missWithin_67 K f') _ _ _ _ _ _ _ _ _ = _
    unfold LB_X5_missWithin_67 J_X5_missWithin_131
    rw [if_neg (by decide), if_pos (by omega), nmv_s, wr_s (by omega)]
    rfl
  | succ k ih =>
    intro w a s f hw hM hS hs hpt hf
    obtain ⟨f', rfl⟩ : ∃ f', f = f' + 1 := ⟨f - 1, by omega⟩
    have h3 := hM.1.2.2.1
    have hg := (hM.2.2.1 i hi).2
    have h10 := hM.2.1.2.2
    have hN8 := hM.1.1.1
    generalize hok : okB G wy ear tl = ok at *
    obtain ⟨a1, e1, e2⟩ := fitsM hM (i := i) (w := w) (by omega) (by omega) (pt : Int) l p
    rw [hok] at e1
    have hnx : ∀ (a2 : Mm) (b : Bool), PA ok wy rg gp mo i l p pt w = b → Fr sMi a a2 → Sa a2 (nt b i pt w s) → ∃ a', J_X5_missWithin_125 K (L_X5_missWithin_67 K f') (i : Int) (mo : Int) (l : Int) p (pt : Int) (gp i - pt) 1 (w : Int) a2 = K (i : Int) (mo : Int) (l : Int) p ((pt + 1 : Nat) : Int) a' ∧ Sa a' (fdW (PA ok wy rg gp mo i l p pt) i pt (k + 1) w s) ∧ Fr sMi a a' := by
      intro a2 b hb hf2 hS2
      have hnt := nt_in (p := b) (i := i) (pt := pt) (w := w) hs.1
      obtain ⟨a', r1, r2, r3⟩ := ih (w + 1) a2 (nt b i pt w s) f' (by omega) (hM.fr hf2) hS2 (by omega) hpt (by omega)
      refine ⟨a', ?_, ?_, hf2.trans r3⟩
      · unfold J_X5_missWithin_125
        rw [nmv_s, wr_s (by omega)]
        exact r1
      · unfold fdW
        rw [hb]
        exact r2
    show ∃ a', LB_X5_missWithin_67 K (L_X5_missWithin_67 K f') _ _ _ _ _ _ _ _ _ = _ ∧ _
    unfold LB_X5_missWithin_67
    rw [if_neg (by decide), if_neg (by omega), e1, cll_s, ib0]
    by_cases hc : wy w ≤ rg ∧ ok i (pt : Int) w l p = true
    · rw [if_pos hc]
      obtain ⟨a2, d1, d2⟩ := fitsM (hM.fr (frMi e2)) (i := i + 1) (w := mo) (by omega) hmo (gp i - pt) w (pt : Int)
      rw [hok] at d1
      rw [wr_s (x := (i : Int) + 1) (by omega), show (i : Int) + 1 = ((i + 1 : Nat) : Int) from rfl, d1, cll_s, ib0]
      by_cases hc2 : wy mo ≤ rg ∧ ok (i + 1) (gp i - pt) mo w (pt : Int) = true
      · rw [if_pos hc2]
        obtain ⟨a3, n1, n2, n3⟩ := note_s ((hS.fr e2).fr d2) (by omega) i pt w
        rw [n1, cll_s]
        refine hnx a3 true ?_ (((frMi e2).trans (frMi d2)).trans n3) n2
        unfold PA
        rw [decide_eq_true hc.1, hc.2, hc2.2]
        rfl
      · rw [if_neg hc2]
        refine hnx a2 false ?_ ((frMi e2).trans (frMi d2)) ((hS.fr e2).fr d2)
        unfold PA
        rw [show ok (i + 1) (gp i - pt) mo w (pt : Int) = false from by
          cases hz : ok (i + 1) (gp i - pt) mo w (pt : Int) with
          | false => rfl
          | true => exact absurd ⟨hm, hz⟩ hc2, Bool.and_false, Bool.and_false]
    · rw [if_neg hc]
      refine hnx a1 false ?_ (frMi e2) (hS.fr e2)
      unfold PA
      by_cases z : wy w ≤ rg
      · rw [show ok i (pt : Int) w l p = false from by
          cases hz : ok i (pt : Int) w l p with
          | false => rfl
          | true => exact absurd ⟨z, hz⟩ hc, Bool.false_and, Bool.and_false]
      · rw [decide_eq_false z, Bool.false_and]
def onF (ok : Okf) (gp : Nat → Int) (mo n i pt : Nat) : Bool := decide (n ≤ i + 1) || ok (i + 2) (gp (i + 1)) mo mo (gp i - pt)
theorem miss3 {G : Tg} {N n i mo l : Nat} {ear rg p : Int} {wy gp tl : Nat → Int} (hi : i < n) (hmo : mo < N) (hm : wy mo ≤ rg) : ∀ (k pt : Nat) (a : Mm) (s : St4) (f : Nat), (pt : Int) + k = gp i → MdS a G N n ear rg wy gp tl → Sa a s → (0 ≤ s.1 ∧ s.1 + k * N ≤ 100000) → 1 ≤ pt → k < f → ∃ a', L_X5_missWithin_3 f (i : Int) (mo : Int) (l : Int) p (pt : Int) a = some (0, a') ∧ Sa a' (fdP (fun q w => onF (okB G wy ear tl) gp mo n i q && PA (okB G wy ear tl) wy rg gp mo i l p q w) N i k pt s) ∧ Fr sMi a a' := by
  intro k
  induction k with
  | zero =>
    intro pt a s f hpt hM hS hs h1 hf
    obtain ⟨f', rfl⟩ : ∃ f', f = f' + 1 := ⟨f - 1, by omega⟩
    have h10 := hM.2.1.2.2
    refine ⟨a, ?_, hS, Fr.refl _ _⟩
    show LB_X5_missWithin_3 (L_X5_missWithin_3 f') _ _ _ _ _ _ = _
    unfold LB_X5_missWithin_3
    rw [ald_s (by omega), Int.toNat_natCast, (hM.2.2.1 i hi).1, if_pos (by omega)]
  | succ k ih =>
    intro pt a s f hpt hM hS hs h1 hf
    obtain ⟨f', rfl⟩ : ∃ f', f = f' + 1 := ⟨f - 1, by omega⟩
    have h10 := hM.2.1.2.2
    have h7 := hM.2.1.1
    have hg := hM.2.2.1 i hi
    have hN8 := hM.1.1.1
    have h3 := hM.1.2.2.1
    have hkN : ((k + 1 : Nat) : Int) * N = k * N + N := by push_cast; rw [Int.add_mul, Int.one_mul]
    have hk0 : 0 ≤ (k : Int) * N := Int.mul_nonneg (by omega) (by omega)
    generalize hok : okB G wy ear tl = ok at *
    -- whether it goes on
    have hon : ∃ a1, Fr sM a a1 ∧ (if (a 34 10) ≤ (wr ((i : Int) + 1)) then (J_X5_missWithin_57 (L_X5_missWithin_3 f') (i : Int) (mo : Int) (l : Int) p (pt : Int) (gp i - pt) a) else ald a 35 12 (wr ((i : Int) + 1)) (fun x6 => cll (F_X5_fits (wr ((i : Int) + 2)) x6 (mo : Int) (mo : Int) (gp i - pt) a) (fun r7 m8 => if r7 = 0 then nmv 0 (fun x10 => (J_X5_missWithin_64 (L_X5_missWithin_3 f') (i : Int) (mo : Int) (l : Int) p (pt : Int) (gp i - pt) x10 m8)) else (J_X5_missWithin_57 (L_X5_missWithin_3 f') (i : Int) (mo : Int) (l : Int) p (pt : Int) (gp i - pt) m8)))) = J_X5_missWithin_64 (L_X5_missWithin_3 f') (i : Int) (mo : Int) (l : Int) p (pt : Int) (gp i - pt) (if onF ok gp mo n i pt then 1 else 0) a1 := by
      unfold onF
      rw [wr_s (x := (i : Int) + 1) (by omega)]
      by_cases c : n ≤ i + 1
      · rw [if_pos (by omega), decide_eq_true c]
        refine ⟨a, Fr.refl _ _, ?_⟩
        unfold J_X5_missWithin_57
        rw [nmv_s]
        rfl
      · obtain ⟨a1, e1, e2⟩ := fitsM hM (i := i + 2) (w := mo) (by omega) hmo (gp (i + 1)) mo (gp i - pt)
        rw [hok] at e1
        rw [if_neg (by omega), ald_s (by omega), show ((i : Int) + 1).toNat = i + 1 by omega, (hM.2.2.1 (i + 1) (by omega)).1, wr_s (by omega), show (i : Int) + 2 = ((i + 2 : Nat) : Int) from rfl, e1, cll_s, ib0, decide_eq_false c, Bool.false_or]
        refine ⟨a1, e2, ?_⟩
        by_cases z : ok (i + 2) (gp (i + 1)) mo mo (gp i - pt) = true
        · rw [if_pos ⟨hm, z⟩, if_pos z]
          unfold J_X5_missWithin_57
          rw [nmv_s]
        · rw [if_neg (fun y => z y.2), if_neg z, nmv_s]
    obtain ⟨a1, o1, o2⟩ := hon
    have hst : L_X5_missWithin_3 (f' + 1) (i : Int) (mo : Int) (l : Int) p (pt : Int) a = J_X5_missWithin_64 (L_X5_missWithin_3 f') (i : Int) (mo : Int) (l : Int) p (pt : Int) (gp i - pt) (if onF ok gp mo n i pt then 1 else 0) a1 := by
      show LB_X5_missWithin_3 (L_X5_missWithin_3 f') _ _ _ _ _ _ = _
      unfold LB_X5_missWithin_3
      rw [ald_s (by omega), Int.toNat_natCast, hg.1, if_neg (by omega), ald_s (by omega), Int.toNat_natCast, hg.1, nmv_s, wr_s (x := gp i - (pt : Int)) (by omega)]
      exact o2
    rw [hst]
    unfold fdP J_X5_missWithin_64
    rw [nmv_s]
    have hin := fdW_in (P := fun w => onF ok gp mo n i pt && PA ok wy rg gp mo i l p pt w) (i := i) (pt := pt) N 0 s hs.1
    by_cases c : onF ok gp mo n i pt = true
    · rw [if_pos c]
      obtain ⟨a2, r1, r2, r3⟩ := miss67 (K := L_X5_missWithin_3 f') (l := l) (p := p) (pt := pt) hi hmo hm N 0 a1 s 100000 (by omega) (hM.fr (frMi o1)) (hS.fr o1) (by omega) (by omega) (by omega)
      rw [hok] at r2
      rw [show ((0 : Nat) : Int) = 0 from rfl] at r1
      rw [fdW_congr (P := fun w => onF ok gp mo n i pt && PA ok wy rg gp mo i l p pt w) (Q := PA ok wy rg gp mo i l p pt) N 0 s (fun v _ _ => by
        show (onF ok gp mo n i pt && PA ok wy rg gp mo i l p pt v) = _
        rw [c, Bool.true_and])] at hin ⊢
      obtain ⟨a3, t1, t2, t3⟩ := ih (pt + 1) a2 _ f' (by omega) ((hM.fr (frMi o1)).fr r3) r2 (by omega) (by omega) (by omega)
      exact ⟨a3, by rw [r1, t1], t2, ((frMi o1).trans r3).trans t3⟩
    · rw [if_neg c]
      have hc : onF ok gp mo n i pt = false := by
        cases hz : onF ok gp mo n i pt with
        | false => rfl
        | true => exact absurd hz c
      rw [fdW_id (P := fun w => onF ok gp mo n i pt && PA ok wy rg gp mo i l p pt w) N 0 s (fun v _ _ => by
        show (onF ok gp mo n i pt && PA ok wy rg gp mo i l p pt v) = false
        rw [hc, Bool.false_and])]
      obtain ⟨a3, t1, t2, t3⟩ := ih (pt + 1) a1 s f' (by omega) (hM.fr (frMi o1)) (hS.fr o1) (by omega) (by omega) (by omega)
      refine ⟨a3, ?_, t2, (frMi o1).trans t3⟩
      rw [← t1]
      show LB_X5_missWithin_67 _ (L_X5_missWithin_67 _ 99999) _ _ _ _ _ _ _ _ _ = _
      unfold LB_X5_missWithin_67 J_X5_missWithin_131
      rw [if_pos rfl, nmv_s, wr_s (by omega)]
      rfl

/-! the least breaths: the reference's table -/
def mnF (f : Nat → Int) : Nat → Nat → Int → Int
  | 0, _, acc => acc
  | k + 1, i, acc => mnF f k (i + 1) (min acc (f i))
def mnW (c : Nat → Nat → Int) (g0 gk : Nat) : Nat → Nat → Int → Int
  | 0, _, acc => acc
  | k + 1, w, acc => mnW c g0 gk k (w + 1) (mnF (c w) gk g0 acc)
theorem mnF_le {f : Nat → Int} : ∀ k i acc, mnF f k i acc ≤ acc ∧ ∀ j, i ≤ j → j < i + k → mnF f k i acc ≤ f j := by
  intro k
  induction k with
  | zero => intro i acc; exact ⟨Int.le_refl _, fun j h1 h2 => by omega⟩
  | succ k ih =>
    intro i acc
    obtain ⟨h1, h2⟩ := ih (i + 1) (min acc (f i))
    unfold mnF
    refine ⟨by omega, fun j g1 g2 => ?_⟩
    by_cases e : j = i
    · subst e; omega
    · exact h2 j (by omega) (by omega)
theorem mnF_or {f : Nat → Int} : ∀ k i acc, mnF f k i acc = acc ∨ ∃ j, i ≤ j ∧ j < i + k ∧ mnF f k i acc = f j := by
  intro k
  induction k with
  | zero => intro i acc; exact Or.inl rfl
  | succ k ih =>
    intro i acc
    unfold mnF
    rcases ih (i + 1) (min acc (f i)) with h | ⟨j, h1, h2, h3⟩
    · by_cases c : acc ≤ f i
      · left; rw [h]; omega
      · right; exact ⟨i, by omega, by omega, by rw [h]; omega⟩
    · exact Or.inr ⟨j, by omega, by omega, h3⟩
theorem mnW_le {c : Nat → Nat → Int} {g0 gk : Nat} : ∀ k w acc, mnW c g0 gk k w acc ≤ acc ∧ ∀ v, w ≤ v → v < w + k → ∀ g, g0 ≤ g → g < g0 + gk → mnW c g0 gk k w acc ≤ c v g := by
  intro k
  induction k with
  | zero => intro w acc; exact ⟨Int.le_refl _, fun v h1 h2 => by omega⟩
  | succ k ih =>
    intro w acc
    obtain ⟨h1, h2⟩ := ih (w + 1) (mnF (c w) gk g0 acc)
    obtain ⟨h3, h4⟩ := mnF_le (f := c w) gk g0 acc
    unfold mnW
    refine ⟨by omega, fun v g1 g2 g g3 g4 => ?_⟩
    by_cases e : v = w
    · subst e; have := h4 g g3 g4; omega
    · exact h2 v (by omega) (by omega) g g3 g4
theorem mnW_or {c : Nat → Nat → Int} {g0 gk : Nat} : ∀ k w acc, mnW c g0 gk k w acc = acc ∨ ∃ v g, w ≤ v ∧ v < w + k ∧ g0 ≤ g ∧ g < g0 + gk ∧ mnW c g0 gk k w acc = c v g := by
  intro k
  induction k with
  | zero => intro w acc; exact Or.inl rfl
  | succ k ih =>
    intro w acc
    unfold mnW
    rcases ih (w + 1) (mnF (c w) gk g0 acc) with h | ⟨v, g, h1, h2, h3, h4, h5⟩
    · rcases mnF_or (f := c w) gk g0 acc with h6 | ⟨j, h6, h7, h8⟩
      · left; rw [h, h6]
      · right; exact ⟨w, j, by omega, by omega, h6, h7, by rw [h, h8]⟩
    · exact Or.inr ⟨v, g, by omega, by omega, h3, h4, h5⟩
def cdV (s : Bool) (cost child : Int) : Int := if s = true ∧ child < 1000000000 then cost + child else 1000000000
abbrev Syf : Type := Nat → Nat → Nat → Nat → Nat → Bool
def Vm (sy : Syf) (M : Nat) : Nat → Nat → Nat → Nat → Int
  | 0, _, _, _ => 0
  | r + 1, st, l, p => mnW (fun w g => cdV (sy st l p w g) (g : Int) (Vm sy M r (st + fiv w) w g)) 1 20 M 0 1000000000
theorem Vm_s (sy : Syf) (M r st l p : Nat) : Vm sy M (r + 1) st l p = mnW (fun w g => cdV (sy st l p w g) (g : Int) (Vm sy M r (st + fiv w) w g)) 1 20 M 0 1000000000 := Eq.trans rfl rfl
theorem Vm_in (sy : Syf) (M : Nat) : ∀ r st l p, (Vm sy M r st l p = 1000000000) ∨ ((r : Int) ≤ Vm sy M r st l p ∧ Vm sy M r st l p ≤ 20 * r) := by
  intro r
  induction r with
  | zero => intro st l p; exact Or.inr ⟨by show (0 : Int) ≤ 0; decide, by show (0 : Int) ≤ 20 * ((0 : Nat) : Int); decide⟩
  | succ r ih =>
    intro st l p
    rw [Vm_s]
    rcases mnW_or (c := fun w g => cdV (sy st l p w g) (g : Int) (Vm sy M r (st + fiv w) w g)) (g0 := 1) (gk := 20) M 0 1000000000 with h | ⟨v, g, h1, h2, h3, h4, h5⟩
    · exact Or.inl h
    · rw [h5]
      have hd : ∀ x, x = cdV (sy st l p v g) (g : Int) (Vm sy M r (st + fiv v) v g) → (x = 1000000000 ∨ (((r + 1 : Nat) : Int) ≤ x ∧ x ≤ 20 * ((r + 1 : Nat) : Int))) := by
        intro x hx
        unfold cdV at hx
        by_cases hc : sy st l p v g = true ∧ Vm sy M r (st + fiv v) v g < 1000000000
        · rw [if_pos hc] at hx
          rcases ih (st + fiv v) v g with z | z
          · omega
          · omega
        · rw [if_neg hc] at hx
          exact Or.inl hx
      exact hd _ rfl
def rsm (Ln : Nat → Nat) (st : Nat) : Nat → Nat → Nat
  | 0, _ => 0
  | k + 1, w => (Ln w - dg st w) + rsm Ln st k (w + 1)
theorem rsm_add {Ln : Nat → Nat} {st w : Nat} (hs : st < 625) (hw : w < 4) (hd : dg st w < Ln w) (h4 : Ln w ≤ 4) : ∀ k v, v + k ≤ 4 → (v ≤ w ∧ w < v + k → rsm Ln st k v = rsm Ln (st + fiv w) k v + 1) ∧ (¬ (v ≤ w ∧ w < v + k) → rsm Ln st k v = rsm Ln (st + fiv w) k v) := by
  obtain ⟨_, ha⟩ := dg_add st hs w hw (by omega)
  intro k
  induction k with
  | zero => intro v _; exact ⟨fun h => by omega, fun _ => rfl⟩
  | succ k ih =>
    intro v hv
    obtain ⟨i1, i2⟩ := ih (v + 1) (by omega)
    have hav := ha v (by omega)
    unfold rsm
    constructor
    · intro h
      by_cases e : v = w
      · subst e
        rw [if_pos rfl] at hav
        rw [i2 (by omega), hav]
        omega
      · rw [if_neg e] at hav
        rw [i1 (by omega), hav]
        omega
    · intro h
      rw [if_neg (by omega)] at hav
      rw [i2 (by omega), hav]
theorem rsm_0 {Ln : Nat → Nat} {st : Nat} : ∀ k w, dnB Ln st k w = true → rsm Ln st k w = 0 := by
  intro k
  induction k with
  | zero => intro w _; rfl
  | succ k ih =>
    intro w h
    unfold dnB at h
    rw [Bool.and_eq_true, decide_eq_true_eq] at h
    unfold rsm
    rw [ih (w + 1) h.2, h.1]
    omega
theorem rsm_p {Ln : Nat → Nat} {st : Nat} : ∀ k w, (∀ v, w ≤ v → v < w + k → dg st v ≤ Ln v) → dnB Ln st k w = false → 0 < rsm Ln st k w := by
  intro k
  induction k with
  | zero => intro w _ h; exact (nomatch h)
  | succ k ih =>
    intro w hle h
    unfold rsm
    by_cases e : dg st w = Ln w
    · unfold dnB at h
      rw [decide_eq_true e, Bool.true_and] at h
      have := ih (w + 1) (fun v h1 h2 => hle v (by omega) (by omega)) h
      omega
    · have := hle w (Nat.le_refl _) (by omega)
      omega
def spN (st l p : Nat) : Nat := (st * 5 + l) * 22 + p
/-- a state of the crowd -/
def isSt (Ln : Nat → Nat) (M st : Nat) : Prop := st < 625 ∧ ∀ w, w < 4 → dg st w ≤ if w < M then Ln w else 0
theorem isSt_add {Ln : Nat → Nat} {M st w : Nat} (hM : M ≤ 4) (hLn : ∀ v, v < M → Ln v ≤ 4) (h : isSt Ln M st) (hw : w < M) (hd : dg st w < Ln w) : isSt Ln M (st + fiv w) ∧ rsm Ln st M 0 = rsm Ln (st + fiv w) M 0 + 1 := by
  have h4 := hLn w hw
  obtain ⟨a1, a2⟩ := dg_add st h.1 w (by omega) (by omega)
  refine ⟨⟨a1, fun v hv => ?_⟩, (rsm_add h.1 (by omega) hd h4 M 0 (by omega)).1 (by omega)⟩
  rw [a2 v hv]
  have := h.2 v hv
  by_cases e : v = w
  · subst e; rw [if_pos rfl, if_pos hw]; omega
  · rw [if_neg e]; exact this
theorem fiv_pos (w : Nat) : 0 < fiv w := by unfold fiv; split; decide; split; decide; split <;> decide
/-- the table from state s0 on -/
def SoT (b : Mm) (sy : Syf) (Ln : Nat → Nat) (M s0 : Nat) : Prop := ∀ st l p, s0 ≤ st → 0 < st → isSt Ln M st → l < M → 1 ≤ p → p < 22 → b 86 (spN st l p) = Vm sy M (rsm Ln st M 0) st l p
theorem ls109 {K1 : Int → Mm → Rs} {K2 : Int → Int → Int → Mm → Rs} {K3' : Int → Int → Int → Int → Mm → Rs} {K4' : Int → Int → Int → Int → Int → Int → Int → Mm → Rs} {G : Tg} {M st l p w E : Nat} {c : Nat → Int} {Ln : Nat → Nat} {fi done : Int} {b : Mm} (hst : isSt Ln M st) (hC : CwS b G M c) (hL : LnS b M c Ln) (hT : TbM b G c M 9680) (hS : SoT b (syB G c Ln (b 60)) Ln M (st + 1)) (hw : w < M) (hl : l < M ∨ l = 4) (hp : 1 ≤ p ∧ p < 22) (hE : (fi = 0 ∧ E = 21) ∨ (fi = 1 ∧ E = 22)) : ∀ (k g : Nat) (best : Int) (f : Nat), g + k = E → 1 ≤ g → (0 ≤ best ∧ best ≤ 1000000000) → k < f → L_X12_laysSoon_109 K1 K2 K3' K4' f (st : Int) done (l : Int) (p : Int) best fi (w : Int) (g : Int) b = K4' (st : Int) done (l : Int) (p : Int) (mnF (fun g => cdV (syB G c Ln (b 60) st l p w g) (if g = 21 then 0 else (g : Int)) (Vm (syB G c Ln (b 60)) M (rsm Ln (st + fiv w) M 0) (st + fiv w) w g)) k g best) fi ((w + 1 : Nat) : Int) b := by
  have hM := hC.2.1
  intro k
  induction k with
  | zero =>
    intro g best f hg h1 hb hf
    obtain ⟨f', rfl⟩ : ∃ f', f = f' + 1 := ⟨f - 1, by omega⟩
    show LB_X12_laysSoon_109 K1 K2 K3' K4' (L_X12_laysSoon_109 K1 K2 K3' K4' f') _ _ _ _ _ _ _ _ _ = _
    unfold LB_X12_laysSoon_109 J_X12_laysSoon_202
    rcases hE with ⟨e1, e2⟩ | ⟨e1, e2⟩
    · rw [if_pos e1, if_pos (by omega), nmv_s, wr_s (by omega)]
      rfl
    · rw [if_neg (by omega), if_pos (by omega), nmv_s, wr_s (by omega)]
      rfl
  | succ k ih =>
    intro g best f hg h1 hb hf
    obtain ⟨f', rfl⟩ : ∃ f', f = f' + 1 := ⟨f - 1, by omega⟩
    have ho : okM M w g l p := ⟨hw, by omega, hl, hp⟩
    have hsy := says_s hst.1 hC hL hT ho
    generalize hsg : syB G c Ln (b 60) = sy at *
    have hun : L_X12_laysSoon_109 K1 K2 K3' K4' (f' + 1) (st : Int) done (l : Int) (p : Int) best fi (w : Int) (g : Int) b = J_X12_laysSoon_126 K1 K2 K3' K4' (L_X12_laysSoon_109 K1 K2 K3' K4' f') (st : Int) done (l : Int) (p : Int) best fi (w : Int) (g : Int) b := by
      show LB_X12_laysSoon_109 K1 K2 K3' K4' (L_X12_laysSoon_109 K1 K2 K3' K4' f') _ _ _ _ _ _ _ _ _ = _
      unfold LB_X12_laysSoon_109
      rcases hE with ⟨e1, e2⟩ | ⟨e1, e2⟩
      · rw [if_pos e1, if_neg (by omega)]
      · rw [if_neg (by omega), if_neg (by omega)]
    have hnx : ∀ v, v = min best (cdV (sy st l p w g) (if g = 21 then 0 else (g : Int)) (Vm sy M (rsm Ln (st + fiv w) M 0) (st + fiv w) w g)) → 0 ≤ v → J_X12_laysSoon_196 K1 K2 K3' K4' (L_X12_laysSoon_109 K1 K2 K3' K4' f') (st : Int) done (l : Int) (p : Int) v fi (w : Int) (g : Int) b = K4' (st : Int) done (l : Int) (p : Int) (mnF (fun g => cdV (sy st l p w g) (if g = 21 then 0 else (g : Int)) (Vm sy M (rsm Ln (st + fiv w) M 0) (st + fiv w) w g)) (k + 1) g best) fi ((w + 1 : Nat) : Int) b := by
      intro v hv hv0
      unfold J_X12_laysSoon_196 mnF
      rw [nmv_s, wr_s (by omega)]
      show L_X12_laysSoon_109 K1 K2 K3' K4' f' (st : Int) done (l : Int) (p : Int) v fi (w : Int) ((g + 1 : Nat) : Int) b = _
      rw [ih (g + 1) v f' (by omega) (by omega) (by omega) (by omega), hv]
    rw [hun]
    unfold J_X12_laysSoon_126
    rw [hsy, cll_s]
    have hcost : 0 ≤ (if g = 21 then (0 : Int) else (g : Int)) ∧ (if g = 21 then (0 : Int) else (g : Int)) ≤ 22 := by split <;> omega
    cases hs : sy st l p w g with
    | false =>
      rw [show b01 false = 0 from rfl, if_neg (by decide)]
      refine hnx best ?_ hb.1
      unfold cdV
      rw [hs, if_neg (fun z => by exact (nomatch z.1))]
      omega
    | true =>
      have hd : dg st w < Ln w := by
        have hs' := hs
        rw [← hsg] at hs'
        unfold syB at hs'
        rw [Bool.and_eq_true, decide_eq_true_eq] at hs'
        exact hs'.1
      obtain ⟨a1, a2⟩ := isSt_add hM (fun v hv => (hL v hv).2.2) hst hw hd
      have hfp := fiv_pos w
      have hV := hS (st + fiv w) w g (by omega) (by omega) a1 hw h1 (by omega)
      obtain ⟨s1, s2⟩ := soonPlace_s (st := st + fiv w) (l := w) (p := g) a1.1 (by omega) (by omega) b
      rw [show b01 true = 1 from rfl, if_pos (by decide), fives_s (by omega), cll_s, wr_s (x := (st : Int) + (fiv w : Int)) (by have := a1.1; omega), show (st : Int) + (fiv w : Int) = ((st + fiv w : Nat) : Int) by omega, s1, cll_s, ald_s (by omega), nmv_s, Int.toNat_natCast]
      have hV' : b 86 (((st + fiv w) * 5 + w) * 22 + g) = Vm sy M (rsm Ln (st + fiv w) M 0) (st + fiv w) w g := hV
      rw [hV']
      have hin := Vm_in sy M (rsm Ln (st + fiv w) M 0) (st + fiv w) w g
      have hrb : rsm Ln (st + fiv w) M 0 ≤ 16 := by
        have : ∀ k v, (∀ u, v ≤ u → u < v + k → Ln u ≤ 4) → rsm Ln (st + fiv w) k v ≤ 4 * k := by
          intro k
          induction k with
          | zero => intro v _; exact Nat.le_refl _
          | succ k ih2 =>
            intro v hu
            have h1 := ih2 (v + 1) (fun u g1 g2 => hu u (by omega) (by omega))
            have h2 := hu v (Nat.le_refl _) (by omega)
            unfold rsm
            omega
        have := this M 0 (fun u _ hu => (hL u (by omega)).2.2)
        omega
      generalize hVv : Vm sy M (rsm Ln (st + fiv w) M 0) (st + fiv w) w g = V at *
      rcases hin with z | z
      · rw [if_pos (by omega)]
        refine hnx best ?_ hb.1
        unfold cdV
        rw [if_neg (by omega)]
        omega
      · rw [if_neg (by omega), costOf_s, cll_s, wr_s (x := (if g = 21 then (0 : Int) else (g : Int)) + V) (by omega)]
        by_cases hle : best ≤ (if g = 21 then (0 : Int) else (g : Int)) + V
        · rw [if_pos hle]
          refine hnx best ?_ hb.1
          unfold cdV
          rw [hs, if_pos (show true = true ∧ V < 1000000000 from ⟨rfl, by omega⟩)]
          omega
        · rw [if_neg hle, costOf_s, cll_s, nmv_s, wr_s (by omega)]
          refine hnx _ ?_ (by omega)
          unfold cdV
          rw [hs, if_pos (show true = true ∧ V < 1000000000 from ⟨rfl, by omega⟩)]
          omega

/-! what the word means: ear, crowd, wish -/
def ev (g w l p ear way k a f : Int) (i : Nat) : Int := if i = 0 then g else if i = 1 then w else if i = 2 then l else if i = 3 then p else if i = 4 then (if ¬ w = l then 0 else 1) else if i = 5 then way else if i = 6 then ear else if i = 7 then k else if i = 8 then a else if i = 9 then f else 0
def mn (G : Tg) (g w l p ear way : Int) : Int := tellF G 109 31 (ev g w l p ear way 0 0 0) G.1 0
theorem mn_in (G : Tg) (g w l p ear way : Int) : 0 ≤ mn G g w l p ear way ∧ mn G g w l p ear way ≤ 31 := tellF_in G 109 _ (by decide) _ _
def wsh (G : Tg) (g w l p k a : Int) : Int := tellF G 114 1000 (ev g w l p w 0 k a (if mn G g w l p w 0 = a then 1 else 0)) G.1 0
def sM (k i : Nat) : Bool := k == 18 || k == 19 || (k == 17 && i == 5)
theorem frEM {m m' : Mm} (h : Fr sE m m') : Fr sM m m' := h.mono fun k i e => by
  unfold sM at e; unfold sE
  cases h1 : (k == 18) <;> cases h2 : (k == 19) <;> cases h3 : (k == 17 && i == 5) <;> simp_all
theorem GA.frM {m m' : Mm} {G : Tg} (h : GA m G) (hf : Fr sM m m') : GA m' G := by
  refine h.fr (hf 17 3 rfl) (fun k i h1 h2 => hf k i ?_)
  unfold sM
  rw [show (k == 18) = false from beq_eq_false_iff_ne.mpr (by omega), show (k == 19) = false from beq_eq_false_iff_ne.mpr (by omega), show (k == 17) = false from beq_eq_false_iff_ne.mpr (by omega)]
  rfl
theorem set_s (g w l p ear way : Int) (m : Mm) : ∃ m', F_X7_set g w l p ear way m = some (0, m') ∧ Fr sM m m' ∧ evA m' = ev g w l p ear way 0 0 0 := by
  have key : ∀ s : Int, (s = if ¬ w = l then 0 else 1) → ∃ m', J_X7_set_45 ear way (upd2 (upd2 (upd2 (upd2 (upd2 m 18 0 g) 18 1 w) 18 2 l) 18 3 p) 18 4 s) = some (0, m') ∧ Fr sM m m' ∧ evA m' = ev g w l p ear way 0 0 0 := by
    intro s hs
    refine ⟨upd2 (upd2 (upd2 (upd2 (upd2 (upd2 (upd2 (upd2 (upd2 (upd2 m 18 0 g) 18 1 w) 18 2 l) 18 3 p) 18 4 s) 18 5 way) 18 6 ear) 18 7 0) 18 8 0) 18 9 0, ?_, ?_, ?_⟩
    · unfold J_X7_set_45
      rw [ast_s (by decide), ast_s (by decide), ast_s (by decide), ast_s (by decide), ast_s (by decide)]
      rfl
    · exact Fr.upd (Fr.upd (Fr.upd (Fr.upd (Fr.upd (Fr.upd (Fr.upd (Fr.upd (Fr.upd (Fr.upd (Fr.refl _ _) _ rfl) _ rfl) _ rfl) _ rfl) _ rfl) _ rfl) _ rfl) _ rfl) _ rfl) _ rfl
    · funext i
      unfold evA ev
      by_cases hi : i < 10
      · rw [if_pos hi]
        have h : i = 0 ∨ i = 1 ∨ i = 2 ∨ i = 3 ∨ i = 4 ∨ i = 5 ∨ i = 6 ∨ i = 7 ∨ i = 8 ∨ i = 9 := by omega
        rcases h with e | e | e | e | e | e | e | e | e | e <;> subst e <;> simp (disch := decide) only [u2n, u2s] <;> simp [hs]
      · rw [if_neg hi]
        simp [show ¬ i = 0 by omega, show ¬ i = 1 by omega, show ¬ i = 2 by omega, show ¬ i = 3 by omega, show ¬ i = 4 by omega, show ¬ i = 5 by omega, show ¬ i = 6 by omega, show ¬ i = 7 by omega, show ¬ i = 8 by omega, show ¬ i = 9 by omega]
  unfold F_X7_set
  rw [ast_s (by decide), ast_s (by decide), ast_s (by decide), ast_s (by decide)]
  by_cases h : w = l
  · rw [if_neg (fun z => z h), ast_s (by decide)]
    exact key 1 (by rw [if_neg (fun z => z h)])
  · rw [if_pos h, ast_s (by decide)]
    exact key 0 (by rw [if_pos h])
theorem inCrowd_s {m : Mm} {G : Tg} (hG : GA m G) (g w l p : Int) : ∃ m', F_X7_inCrowd g w l p m = some (mn G g w l p w 0, m') ∧ Fr sM m m' := by
  obtain ⟨m1, a1, a2, a3⟩ := set_s g w l p w 0 m
  obtain ⟨m2, b1, b2⟩ := holds_s (l := 109) (most := 31) (by decide) (hG.frM a2)
  rw [a3] at b1
  refine ⟨m2, ?_, a2.trans (frEM b2)⟩
  unfold F_X7_inCrowd
  rw [a1, cll_s, b1, cll_s]
  rfl
theorem byEar_s {m : Mm} {G : Tg} (hG : GA m G) (hP : PpA m) {ear who : Int} (g l p : Int) (h1 : 0 ≤ ear ∧ ear < m 1 5) (h2 : 0 ≤ who ∧ who < m 1 5) : ∃ m', F_X7_byEar ear g who l p m = some (mn G g who l p ear (wayA m ear who), m') ∧ Fr sM m m' := by
  obtain ⟨m1, a1, a2, a3⟩ := set_s g who l p ear (wayA m ear who) m
  obtain ⟨m2, b1, b2⟩ := holds_s (l := 109) (most := 31) (by decide) (hG.frM a2)
  rw [a3] at b1
  refine ⟨m2, ?_, a2.trans (frEM b2)⟩
  unfold F_X7_byEar
  rw [wayB_s hP h1 h2, cll_s, a1, cll_s, b1, cll_s]
  rfl
theorem tellF_ff {G : Tg} (h : ∀ i, i < G.1 → ff (G.2.2.1 i) ∧ ff (G.2.2.2 i)) (l most : Int) (e : Nat → Int) (v : Int) : ∀ j i, i + j = G.1 → tellF G l most (upr e 9 v) j i = tellF G l most e j i := by
  intro j
  induction j with
  | zero => intro i _; rfl
  | succ j ih =>
    intro i hi
    have hh := h i (by omega)
    unfold tellF
    rw [hh.1 e v, hh.2 e v, ih (i + 1) (by omega)]
theorem ev_9 (g w l p ear way k a f : Int) : ev g w l p ear way k a f = upr (ev g w l p ear way k a 0) 9 f := by
  funext i
  by_cases h : i = 9
  · subst h; rw [upr_s]; rfl
  · rw [upr_n h]
    unfold ev
    rw [if_neg h, if_neg h]
theorem wish_31 {m : Mm} {G : Tg} (hG : GA m G) (g w l p k a : Int) (b : Bool) : ∃ m', J_X7_wish_31 g w l p k a (if b then 1 else 0) m = some (tellF G 114 1000 (ev g w l p w 0 k a (if b then 1 else 0)) G.1 0, m') ∧ Fr sM m m' := by
  obtain ⟨m1, a1, a2, a3⟩ := set_s g w l p w 0 m
  have key : ∀ f : Int, ∃ m', J_X7_wish_77 (upd2 (upd2 (upd2 m1 18 7 k) 18 8 a) 18 9 f) = some (tellF G 114 1000 (ev g w l p w 0 k a f) G.1 0, m') ∧ Fr sM m m' := by
    intro f
    have hfr : Fr sM m (upd2 (upd2 (upd2 m1 18 7 k) 18 8 a) 18 9 f) := Fr.upd (Fr.upd (Fr.upd a2 _ rfl) _ rfl) _ rfl
    obtain ⟨m2, b1, b2⟩ := holds_s (l := 114) (most := 1000) (by decide) (hG.frM hfr)
    have he : evA (upd2 (upd2 (upd2 m1 18 7 k) 18 8 a) 18 9 f) = ev g w l p w 0 k a f := by
      funext i
      have h0 := congrFun a3 i
      unfold evA at h0 ⊢
      unfold ev at h0 ⊢
      by_cases hi : i < 10
      · rw [if_pos hi] at h0 ⊢
        by_cases h9 : i = 9
        · subst h9; rw [u2s]; rfl
        · rw [u2n h9]
          by_cases h8 : i = 8
          · subst h8; rw [u2s]; rfl
          · rw [u2n h8]
            by_cases h7 : i = 7
            · subst h7; rw [u2s]; rfl
            · rw [u2n h7, h0, if_neg h7, if_neg h8, if_neg h9, if_neg h7, if_neg h8, if_neg h9]
      · rw [if_neg hi] at h0 ⊢
        simp [show ¬ i = 0 by omega, show ¬ i = 1 by omega, show ¬ i = 2 by omega, show ¬ i = 3 by omega, show ¬ i = 4 by omega, show ¬ i = 5 by omega, show ¬ i = 6 by omega, show ¬ i = 7 by omega, show ¬ i = 8 by omega, show ¬ i = 9 by omega]
    rw [he] at b1
    refine ⟨m2, ?_, hfr.trans (frEM b2)⟩
    unfold J_X7_wish_77
    rw [b1, cll_s]
  unfold J_X7_wish_31
  rw [a1, cll_s, ast_s (by decide), ast_s (by decide)]
  cases b with
  | false =>
    rw [if_pos (by decide), ast_s (by decide)]
    exact key 0
  | true =>
    rw [if_neg (by decide), ast_s (by decide)]
    exact key 1
theorem wish_s {m : Mm} {G : Tg} (hG : GA m G) (g w l p k a : Int) : ∃ m', F_X7_wish g w l p k a m = some (wsh G g w l p k a, m') ∧ Fr sM m m' := by
  have hG' := hG
  obtain ⟨c, h1, h2, h3, h4, h5, h6⟩ := hG
  have hw : ∀ f : Int, (∀ i, i < G.1 → ff (G.2.2.1 i) ∧ ff (G.2.2.2 i)) → tellF G 114 1000 (ev g w l p w 0 k a f) G.1 0 = tellF G 114 1000 (ev g w l p w 0 k a 0) G.1 0 := by
    intro f hh
    rw [ev_9]
    exact tellF_ff hh _ _ _ _ _ _ (by omega)
  unfold F_X7_wish
  rw [h2, Int.toNat_natCast, grd_s h1]
  by_cases h7 : m c 7 = 0
  · rw [if_pos h7]
    obtain ⟨m', a1, a2⟩ := wish_31 hG' g w l p k a false
    refine ⟨m', ?_, a2⟩
    unfold J_X7_wish_28
    rw [nmv_s]
    refine Eq.trans a1 ?_
    unfold wsh
    rw [hw (if mn G g w l p w 0 = a then 1 else 0) (h6 h7)]
    rfl
  · rw [if_neg h7]
    obtain ⟨m1, a1, a2⟩ := inCrowd_s hG' g w l p
    rw [a1, cll_s]
    by_cases he : mn G g w l p w 0 = a
    · rw [if_neg (fun z => z he), nmv_s]
      obtain ⟨m', b1, b2⟩ := wish_31 (hG'.frM a2) g w l p k a true
      refine ⟨m', Eq.trans b1 ?_, a2.trans b2⟩
      unfold wsh
      rw [if_pos he]
      rfl
    · rw [if_pos he]
      unfold J_X7_wish_28
      rw [nmv_s]
      obtain ⟨m', b1, b2⟩ := wish_31 (hG'.frM a2) g w l p k a false
      refine ⟨m', Eq.trans b1 ?_, a2.trans b2⟩
      unfold wsh
      rw [if_neg he]
      rfl
def sN (k i : Nat) : Bool := k == 76 || k == 77 || (k == 54 && 37 ≤ i && i ≤ 45)
theorem frFN {m m' : Mm} (h : Fr sF m m') : Fr sN m m' := h.mono fun k i e => by
  unfold sN at e; unfold sF
  cases h1 : (k == 76) <;> cases h2 : (k == 77) <;> simp_all
theorem GB.frN {m m' : Mm} {G : Tg} (h : GB m G) (hf : Fr sN m m') : GB m' G := by
  refine h.fr (hf 54 14 rfl) (fun k i h1 h2 => hf k i ?_)
  unfold sN
  rw [show (k == 76) = false from beq_eq_false_iff_ne.mpr (by omega), show (k == 77) = false from beq_eq_false_iff_ne.mpr (by omega), show (k == 54) = false from beq_eq_false_iff_ne.mpr (by omega)]
  rfl
theorem means_s {m : Mm} {G : Tg} (hG : GB m G) (ear g w l p way : Int) : ∃ m', F_X12_means ear g w l p way m = some (mn G g w l p ear way, m') ∧ Fr sN m m' ∧ (m' 54 37 = g ∧ m' 54 38 = w ∧ m' 54 39 = l ∧ m' 54 40 = p ∧ m' 54 41 = way ∧ m' 54 42 = ear) := by
  have hfr : Fr sN m (upd2 (upd2 (upd2 (upd2 (upd2 (upd2 (upd2 (upd2 (upd2 m 54 42 ear) 54 37 g) 54 38 w) 54 39 l) 54 40 p) 54 41 way) 54 43 0) 54 44 0) 54 45 0) :=
    Fr.upd (Fr.upd (Fr.upd (Fr.upd (Fr.upd (Fr.upd (Fr.upd (Fr.upd (Fr.upd (Fr.refl _ _) _ rfl) _ rfl) _ rfl) _ rfl) _ rfl) _ rfl) _ rfl) _ rfl) _ rfl
  have he : evB (upd2 (upd2 (upd2 (upd2 (upd2 (upd2 (upd2 (upd2 (upd2 m 54 42 ear) 54 37 g) 54 38 w) 54 39 l) 54 40 p) 54 41 way) 54 43 0) 54 44 0) 54 45 0) = ev g w l p ear way 0 0 0 := by
    funext i
    unfold evB ev
    simp (disch := decide) only [u2n, u2s]
  obtain ⟨m2, b1, b2⟩ := tells_s (l := 109) (most := 31) (by decide) (hG.frN hfr)
  rw [he] at b1
  refine ⟨m2, ?_, hfr.trans (frFN b2), ?_⟩
  · unfold F_X12_means
    simp only [stf_s]
    rw [b1, cll_s]
    rfl
  · rw [b2 54 37 rfl, b2 54 38 rfl, b2 54 39 rfl, b2 54 40 rfl, b2 54 41 rfl, b2 54 42 rfl]
    simp (disch := decide) only [u2n, u2s, and_self]

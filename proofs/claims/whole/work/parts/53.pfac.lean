/-! factor, product, sum: both readers -/
def FacP (F : Mm → Rs) (o : Nat) : Prop := ∀ (a b : Mm) (c n : Nat) (T : Nat → Int) (p s t k fa fv : Nat), TxOk n T → CS a c n T p o s → RS b n T p o t k → n - p < fa → n - p + 1 < fv →
  ∃ a', F a = some (0, a') ∧ ((BadA a a' c ∧ ∃ b', Apt fa fv b = some (0, b') ∧ BadB a' b b') ∨ (∃ p' s' k' g b' fv', GotA a a' c n T p o s p' s' (2 * (6 - o) + 1) g ∧ Apt fa fv b = Bpt fv' b' ∧ RS b' n T p' o t k' ∧ SegB (b' 73) (b' 74) k k' g ∧ Fr sQ b b' ∧ Keep b b' t k ∧ n - p' + 1 < fv'))
def ProP (F : Mm → Rs) (o : Nat) : Prop := ∀ (a b : Mm) (c n : Nat) (T : Nat → Int) (p s t k fa fv : Nat), TxOk n T → CS a c n T p o s → RS b n T p o t k → n - p < fa → n - p + 1 < fv → ¬ isTm (topR b t) →
  ∃ a', F a = some (0, a') ∧ ((BadA a a' c ∧ ∃ b', Apt fa fv b = some (0, b') ∧ BadB a' b b') ∨ (∃ p' s' t' k' g b' fv', GotA a a' c n T p o s p' s' (2 * (6 - o) + 2) g ∧ Apt fa fv b = Bpt fv' b' ∧ RS b' n T p' o t' k' ∧ PT b' t k t' k' g ∧ Fr sQ b b' ∧ Keep b b' t k ∧ n - p' + 1 < fv' ∧ (p' < n → ¬ isTm (T p'))))
def SumP (F : Mm → Rs) (o : Nat) : Prop := ∀ (a b : Mm) (c n : Nat) (T : Nat → Int) (p s t k fa fv : Nat), TxOk n T → CS a c n T p o s → RS b n T p o t k → n - p < fa → n - p + 1 < fv → ¬ isTm (topR b t) → ¬ isPl (topR b t) →
  ∃ a', F a = some (0, a') ∧ ((BadA a a' c ∧ ∃ b', Apt fa fv b = some (0, b') ∧ BadB a' b b') ∨ (∃ p' s' t' k' g b' fv', GotA a a' c n T p o s p' s' (2 * (6 - o) + 3) g ∧ Apt fa fv b = Bpt fv' b' ∧ RS b' n T p' o t' k' ∧ PS b' t k t' k' g ∧ Fr sQ b b' ∧ Keep b b' t k ∧ n - p' + 1 < fv' ∧ (p' < n → ¬ isTm (T p') ∧ ¬ isPl (T p'))))
theorem BadA.pre {a a1 a' : Mm} {c : Nat} (h : BadA a1 a' c) (hf : Fr (sP c) a a1) : BadA a a' c := ⟨h.1, h.2.1, h.2.2.1, h.2.2.2.1, hf.trans h.2.2.2.2⟩
theorem BadA.f4 {a a' : Mm} {c : Nat} (h : BadA a a' c) (v : Int) : BadA a (upd2 a' 32 4 v) c ∧ (upd2 a' 32 4 v) 32 5 = a' 32 5 ∧ (upd2 a' 32 4 v) 32 3 = a' 32 3 := by
  obtain ⟨⟨h1, h2⟩, h3, h4, h5, h6⟩ := h
  have hc := h1
  have e5 : (upd2 a' 32 4 v) 32 5 = a' 32 5 := u2n (by decide)
  have e3 : (upd2 a' 32 4 v) 32 3 = a' 32 3 := u2n (by decide)
  exact ⟨⟨⟨h1, (u2n (by decide)).trans h2⟩, by rw [u2r (by omega)]; exact h3, by rw [e5]; exact h4, by rw [e3]; exact h5, Fr.upd h6 _ rfl⟩, e5, e3⟩
theorem BadB.pre {a' b b1 b' : Mm} (h : BadB a' b1 b') (hf : Fr sQ b b1) : BadB a' b b' := ⟨h.1, hf.trans h.2⟩
theorem BadB.of {a' a'' b b' : Mm} (h : BadB a' b b') (h5 : a'' 32 5 = a' 32 5) (h3 : a'' 32 3 = a' 32 3) : BadB a'' b b' := ⟨by rw [h5, h3]; exact h.1, h.2⟩
theorem pass_b {a : Mm} (h : a 32 5 ≠ 0) (x : Int) : F_X2_pass x a = some (0, a) := by
  unfold F_X2_pass
  rw [if_neg h]
theorem pass_s {a : Mm} {c n : Nat} {T : Nat → Int} {p o s : Nat} (hT : TxOk n T) (h : CS a c n T p o s) {x : Int} (hx : F_X2_next a = some (x, a)) (y : Int) : F_X2_pass y a = if x = y then some (0, upd2 a 32 3 ((p + 1 : Nat) : Int)) else some (0, upd2 a 32 5 1) := by
  have hn := hT.1
  have hp := h.2.2.2.1
  have h3 := h.2.2.1
  unfold F_X2_pass
  rw [if_pos h.2.2.2.2.2.1, hx, cll_s]
  by_cases he : x = y
  · rw [if_neg (fun z => z he), if_pos he, stf_s, h3, wr_s (by omega)]
    rfl
  · rw [if_pos he, if_neg he, (fail_s hT h (x := 1) (by decide)).1, cll_s]
theorem CS.f4 {a : Mm} {c n : Nat} {T : Nat → Int} {p o s : Nat} (h : CS a c n T p o s) (o' : Nat) : CS (upd2 a 32 4 (o' : Int)) c n T p o' s := by
  obtain ⟨⟨h1, h2, h3⟩, h4, h5, h6, h7, h8, h9, h10⟩ := h
  have hc := h1
  exact ⟨⟨h1, (u2n (by decide)).trans h2, (u2n (by decide)).trans h3⟩, fun i hi => by rw [u2r (by decide)]; exact h4 i hi, (u2n (by decide)).trans h5, h6, u2s _ _ _ _, (u2n (by decide)).trans h8, by rw [u2r (by omega)]; exact h9, h10⟩
theorem RS.f32 {b : Mm} {n : Nat} {T : Nat → Int} {p o t k : Nat} (h : RS b n T p o t k) (o' : Nat) : RS (upd2 b 54 32 (o' : Int)) n T p o' t k := by
  obtain ⟨⟨h1, h2⟩, h3, h4, h5, h6, h7, h8, h9⟩ := h
  exact ⟨⟨(u2n (by decide)).trans h1, fun i hi => by rw [u2r (by decide)]; exact h2 i hi⟩, (u2n (by decide)).trans h3, h4, (u2n (by decide)).trans h5, (u2n (by decide)).trans h6, u2s _ _ _ _, (u2n (by decide)).trans h8, h9⟩
/-- the reference opens a bracket -/
theorem opens_s {b : Mm} {n : Nat} {T : Nat → Int} {p o t k : Nat} (hT : TxOk n T) (h : RS b n T p o t k) (hp : p < n) (ho : o < 6) {x : Int} (hx : x = T p) : F_X12_opens b = some (0, puB (upd2 b 54 32 ((o + 1 : Nat) : Int)) p t x) ∧ RS (puB (upd2 b 54 32 ((o + 1 : Nat) : Int)) p t x) n T (p + 1) (o + 1) (t + 1) k ∧ Fr sQ b (puB (upd2 b 54 32 ((o + 1 : Nat) : Int)) p t x) ∧ Keep b (puB (upd2 b 54 32 ((o + 1 : Nat) : Int)) p t x) t k := by
  have h32 := h.2.2.2.2.2.1
  have h1 := h.f32 (o + 1)
  have hn := hT.1
  refine ⟨?_, h1.pu hp x, (Fr.upd (Fr.refl _ _) _ rfl).trans (puB_fr _ _ _ _), ?_⟩
  · unfold F_X12_opens J_X12_opens_18
    rw [if_pos (by omega), stf_s, h32, wr_s (by omega)]
    have eh : F_X12_here (upd2 b 54 32 ((o + 1 : Nat) : Int)) = some (x, upd2 b 54 32 ((o + 1 : Nat) : Int)) := by
      unfold F_X12_here
      rw [h1.1.1, h1.2.1, if_neg (by omega), ald_s (by omega), Int.toNat_natCast, h1.1.2 p hp, hx]
    rw [show ((o : Int) + 1) = ((o + 1 : Nat) : Int) from rfl, eh, cll_s, puts_s hT h1, cll_s]
  · have := puB_keep (upd2 b 54 32 ((o + 1 : Nat) : Int)) p t x k
    exact ⟨fun i hi => (this.1 i hi).trans (by rw [u2r (by decide)]), fun i hi => ⟨(this.2 i hi).1.trans (by rw [u2r (by decide)]), (this.2 i hi).2.trans (by rw [u2r (by decide)])⟩⟩
/-- one bracket too many -/
theorem opens_b {b : Mm} {n : Nat} {T : Nat → Int} {p t k : Nat} (hT : TxOk n T) (h : RS b n T p 6 t k) (hp : p < n) : ∃ b', F_X12_opens b = some (0, b') ∧ b' 54 29 = -5000 - (p : Int) ∧ Fr sQ b b' := by
  obtain ⟨⟨h1, h2⟩, h3, h4, h5, h6, h7, h8, h9⟩ := h
  have hn := hT.1
  unfold F_X12_opens J_X12_opens_18
  rw [if_neg (by omega), h3, wrongs_s h5 5 p (by decide) (by omega), cll_s, stf_s]
  unfold F_X12_here F_X12_puts
  rw [u2n (by decide), u2n (by decide), u2n (by decide), u2n (by decide), h1, h3, if_neg (by omega), ald_s (by omega), cll_s, ast_s (by rw [u2n (by decide), u2n (by decide)]; omega), stf_s, stf_s, cll_s]
  refine ⟨_, rfl, ?_, ?_⟩
  · rw [u2n (by decide), u2n (by decide), u2r (by decide), u2n (by decide), u2s]; omega
  · exact Fr.upd (Fr.upd (Fr.upd (Fr.upd (Fr.upd (Fr.refl _ _) _ rfl) _ rfl) _ rfl) _ rfl) _ rfl
theorem GotA.one {a : Mm} {c n : Nat} {T : Nat → Int} {p o s p' kk : Nat} {a1 : Mm} {x y : Int} {g : Sem} (h1 : CS a1 c n T p' o s) (hf : Fr (sP c) a a1) (hc1 : a1 (c + 1) = a (c + 1)) (hc2 : a1 (c + 2) = a (c + 2)) (hp : p < p') (hs : s ≤ p) (hg : SegA (addA a1 c s x y (c + 1)) (addA a1 c s x y (c + 2)) s (s + 1) kk g) (h7 : a1 c 7 = 0 → a c 7 = 0 ∧ ff g) : GotA a (addA a1 c s x y) c n T p o s p' (s + 1) kk g := by
  refine ⟨h1.addA (by omega) x y, hf.trans (addA_fr _ _ _ _ _), fun i hi => ?_, hg, ?_, hp, by omega⟩
  · rw [addA_d, addA_w, upr_n (by omega), upr_n (by omega), hc1, hc2]; exact ⟨rfl, rfl⟩
  · rw [addA_c, upr_n (by decide)]; exact h7
theorem fac_p {S : Mm → Rs} {o : Nat} (ho : o ≤ 6) (hS : o < 6 → SumP S (o + 1)) (hS0 : ∀ a : Mm, a 32 5 ≠ 0 → S a = some (0, a)) : FacP (O_X2_factor S) o := by
  intro a b c n T p s t k fa fv hT hA hB hfa hfv
  obtain ⟨fa', rfl⟩ : ∃ f, fa = f + 1 := ⟨fa - 1, by omega⟩
  obtain ⟨fv', rfl⟩ : ∃ f, fv = f + 1 := ⟨fv - 1, by omega⟩
  obtain ⟨x, y, e1, e2, e3⟩ := next_s hT hA hB
  have hcd := hA.1.1
  have hc := hcd
  have h29 := hB.2.2.2.1
  have hn := hT.1
  have hsp := hA.2.2.2.2.2.2.2
  have h32 := hA.2.2.1
  unfold Nx at e3
  have stF : O_X2_factor S a = if ¬ x = 91 then cll (F_X2_isDigit x a) (fun r6 m7 => if r6 = 0 then cll (F_X2_letter x m7) (fun r9 m10 => some (0, m10)) else cll (F_X2_number m7) (fun r11 m12 => some (0, m12))) else cll (F_X2_enter a) (fun r13 m14 => cll (S m14) (fun r15 m16 => cll (F_X2_pass 93 m16) (fun r17 m18 => stf m18 32 4 (wr ((m18 32 4) - 1)) (fun m19 => some (0, m19))))) := by
    unfold O_X2_factor
    rw [if_pos hA.2.2.2.2.2.1, e1, cll_s, nmv_s]
  have stA : Apt (fa' + 1) (fv' + 1) b = if ¬ y = 91 then cll (J_X12_factor_23 b) (fun _ m7 => Bpt (fv' + 1) m7) else cll (F_X12_opens b) (fun _ m8 => Apt fa' (fv' + 1) m8) := by
    unfold Apt
    show cll (LB_X12_factor_0 (L_X12_factor_0 fa') b) _ = _
    unfold LB_X12_factor_0
    rw [good_s h29, cll_s, if_neg (by decide), e2, cll_s]
    by_cases h91 : y = 91
    · rw [if_neg (fun z => z h91), if_neg (fun z => z h91)]
      cases F_X12_opens b with
      | none => rfl
      | some q => rfl
    · rw [if_pos h91, if_pos h91]
      rfl
  rw [stF, stA]
  by_cases h91 : y = 91
  · have hx : x = 91 := by omega
    have hp : p < n := by omega
    rw [if_neg (fun z => z hx), if_neg (fun z => z h91)]
    have h324 := hA.2.2.2.2.1
    by_cases ho6 : o < 6
    · obtain ⟨o1, o2, o3, o4⟩ := opens_s hT hB hp ho6 (x := 91) (by omega)
      have hA1 : CS (upd2 (upd2 a 32 4 ((o + 1 : Nat) : Int)) 32 3 ((p + 1 : Nat) : Int)) c n T (p + 1) (o + 1) s := (hA.f4 (o + 1)).to (by omega) (by omega)
      have hfA1 : Fr (sP c) a (upd2 (upd2 a 32 4 ((o + 1 : Nat) : Int)) 32 3 ((p + 1 : Nat) : Int)) := Fr.upd (Fr.upd (Fr.refl _ _) _ rfl) _ rfl
      have en : F_X2_enter a = some (0, upd2 (upd2 a 32 4 ((o + 1 : Nat) : Int)) 32 3 ((p + 1 : Nat) : Int)) := by
        unfold F_X2_enter
        rw [if_pos (by omega), stf_s, stf_s, u2n (by decide), h324, h32, wr_s (by omega), wr_s (by omega)]
        rfl
      rw [en, cll_s, o1, cll_s]
      have htop : topR (puB (upd2 b 54 32 ((o + 1 : Nat) : Int)) p t 91) (t + 1) = 91 := puB_top _ _ _ _
      obtain ⟨a2, s1, s2⟩ := hS ho6 _ _ c n T (p + 1) s (t + 1) k fa' (fv' + 1) hT hA1 o2 (by omega) (by omega) (by rw [htop]; unfold isTm; omega) (by rw [htop]; unfold isPl; omega)
      rw [s1, cll_s]
      rcases s2 with ⟨s2, b', s3, s4⟩ | ⟨p', s', t', k', g, b', fv2, s2, s3, s4, s5, s6, s7, s8, s9⟩
      · rw [pass_b s2.ne, cll_s, stf_s, s3]
        obtain ⟨q1, q2, q3⟩ := s2.f4 (wr (a2 32 4 - 1))
        exact ⟨_, rfl, Or.inl ⟨q1.pre hfA1, b', rfl, (s4.of q2 q3).pre o3⟩⟩
      · obtain ⟨g1, g2, g3, g4, g5, g6, g7⟩ := s2
        obtain ⟨x2, y2, f1, f2, f3⟩ := next_s hT g1 s4
        unfold Nx at f3
        have h75 : b' 75 t = 91 := by
          rw [s7.1 t (by omega), puB_75, upr_s]
        obtain ⟨fv3, rfl⟩ : ∃ f, fv2 = f + 1 := ⟨fv2 - 1, by omega⟩
        rw [pass_s hT g1 f1]
        by_cases h93 : y2 = 93
        · have hx2 : x2 = 93 := by omega
          have hp2 : p' < n := by omega
          rw [if_pos hx2, cll_s, stf_s]
          rw [h93] at f2
          obtain ⟨b3, k3, t1, t2, t3, t4, t5⟩ := B_cl hT s4 s5 h75 hp2 f2 (by omega) fv3
          have hA3 : CS (upd2 (upd2 a2 32 3 ((p' + 1 : Nat) : Int)) 32 4 (o : Int)) c n T (p' + 1) o s' := (g1.to (by omega) (by omega)).f4 o
          have e4 : wr ((upd2 a2 32 3 ((p' + 1 : Nat) : Int)) 32 4 - 1) = (o : Int) := by rw [u2n (by decide), g1.2.2.2.2.1, wr_s (by omega)]; omega
          rw [e4]
          have r1 : ∀ j, (upd2 (upd2 a2 32 3 ((p' + 1 : Nat) : Int)) 32 4 (o : Int)) (c + j) = a2 (c + j) → True := fun _ _ => trivial
          have rc : ∀ j, j ≤ 2 → (upd2 (upd2 a2 32 3 ((p' + 1 : Nat) : Int)) 32 4 (o : Int)) (c + j) = a2 (c + j) := fun j hj => by rw [u2r (by omega), u2r (by omega)]
          have rc0 := rc 0 (by omega)
          refine ⟨_, rfl, Or.inr ⟨p' + 1, s', k3, g, b3, fv3, ⟨hA3, Fr.upd (Fr.upd (hfA1.trans g2) _ rfl) _ rfl, fun i hi => ?_, ?_, ?_, by omega, by omega⟩, by rw [s3, t1], t2, t3, (o3.trans s6).trans t4, ?_, by omega⟩⟩
          · rw [rc 1 (by omega), rc 2 (by omega)]
            refine ⟨(g3 i hi).1.trans ?_, (g3 i hi).2.trans ?_⟩
            · rw [u2r (by omega), u2r (by omega)]
            · rw [u2r (by omega), u2r (by omega)]
          · rw [rc 1 (by omega), rc 2 (by omega)]
            exact g4.mono (by omega)
          · rw [show (upd2 (upd2 a2 32 3 ((p' + 1 : Nat) : Int)) 32 4 (o : Int)) c = a2 c from rc0]
            intro z
            have := g5 z
            rw [u2r (show c ≠ 32 by omega), u2r (show c ≠ 32 by omega)] at this
            exact this
          · exact (o4.trans s7 (by omega) (Nat.le_refl _)).trans t5 (Nat.le_refl _) (Nat.le_refl _)
        · have hx2 : x2 ≠ 93 := by omega
          rw [if_neg hx2, cll_s, stf_s]
          obtain ⟨w1, w2, w3, w4⟩ := fail_s hT g1 (x := 1) (by decide)
          obtain ⟨q1, q2, q3⟩ := w2.f4 (wr ((upd2 a2 32 5 1) 32 4 - 1))
          obtain ⟨b3, k3, t1, t2, t3, t4, t5⟩ := B_end hT s4 s5 (by rw [show topR b' (t + 1) = 91 by unfold topR; rw [if_neg (by omega)]; exact h75]; unfold isTm; omega) (by rw [show topR b' (t + 1) = 91 by unfold topR; rw [if_neg (by omega)]; exact h75]; unfold isPl; omega) f2
            (by rcases f3 with z | z
                · rw [z.2.2.1]; exact (s9 z.1).1
                · unfold isTm; omega)
            (by rcases f3 with z | z
                · rw [z.2.2.1]; exact (s9 z.1).2
                · unfold isPl; omega) h93 fv3
          rw [if_pos (by unfold topR; rw [if_neg (by omega)]; exact h75)] at t1
          refine ⟨_, rfl, Or.inl ⟨q1.pre (hfA1.trans g2), _, by rw [s3, t1], ?_, Fr.upd ((o3.trans s6).trans t4) _ rfl⟩⟩
          rw [u2s, q2, q3, w3, w4]
          omega
    · have ho' : o = 6 := by omega
      subst ho'
      obtain ⟨b1, o1, o2, o3⟩ := opens_b hT hB hp
      obtain ⟨w1, w2, w3, w4⟩ := fail_s hT hA (x := 5) (by decide)
      have en : F_X2_enter a = some (0, upd2 a 32 5 5) := by
        unfold F_X2_enter
        rw [if_neg (by omega), w1, cll_s]
      rw [en, cll_s, hS0 _ w2.ne, cll_s, pass_b w2.ne, cll_s, stf_s, o1, cll_s]
      obtain ⟨q1, q2, q3⟩ := w2.f4 (wr ((upd2 a 32 5 5) 32 4 - 1))
      have hb1 : b1 54 29 ≠ 0 := by omega
      obtain ⟨fa2, rfl⟩ : ∃ f, fa' = f + 1 := ⟨fa' - 1, by omega⟩
      have hA2 : Apt (fa2 + 1) (fv' + 1) b1 = some (0, upd2 b1 54 35 0) := by
        unfold Apt
        show cll (LB_X12_factor_0 (L_X12_factor_0 fa2) b1) _ = _
        unfold LB_X12_factor_0 J_X12_factor_23
        rw [good_b hb1, cll_s, if_pos rfl, good_b hb1, cll_s, if_neg (by decide), cll_s]
        exact B_bad hb1 fv'
      refine ⟨_, rfl, Or.inl ⟨q1, _, hA2, ?_, Fr.upd o3 _ rfl⟩⟩
      rw [u2n (by decide), o2, q2, q3, w3, w4]
      omega
  · have hx : x ≠ 91 := by omega
    rw [if_pos hx, if_pos h91, isDigit_s, cll_s]
    have st23 : J_X12_factor_23 b = if 48 ≤ y ∧ y ≤ 57 then cll (F_X12_reads b) (fun r19 m20 => cll (F_X12_emit 0 r19 m20) (fun r21 m22 => some (0, m22))) else cll (F_X12_isValue y b) (fun r9 m10 => if r9 = 0 then cll (F_X12_wrongs 1 (m10 54 27) m10) (fun r12 m13 => some (0, m13)) else cll (F_X12_here m10) (fun r14 m15 => cll (F_X12_emit 1 r14 m15) (fun r16 m17 => stf m17 54 27 (wr ((m17 54 27) + 1)) (fun m18 => some (0, m18))))) := by
      unfold J_X12_factor_23
      rw [good_s h29, cll_s, if_pos (by decide), sees_s e2, cll_s, ib0, e2, cll_s]
    rw [st23]
    by_cases hd : 48 ≤ y ∧ y ≤ 57
    · have hxd : 48 ≤ x ∧ x ≤ 57 := by omega
      have hp : p < n := by omega
      rw [if_neg (by rw [b2i_t hxd]; decide), if_pos hd]
      have hq0 : upd2 a 32 3 ((p + 0 : Nat) : Int) = a := u2self h32
      have hq1 : upd2 b 54 27 ((p + 0 : Nat) : Int) = b := u2self hB.2.1
      have hnum := num_l hT hA hB hp 5 0 0 100000 100000 (by omega) (by omega) (by omega) (by omega)
      rw [hq0, hq1, show ((0 : Nat) : Int) = 0 from rfl] at hnum
      unfold F_X2_number F_X12_reads
      rw [nmv_s, nmv_s, nmv_s, nmv_s, hB.2.1]
      rcases hnum with ⟨p', w, n1, n2, n3, n4, n5⟩ | ⟨n1, n2, w, b', n3, n4, n5⟩
      · have hpp : p < p' := by have := n3 (by rw [show p + 0 = p from rfl]; omega); omega
        rw [n4, cll_s, n5, cll_s]
        have hB2 := hB.to (p' := p') (by omega) n2
        rw [emit_s hB2.2.2.2.1 hB2.2.2.2.2.1 (by have := hB.2.2.2.2.2.2.2; omega), cll_s, cll_s]
        refine ⟨_, rfl, Or.inr ⟨p', s + 1, k + 1, sNum w, _, fv' + 1, GotA.one (hA.to (by omega) n2) (Fr.upd (Fr.refl _ _) _ rfl) (by rw [u2r (by omega)]) (by rw [u2r (by omega)]) hpp hsp ?_ ?_, rfl, ?_, ?_, (Fr.upd (Fr.refl _ _) _ rfl).trans (emB_fr _ _ _ _), ?_, by omega⟩⟩
        · have := A_num (d := addA (upd2 a 32 3 (p' : Int)) c s 0 w (c + 1)) (w := addA (upd2 a 32 3 (p' : Int)) c s 0 w (c + 2)) (p := s) (by rw [addA_d, upr_s])
          rw [addA_w, upr_s] at this
          rw [addA_w]
          exact this.mono (by omega)
        · rw [u2r (by omega)]; exact fun z => ⟨z, fun _ _ => rfl⟩
        · obtain ⟨⟨h1, h2⟩, h3, h4, h5, h6, h7, h8, h9⟩ := hB2
          exact ⟨⟨(emB_54 (by decide)).trans h1, fun i hi => by rw [emB_r (by decide) (by decide) (by decide)]; exact h2 i hi⟩, (emB_54 (by decide)).trans h3, h4, (emB_54 (by decide)).trans h5, emB_31 _ _ _ _, (emB_54 (by decide)).trans h7, (emB_54 (by decide)).trans h8, by have := hB.2.2.2.2.2.2.2; omega⟩
        · have := B_num (d := emB (upd2 b 54 27 (p' : Int)) k 0 w 73) (w := emB (upd2 b 54 27 (p' : Int)) k 0 w 74) (p := k) (by rw [emB_73, upr_s])
          rw [emB_74, upr_s] at this
          rw [emB_74]
          exact this
        · have := emB_keep (upd2 b 54 27 (p' : Int)) t k 0 w
          exact ⟨fun i hi => (this.1 i hi).trans (by rw [u2r (by decide)]), fun i hi => ⟨(this.2 i hi).1.trans (by rw [u2r (by decide)]), (this.2 i hi).2.trans (by rw [u2r (by decide)])⟩⟩
      · rw [n1, cll_s, n3, cll_s, emit_b (by omega), cll_s, cll_s]
        obtain ⟨w1, w2, w3, w4⟩ := fail_s hT (hA.to (p' := p + 5) (by omega) (by omega)) (x := 2) (by decide)
        refine ⟨_, rfl, Or.inl ⟨w2.pre (Fr.upd (Fr.refl _ _) _ rfl), _, B_bad (by omega) fv', ?_, Fr.upd n5 _ rfl⟩⟩
        rw [u2n (by decide), n4, w3, w4]
        omega
    · have hxd : ¬ (48 ≤ x ∧ x ≤ 57) := by omega
      rw [if_pos (by rw [b2i_f hxd]), if_neg hd]
      by_cases hv : isV y
      · have hp : p < n := by unfold isV at hv; omega
        obtain ⟨kx, hkx⟩ : ∃ kx : Nat, x = (kx : Int) := ⟨x.toNat, by omega⟩
        have hyk : y = (kx : Int) := by omega
        have hk256 : kx < 256 := by omega
        obtain ⟨i1, i2, i3⟩ := ix_all kx hk256
        have hix : ixN kx < 10 := (isV_ix kx).mp (by rw [← hyk]; exact hv)
        have hkt := hB.2.2.2.2.2.2.2
        rw [isV_t hv, cll_s, if_neg (by decide), e2, cll_s, emit_s h29 hB.2.2.2.2.1 (by omega), cll_s, stf_s, emB_54 (by decide), hB.2.1, wr_s (x := (p : Int) + 1) (by omega), cll_s]
        have key : ∀ a1 : Mm, CS a1 c n T p o s → a1 (c + 1) = a (c + 1) → a1 (c + 2) = a (c + 2) → Fr (sP c) a a1 → (a1 c 7 = 0 → a c 7 = 0 ∧ ff (sLet (ixN kx))) → cll (J_X2_letter_40 (ixN kx : Int) a1) (fun r9 m10 => some (0, m10)) = some (0, addA (upd2 a1 32 3 ((p + 1 : Nat) : Int)) c s 1 (ixN kx : Int)) ∧ GotA a (addA (upd2 a1 32 3 ((p + 1 : Nat) : Int)) c s 1 (ixN kx : Int)) c n T p o s (p + 1) (s + 1) (2 * (6 - o) + 1) (sLet (ixN kx)) := by
          intro a1 hA1 hr1 hr2 hf1 h71
          have hA2 := hA1.to (p' := p + 1) (by omega) (by omega)
          constructor
          · unfold J_X2_letter_40
            rw [stf_s, hA1.2.2.1, wr_s (by omega), show (p : Int) + 1 = ((p + 1 : Nat) : Int) from rfl, hA2.1.2.1, Int.toNat_natCast, grd_s hcd, cadd_s hA2.2.2.2.2.2.2.1 (by omega), cll_s, cll_s]
          · refine GotA.one hA2 (Fr.upd hf1 _ rfl) (by rw [u2r (by omega)]; exact hr1) (by rw [u2r (by omega)]; exact hr2) (by omega) hsp ?_ ?_
            · exact (A_let (by rw [addA_d, upr_s]) (by rw [addA_w, upr_s]) hix).mono (by omega)
            · rw [u2r (by omega)]; exact h71
        have refB : ∀ a', GotA a a' c n T p o s (p + 1) (s + 1) (2 * (6 - o) + 1) (sLet (ixN kx)) → ∃ p' s' k' g b' fv2, GotA a a' c n T p o s p' s' (2 * (6 - o) + 1) g ∧ Bpt (fv' + 1) (upd2 (emB b k 1 y) 54 27 ((p : Int) + 1)) = Bpt fv2 b' ∧ RS b' n T p' o t k' ∧ SegB (b' 73) (b' 74) k k' g ∧ Fr sQ b b' ∧ Keep b b' t k ∧ n - p' + 1 < fv2 := by
          intro a' hg
          refine ⟨p + 1, s + 1, k + 1, sLet (ixN kx), _, fv' + 1, hg, rfl, ?_, ?_, Fr.upd (emB_fr _ _ _ _) _ rfl, ?_, by omega⟩
          · obtain ⟨⟨h1, h2⟩, h3, h4, h5, h6, h7, h8, h9⟩ := hB
            refine ⟨⟨?_, fun i hi => ?_⟩, u2s _ _ _ _, by omega, ?_, ?_, ?_, ?_, by omega⟩
            · rw [u2n (by decide), emB_54 (by decide)]; exact h1
            · rw [u2r (by decide), emB_r (by decide) (by decide) (by decide)]; exact h2 i hi
            · rw [u2n (by decide), emB_54 (by decide)]; exact h5
            · rw [u2n (by decide), emB_31]
            · rw [u2n (by decide), emB_54 (by decide)]; exact h7
            · rw [u2n (by decide), emB_54 (by decide)]; exact h8
          · rw [u2r (by decide), u2r (by decide)]
            exact B_let (by rw [emB_73, upr_s]) (by rw [emB_74, upr_s, hyk]; exact i3 hix) hix
          · have := emB_keep b t k 1 y
            exact ⟨fun i hi => by rw [u2r (by decide)]; exact this.1 i hi, fun i hi => by rw [u2r (by decide), u2r (by decide)]; exact this.2 i hi⟩
        unfold F_X2_letter
        rw [if_pos (by omega), hkx, indexOf_s hk256, cll_s, nmv_s, if_pos hix]
        unfold J_X2_letter_16
        rw [if_pos (by omega)]
        by_cases h9 : ixN kx = 9
        · rw [if_neg (by omega), hA.1.2.1, Int.toNat_natCast, grd_s hcd, stf_s]
          have hA1 : CS (upd2 a c 7 1) c n T p o s := by
            obtain ⟨⟨h1, h2, h3⟩, h4, h5, h6, h7, h8, h9, h10⟩ := hA
            exact ⟨⟨h1, by rw [u2r (by omega)]; exact h2, by rw [u2r (by omega)]; exact h3⟩, fun i hi => by rw [u2r (by omega)]; exact h4 i hi, by rw [u2r (by omega)]; exact h5, h6, by rw [u2r (by omega)]; exact h7, by rw [u2r (by omega)]; exact h8, (u2n (by decide)).trans h9, h10⟩
          obtain ⟨z1, z2⟩ := key _ hA1 (by rw [u2r (by omega)]) (by rw [u2r (by omega)]) (Fr.upd (Fr.refl _ _) _ (sP_c7 c)) (by rw [u2s]; intro z; exact absurd z (by decide))
          exact ⟨_, z1, Or.inr (refB _ z2)⟩
        · rw [if_pos (by omega)]
          obtain ⟨z1, z2⟩ := key a hA rfl rfl (Fr.refl _ _) (fun z => ⟨z, fun e v => by unfold sLet; rw [upr_n h9]⟩)
          exact ⟨_, z1, Or.inr (refB _ z2)⟩
      · rw [isV_f hv, cll_s, if_pos rfl, hB.2.1, wrongs_s h29 1 p (by decide) (by omega), cll_s, cll_s]
        obtain ⟨w1, w2, w3, w4⟩ := fail_s hT hA (x := 1) (by decide)
        have hl : F_X2_letter x a = some (0, upd2 a 32 5 1) := by
          unfold F_X2_letter J_X2_letter_16
          by_cases hx0 : 0 ≤ x
          · obtain ⟨kx, hkx⟩ : ∃ kx : Nat, x = (kx : Int) := ⟨x.toNat, by omega⟩
            have hk256 : kx < 256 := by omega
            have hix : ¬ ixN kx < 10 := fun z => hv (by rw [show y = (kx : Int) by omega]; exact (isV_ix kx).mpr z)
            rw [if_pos hx0, hkx, indexOf_s hk256, cll_s, nmv_s, if_neg hix, if_neg (by decide), w1, cll_s]
          · rw [if_neg hx0, nmv_s, if_neg (by decide), w1, cll_s]
        rw [hl, cll_s]
        refine ⟨_, rfl, Or.inl ⟨w2, _, B_bad (by rw [u2s]; omega) fv', ?_, Fr.upd (Fr.upd (Fr.refl _ _) _ rfl) _ rfl⟩⟩
        rw [u2n (by decide), u2s, w3, w4]

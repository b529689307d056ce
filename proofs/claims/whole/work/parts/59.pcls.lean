/-! a clause -/
def RS0 (b : Mm) (n : Nat) (T : Nat → Int) (p k : Nat) : Prop := (b 54 28 = (n : Int) ∧ ∀ i, i < n → iand (b 55 i) 255 = T i) ∧ b 54 27 = (p : Int) ∧ p ≤ n ∧ b 54 29 = 0 ∧ b 54 31 = (k : Int) ∧ k ≤ p
theorem RS.z {b : Mm} {n : Nat} {T : Nat → Int} {p o t k : Nat} (h : RS b n T p o t k) : RS0 b n T p k := by
  obtain ⟨h1, h3, h4, h5, h6, h7, h8, h9⟩ := h
  exact ⟨h1, h3, h4, h5, h6, by omega⟩
theorem next0 {a : Mm} {c n : Nat} {T : Nat → Int} {p o s : Nat} (hT : TxOk n T) (h : CS a c n T p o s) {b : Mm} {k : Nat} (hb : RS0 b n T p k) : ∃ x y, F_X2_next a = some (x, a) ∧ F_X12_here b = some (y, b) ∧ Nx n T p x y := by
  obtain ⟨⟨h1, h2, h3⟩, h4, h5, h6, _⟩ := h
  obtain ⟨⟨g1, g2⟩, g3, g4, _⟩ := hb
  have hn := hT.1
  unfold F_X2_next F_X12_here
  rw [h5, h3, g1, g3, if_neg (by omega)]
  by_cases hp : p < n
  · rw [if_neg (by omega), if_neg (by omega), ald_s (by omega), ald_s (by omega), Int.toNat_natCast, h4 p hp, g2 p hp]
    exact ⟨_, _, rfl, rfl, Or.inl ⟨hp, rfl, rfl, (hT.2 p hp).1, (hT.2 p hp).2⟩⟩
  · rw [if_pos (by omega), if_pos (by omega)]
    exact ⟨_, _, rfl, rfl, Or.inr ⟨by omega, rfl, rfl⟩⟩
def CLA (a : Mm) (c s m : Nat) (G : Tg) : Prop := ∀ i, i < m → a (c + 3) i = G.2.1 i ∧ bl (G.2.2.1 i) ∧ (a c 7 = 0 → ff (G.2.2.1 i) ∧ ff (G.2.2.2 i)) ∧ ∃ p q r : Nat, a (c + 4) i = (p : Int) ∧ a (c + 5) i = (q : Int) ∧ (if i + 1 < m then a (c + 4) (i + 1) = (r : Int) else r = s) ∧ r ≤ s ∧ SegA (a (c + 1)) (a (c + 2)) p q 24 (G.2.2.2 i) ∧ SegA (a (c + 1)) (a (c + 2)) q r 24 (G.2.2.1 i)
def CLB (b : Mm) (k m : Nat) (G : Tg) : Prop := ∀ i, i < m → b 69 i = G.2.1 i ∧ ∃ p q r : Nat, b 70 i = (p : Int) ∧ b 71 i = (q : Int) ∧ b 72 i = (r : Int) ∧ r ≤ k ∧ SegB (b 73) (b 74) p q (G.2.2.2 i) ∧ SegB (b 73) (b 74) q r (G.2.2.1 i)
def sPc (c k i : Nat) : Bool := sP c k i || (k == c && i == 6) || k == c + 3 || k == c + 4 || k == c + 5
def sQc (k i : Nat) : Bool := sQ k i || (k == 54 && (i == 30 || i == 34)) || k == 69 || k == 70 || k == 71 || k == 72
theorem frPc {a a' : Mm} {c : Nat} (h : Fr (sP c) a a') : Fr (sPc c) a a' := h.mono fun k i e => by
  unfold sPc at e
  cases hs : sP c k i with
  | false => rfl
  | true => rw [hs] at e; exact (nomatch e)
theorem frQc {b b' : Mm} (h : Fr sQ b b') : Fr sQc b b' := h.mono fun k i e => by
  unfold sQc at e
  cases hs : sQ k i with
  | false => rfl
  | true => rw [hs] at e; exact (nomatch e)
theorem sPc_6 (c : Nat) : sPc c c 6 = true := by unfold sPc; simp
theorem sPc_3 (c i : Nat) : sPc c (c + 3) i = true := by unfold sPc; simp
theorem sPc_4 (c i : Nat) : sPc c (c + 4) i = true := by unfold sPc; simp
theorem sPc_5 (c i : Nat) : sPc c (c + 5) i = true := by unfold sPc; simp
theorem sP_n {c k i : Nat} (hc : isCd c) (h : k = c + 3 ∨ k = c + 4 ∨ k = c + 5 ∨ (k = c ∧ i = 6)) : sP c k i = false := by
  unfold sP
  rcases hc with e | e <;> subst e <;> rcases h with h | h | h | ⟨h, h2⟩ <;> subst h <;> simp
  all_goals (try subst h2; decide)
def BadC (a' b' : Mm) : Prop := (1 ≤ a' 32 5 ∧ a' 32 5 ≤ 5) ∧ (0 ≤ a' 32 3 ∧ a' 32 3 ≤ 200) ∧ b' 54 29 = -1000 * a' 32 5 - a' 32 3
theorem ffun (f : Nat → Sem) (m : Nat) (g : Sem) : ∃ f' : Nat → Sem, f' m = g ∧ ∀ i, i ≠ m → f' i = f i := ⟨fun i => if i = m then g else f i, if_pos rfl, fun i hi => if_neg hi⟩
theorem group_f {a : Mm} (h : a 32 5 ≠ 0) : F_X2_group a = some (0, a) := by
  show O_X2_group (Gr1 59 2) a = _
  unfold O_X2_group
  rw [if_neg h]
theorem group_g {a : Mm} (h : a 32 5 = 0) {x : Int} (hx : F_X2_next a = some (x, a)) : F_X2_group a = if x = 40 then cll (F_X2_enter a) (fun r5 m6 => grR (Gr1 59 2) m6) else F_X2_fail 1 a := by
  show O_X2_group (Gr1 59 2) a = _
  unfold O_X2_group
  rw [if_pos h, hx, cll_s]
  by_cases h40 : x = 40
  · rw [if_pos h40, if_pos h40]; rfl
  · rw [if_neg h40, if_neg h40]
    unfold F_X2_fail
    rw [if_neg (fun z => z h), stf_s, cll_s]
theorem begC_s {a : Mm} {c m : Nat} (h6 : a c 6 = ((m + 1 : Nat) : Int)) (hm : m < 14) : F_X0_beginCondition c a = some (0, upd2 a (c + 5) m (a c 5)) := by
  unfold F_X0_beginCondition
  rw [h6, if_neg (by omega), if_neg (by omega), wr_s (by omega), ast_s (by omega), show (((m + 1 : Nat) : Int) - 1).toNat = m by omega]
theorem J126_s {b : Mm} {m : Nat} (h : b 54 30 = (m : Int)) (hm : m < 14) : J_X12_clause_126 b = some (0, upd2 (upd2 b 72 m (b 54 31)) 54 30 ((m + 1 : Nat) : Int)) := by
  unfold J_X12_clause_126
  rw [h, ast_s (by omega), stf_s, u2r (by decide), h, wr_s (by omega), Int.toNat_natCast]
  rfl
/-- a clause, once its letter is read -/
theorem cls_in {a b : Mm} {c n : Nat} {T : Nat → Int} {p s k m : Nat} {x : Int} (hT : TxOk n T) (hA : CS a c n T p 0 s) (hB : RS b n T p 0 0 k) (h6 : a c 6 = ((m + 1 : Nat) : Int)) (h30 : b 54 30 = (m : Int)) (hm : m < 14) (hsk : s ≤ p) (G : Tg)
    (hCA : ∀ i, i < m → a (c + 3) i = G.2.1 i ∧ bl (G.2.2.1 i) ∧ (a c 7 = 0 → ff (G.2.2.1 i) ∧ ff (G.2.2.2 i)) ∧ ∃ p q r : Nat, a (c + 4) i = (p : Int) ∧ a (c + 5) i = (q : Int) ∧ a (c + 4) (i + 1) = (r : Int) ∧ r ≤ s ∧ SegA (a (c + 1)) (a (c + 2)) p q 24 (G.2.2.2 i) ∧ SegA (a (c + 1)) (a (c + 2)) q r 24 (G.2.2.1 i))
    (hl : a (c + 3) m = x) (hl4 : a (c + 4) m = (s : Int)) (hCB : CLB b k m G) (hb69 : b 69 m = x) (hb70 : b 70 m = (k : Int)) :
    ∃ a' b', cll (F_X2_sum a) (fun r7 m8 => grd (isCd (m8 32 1).toNat) (cll (F_X0_beginCondition (m8 32 1).toNat m8) (fun r10 m11 => cll (F_X2_group m11) (fun r12 m13 => some (0, m13))))) = some (0, a') ∧ cll (F_X12_value b) (fun r9 m10 => ast m10 71 14 (m10 54 30) (m10 54 31) (fun m11 => cll (F_X12_isGood m11) (fun r12 m13 => if r12 = 0 then (J_X12_clause_126 m13) else cll (F_X12_condition m13) (fun r15 m16 => (J_X12_clause_126 m16))))) = some (0, b') ∧ Fr (sPc c) a a' ∧ Fr sQc b b' ∧
      (BadC a' b' ∨ ∃ p' s' k' G', CS a' c n T p' 0 s' ∧ RS0 b' n T p' k' ∧ p < p' ∧ a' c 6 = ((m + 1 : Nat) : Int) ∧ b' 54 30 = ((m + 1 : Nat) : Int) ∧ CLA a' c s' (m + 1) G' ∧ CLB b' k' (m + 1) G') := by
  have hcd := hA.1.1
  have hc := hcd
  have hn := hT.1
  obtain ⟨a1, q1, q2⟩ := value_s (by omega) hT hA hB (by unfold topR isTm; simp) (by unfold topR isPl; simp) (by unfold topR; simp)
  rw [q1, cll_s]
  have h6' : ∀ a', Fr (sP c) a a' → a' c 6 = ((m + 1 : Nat) : Int) := fun a' hf => (hf c 6 (sP_n hcd (Or.inr (Or.inr (Or.inr ⟨rfl, rfl⟩))))).trans h6
  -- the reference's end where it went wrong
  have hbadB : ∀ (b1 : Mm), F_X12_value b = some (0, b1) → b1 54 29 ≠ 0 → Fr sQ b b1 → ∃ b', cll (F_X12_value b) (fun r9 m10 => ast m10 71 14 (m10 54 30) (m10 54 31) (fun m11 => cll (F_X12_isGood m11) (fun r12 m13 => if r12 = 0 then (J_X12_clause_126 m13) else cll (F_X12_condition m13) (fun r15 m16 => (J_X12_clause_126 m16))))) = some (0, b') ∧ b' 54 29 = b1 54 29 ∧ Fr sQc b b' := by
    intro b1 hv hb hf
    have h30' : b1 54 30 = (m : Int) := (hf 54 30 rfl).trans h30
    rw [hv, cll_s, h30', ast_s (by omega), Int.toNat_natCast, good_b (by rw [u2r (by decide)]; exact hb), cll_s, if_pos rfl, J126_s (m := m) (by rw [u2r (by decide)]; exact h30') hm]
    exact ⟨_, rfl, by rw [u2n (by decide), u2r (by decide), u2r (by decide)], Fr.upd (Fr.upd (Fr.upd (frQc hf) _ rfl) _ rfl) _ rfl⟩
  rcases q2 with ⟨q2, b1, q3, q4⟩ | ⟨p1, s1, g1, q2, q3⟩
  · -- a fault in the number
    obtain ⟨b', u1, u2, u3⟩ := hbadB b1 q3 (by have := q4.1; have := q2.2.2; omega) q4.2
    have e32 : ∀ v i, (upd2 a1 (c + 5) m v) 32 i = a1 32 i := fun v i => by rw [u2r (by omega)]
    rw [q2.1.2, Int.toNat_natCast, grd_s hcd, begC_s (h6' a1 q2.2.2.2.2) hm, cll_s, group_f (by rw [e32]; exact q2.ne), cll_s]
    refine ⟨_, b', rfl, u1, Fr.upd (frPc q2.2.2.2.2) _ (sPc_5 c _), u3, Or.inl ⟨?_, ?_, ?_⟩⟩
    · rw [e32]; exact q2.2.2.1
    · rw [e32]; exact q2.2.2.2.1
    · rw [e32, e32, u2]; exact q4.1
  · have hgp := q2.2.2.2.2.2.1
    have hpn := q2.1.2.2.2.1
    have h51 := q2.1.2.2.2.2.2.2.1
    rw [q2.1.1.2.1, Int.toNat_natCast, grd_s hcd, begC_s (h6' a1 q2.2.1) hm, cll_s, h51]
    -- the class ahead of its group
    have hA4 : CS (upd2 a1 (c + 5) m (s1 : Int)) c n T p1 0 s1 := by
      obtain ⟨⟨h1, h2, h3⟩, h4, h5, h6, h7, h8, h9, h10⟩ := q2.1
      exact ⟨⟨h1, by rw [u2r (by omega)]; exact h2, by rw [u2r (by omega)]; exact h3⟩, fun i hi => by rw [u2r (by omega)]; exact h4 i hi, by rw [u2r (by omega)]; exact h5, h6, by rw [u2r (by omega)]; exact h7, by rw [u2r (by omega)]; exact h8, by rw [u2r (by omega)]; exact h9, h10⟩
    have hfA4 : Fr (sPc c) a (upd2 a1 (c + 5) m (s1 : Int)) := Fr.upd (frPc q2.2.1) _ (sPc_5 c _)
    obtain ⟨w1, w2, w3, w4⟩ := fail_s hT hA4 (x := 1) (by decide)
    rcases q3 with ⟨b1, k1, r1, r2, r3, r4, r5, r6⟩ | ⟨b1, r1, r2, r3, r4, r5⟩
    · have h30' : b1 54 30 = (m : Int) := (r4 54 30 rfl).trans h30
      have hB4 : RS (upd2 (upd2 b1 71 m (k1 : Int)) 54 34 0) n T p1 0 0 k1 := by
        obtain ⟨⟨h1, h2⟩, h3, h4, h5, h6, h7, h8, h9⟩ := r2
        exact ⟨⟨by rw [u2n (by decide), u2r (by decide)]; exact h1, fun i hi => by rw [u2r (by decide), u2r (by decide)]; exact h2 i hi⟩, by rw [u2n (by decide), u2r (by decide)]; exact h3, h4, by rw [u2n (by decide), u2r (by decide)]; exact h5, by rw [u2n (by decide), u2r (by decide)]; exact h6, by rw [u2n (by decide), u2r (by decide)]; exact h7, by rw [u2n (by decide), u2r (by decide)]; exact h8, h9⟩
      have hfB4 : Fr sQc b (upd2 (upd2 b1 71 m (k1 : Int)) 54 34 0) := Fr.upd (Fr.upd (frQc r4) _ rfl) _ rfl
      obtain ⟨x2, y2, e1, e2, e3⟩ := next_s hT hA4 hB4
      unfold Nx at e3
      have hg4 : (upd2 b1 71 m (k1 : Int)) 54 29 = 0 := by rw [u2r (by decide)]; exact r2.2.2.2.1
      have stB : cll (F_X12_value b) (fun r9 m10 => ast m10 71 14 (m10 54 30) (m10 54 31) (fun m11 => cll (F_X12_isGood m11) (fun r12 m13 => if r12 = 0 then (J_X12_clause_126 m13) else cll (F_X12_condition m13) (fun r15 m16 => (J_X12_clause_126 m16))))) = cll (if y2 = 40 then (J_X12_condition_23 (upd2 (upd2 b1 71 m (k1 : Int)) 54 34 0)) else cll (F_X12_wrongs 1 ((upd2 (upd2 b1 71 m (k1 : Int)) 54 34 0) 54 27) (upd2 (upd2 b1 71 m (k1 : Int)) 54 34 0)) (fun r5 m6 => (J_X12_condition_23 m6))) (fun r15 m16 => (J_X12_clause_126 m16)) := by
        rw [r1, cll_s, h30', r2.2.2.2.2.1, ast_s (by omega), Int.toNat_natCast, good_s hg4, cll_s, if_neg (by decide)]
        unfold F_X12_condition
        rw [stf_s, e2, cll_s]
      rw [stB, group_g hA4.2.2.2.2.2.1 e1]
      by_cases h40 : y2 = 40
      · have hx2 : x2 = 40 := by omega
        have hp1 : p1 < n := by omega
        rw [if_pos hx2, if_pos h40]
        obtain ⟨o1, o2, o3, o4⟩ := opens_s hT hB4 hp1 (by omega) (x := 40) (by omega)
        have o34 : (puB (upd2 (upd2 (upd2 b1 71 m (k1 : Int)) 54 34 0) 54 32 ((0 + 1 : Nat) : Int)) p1 0 40) 54 34 = 0 := (keep34 o3).trans (u2s _ _ _ _)
        have hA5 : CS (upd2 (upd2 (upd2 a1 (c + 5) m (s1 : Int)) 32 4 ((0 + 1 : Nat) : Int)) 32 3 ((p1 + 1 : Nat) : Int)) c n T (p1 + 1) (0 + 1) s1 := (hA4.f4 (0 + 1)).to (by omega) (by omega)
        have hfA5 : Fr (sPc c) a (upd2 (upd2 (upd2 a1 (c + 5) m (s1 : Int)) 32 4 ((0 + 1 : Nat) : Int)) 32 3 ((p1 + 1 : Nat) : Int)) := Fr.upd (Fr.upd hfA4 _ rfl) _ rfl
        have en : F_X2_enter (upd2 a1 (c + 5) m (s1 : Int)) = some (0, upd2 (upd2 (upd2 a1 (c + 5) m (s1 : Int)) 32 4 ((0 + 1 : Nat) : Int)) 32 3 ((p1 + 1 : Nat) : Int)) := by
          unfold F_X2_enter
          rw [hA4.2.2.2.2.1, if_pos (by decide), stf_s, stf_s, u2n (by decide), hA4.2.2.1, wr_s (by omega), wr_s (by omega)]
          rfl
        have hst : J_X12_condition_23 (upd2 (upd2 b1 71 m (k1 : Int)) 54 34 0) = Ppt 100000 99999 (puB (upd2 (upd2 (upd2 b1 71 m (k1 : Int)) 54 34 0) 54 32 ((0 + 1 : Nat) : Int)) p1 0 40) := by
          unfold J_X12_condition_23
          rw [good_s hB4.2.2.2.1, cll_s, if_pos (by decide), o1, cll_s, nmv_s, show (100000 : Nat) = 99999 + 1 from rfl]
          exact Lc_1 o2.2.2.2.1 o34 99999
        rw [en, cll_s, hst]
        obtain ⟨a6, v1, v2⟩ := grp_s (C := Gr1 59 2) (o := 0) fcnd_p (by omega) (fp := 100000) (fc := 99999) hT hA5 o2 o34 (by omega) (by omega) (by rw [puB_75, upr_s])
        rw [v1, cll_s]
        rcases v2 with ⟨v2, b6, v3, v4⟩ | ⟨p2, s2, k2, g2, b6, fc3, v2, v3, v4, v6, v7, v8, v9, v10, v11⟩
        · have h306 : b6 54 30 = (m : Int) := by
            rw [v4.2 54 30 rfl, o3 54 30 rfl, u2n (by decide), u2r (by decide)]; exact h30'
          rw [v3, cll_s, J126_s h306 hm]
          refine ⟨a6, _, rfl, rfl, hfA5.trans (frPc v2.2.2.2.2), Fr.upd (Fr.upd ((hfB4.trans (frQc o3)).trans (frQc v4.2)) _ rfl) _ rfl, Or.inl ⟨v2.2.2.1, v2.2.2.2.1, ?_⟩⟩
          rw [u2n (by decide), u2r (by decide)]; exact v4.1
        · obtain ⟨fc4, rfl⟩ : ∃ f, fc3 = f + 1 := ⟨fc3 - 1, by omega⟩
          rw [if_pos rfl] at v4
          have v4' : Ppt 100000 99999 (puB (upd2 (upd2 (upd2 b1 71 m (k1 : Int)) 54 34 0) 54 32 ((0 + 1 : Nat) : Int)) p1 0 40) = some (0, upd2 b6 54 34 1) := by
            rw [v4]
            unfold J_X12_goesBehind_107
            rw [if_pos (by rw [u2s]; decide), cll_s]
            show LB_X12_condition_37 (L_X12_condition_37 fc4) _ _ = _
            unfold LB_X12_condition_37
            rw [good_s (by rw [u2n (by decide)]; exact v6.2.2.2.1), cll_s, if_neg (by decide), if_pos (by rw [u2s]; decide)]
          have hfb6 : Fr sQc b (upd2 b6 54 34 1) := Fr.upd ((hfB4.trans (frQc o3)).trans (frQc v8)) _ rfl
          have h306 : (upd2 b6 54 34 1) 54 30 = (m : Int) := by
            rw [u2n (by decide), v8 54 30 rfl, o3 54 30 rfl, u2n (by decide), u2r (by decide)]; exact h30'
          rw [v4', cll_s, J126_s h306 hm]
          have l1 := q2.2.2.2.1.1
          have l2 := v2.2.2.2.1.1
          have lk1 := r3.1
          have lk2 := v7.1
          -- rows of the class
          have ra : ∀ j, j ≤ 5 → j ≠ 5 → (upd2 (upd2 (upd2 a1 (c + 5) m (s1 : Int)) 32 4 ((0 + 1 : Nat) : Int)) 32 3 ((p1 + 1 : Nat) : Int)) (c + j) = a1 (c + j) := fun j hj hj2 => by rw [u2r (by omega), u2r (by omega), u2r (by omega)]
          have ra0 : (upd2 (upd2 (upd2 a1 (c + 5) m (s1 : Int)) 32 4 ((0 + 1 : Nat) : Int)) 32 3 ((p1 + 1 : Nat) : Int)) c = a1 c := ra 0 (by omega) (by omega)
          have ra5 : (upd2 (upd2 (upd2 a1 (c + 5) m (s1 : Int)) 32 4 ((0 + 1 : Nat) : Int)) 32 3 ((p1 + 1 : Nat) : Int)) (c + 5) = upr (a1 (c + 5)) m (s1 : Int) := by rw [u2r (by omega), u2r (by omega), u2_row]
          have e3r : a6 (c + 3) = a (c + 3) := by
            rw [v2.2.1.row (c + 3) (fun i => sP_n hcd (Or.inl rfl)), ra 3 (by omega) (by omega), q2.2.1.row (c + 3) (fun i => sP_n hcd (Or.inl rfl))]
          have e4r : a6 (c + 4) = a (c + 4) := by
            rw [v2.2.1.row (c + 4) (fun i => sP_n hcd (Or.inr (Or.inl rfl))), ra 4 (by omega) (by omega), q2.2.1.row (c + 4) (fun i => sP_n hcd (Or.inr (Or.inl rfl)))]
          have e5r : a6 (c + 5) = upr (a (c + 5)) m (s1 : Int) := by
            rw [v2.2.1.row (c + 5) (fun i => sP_n hcd (Or.inr (Or.inr (Or.inl rfl)))), ra5, q2.2.1.row (c + 5) (fun i => sP_n hcd (Or.inr (Or.inr (Or.inl rfl))))]
          have e6r : a6 c 6 = ((m + 1 : Nat) : Int) := by
            rw [v2.2.1 c 6 (sP_n hcd (Or.inr (Or.inr (Or.inr ⟨rfl, rfl⟩)))), ra0]; exact h6' a1 q2.2.1
          have edw : ∀ i, i < s1 → a6 (c + 1) i = a1 (c + 1) i ∧ a6 (c + 2) i = a1 (c + 2) i := fun i hi => by
            have := v2.2.2.1 i hi
            rw [ra 1 (by omega) (by omega), ra 2 (by omega) (by omega)] at this
            exact this
          have edw0 : ∀ i, i < s → a6 (c + 1) i = a (c + 1) i ∧ a6 (c + 2) i = a (c + 2) i := fun i hi => ⟨(edw i (by omega)).1.trans (q2.2.2.1 i hi).1, (edw i (by omega)).2.trans (q2.2.2.1 i hi).2⟩
          have e7 : a6 c 7 = 0 → a c 7 = 0 ∧ ff g1 ∧ ff g2 := fun z => by
            obtain ⟨z1, z2⟩ := v2.2.2.2.2.1 z
            rw [ra0] at z1
            obtain ⟨z3, z4⟩ := q2.2.2.2.2.1 z1
            exact ⟨z3, z4, z2⟩
          -- rows of the reference
          have rb : ∀ j, 69 ≤ j → j ≤ 72 → j ≠ 71 → b6 j = b j := by
            intro j h1 h2 h3
            have z : ∀ i, sQ j i = false := fun i => by
              have : j = 69 ∨ j = 70 ∨ j = 72 := by omega
              rcases this with e | e | e <;> subst e <;> rfl
            rw [v8.row j z, o3.row j z, u2r (by omega), u2r (by omega), r4.row j z]
          have rb71 : b6 71 = upr (b 71) m (k1 : Int) := by
            rw [v8.row 71 (fun _ => rfl), o3.row 71 (fun _ => rfl), u2r (by decide), u2_row, r4.row 71 (fun _ => rfl)]
          have rbk : ∀ i, i < k1 → b6 73 i = b1 73 i ∧ b6 74 i = b1 74 i := fun i hi => by
            have h1 := v9.2 i hi
            have h2 := o4.2 i hi
            rw [u2r (by decide), u2r (by decide), u2r (by decide), u2r (by decide)] at h2
            exact ⟨h1.1.trans h2.1, h1.2.trans h2.2⟩
          have rbk0 : ∀ i, i < k → b6 73 i = b 73 i ∧ b6 74 i = b 74 i := fun i hi => ⟨(rbk i (by omega)).1.trans (r5.2 i hi).1, (rbk i (by omega)).2.trans (r5.2 i hi).2⟩
          have fb : ∀ j, j ≠ 54 → j ≠ 72 → (upd2 (upd2 (upd2 b6 54 34 1) 72 m ((upd2 b6 54 34 1) 54 31)) 54 30 ((m + 1 : Nat) : Int)) j = b6 j := fun j h1 h2 => by rw [u2r h1, u2r h2, u2r h1]
          have fb72 : (upd2 (upd2 (upd2 b6 54 34 1) 72 m ((upd2 b6 54 34 1) 54 31)) 54 30 ((m + 1 : Nat) : Int)) 72 = upr (b6 72) m (k2 : Int) := by
            rw [u2r (by decide), u2_row, u2r (by decide), u2n (by decide), v6.2.2.2.2.1]
          obtain ⟨C', hC1, hC2⟩ := ffun G.2.2.1 m g2
          obtain ⟨N', hN1, hN2⟩ := ffun G.2.2.2 m g1
          refine ⟨a6, _, rfl, rfl, hfA5.trans (frPc v2.2.1), Fr.upd (Fr.upd hfb6 _ rfl) _ rfl, Or.inr ⟨p2, s2, k2, (m + 1, fun i => if i = m then x else G.2.1 i, C', N'), v2.1, ?_, by have := v2.2.2.2.2.2.1; omega, e6r, u2s _ _ _ _, ?_, ?_⟩⟩
          · obtain ⟨⟨h1, h2⟩, h3, h4, h5, h6, h7, h8, h9⟩ := v6
            refine ⟨⟨?_, fun i hi => ?_⟩, ?_, h4, ?_, ?_, by omega⟩
            · rw [u2n (by decide), u2r (by decide), u2n (by decide)]; exact h1
            · rw [u2r (by decide), u2r (by decide), u2r (by decide)]; exact h2 i hi
            · rw [u2n (by decide), u2r (by decide), u2n (by decide)]; exact h3
            · rw [u2n (by decide), u2r (by decide), u2n (by decide)]; exact h5
            · rw [u2n (by decide), u2r (by decide), u2n (by decide)]; exact h6
          · intro i hi
            by_cases him : i = m
            · subst him
              refine ⟨by rw [e3r]; exact hl.trans (if_pos rfl).symm, by show bl (C' i); rw [hC1]; exact v3, fun z => by show ff (C' i) ∧ ff (N' i); rw [hC1, hN1]; exact ⟨(e7 z).2.2, (e7 z).2.1⟩, s, s1, s2, by rw [e4r]; exact hl4, by rw [e5r, upr_s], by rw [if_neg (by omega)], Nat.le_refl _, ?_, ?_⟩
              · show SegA _ _ s s1 24 (N' i)
                rw [hN1]
                exact (q2.2.2.2.1.ext fun j _ hj => edw j hj).mono (by decide)
              · show SegA _ _ s1 s2 24 (C' i)
                rw [hC1]
                exact v2.2.2.2.1.mono (by decide)
            · obtain ⟨t1, t2, t3, p', q', r', t4, t5, t6, t7, t8, t9⟩ := hCA i (by omega)
              have l3 := t8.1
              have l4 := t9.1
              refine ⟨by rw [e3r, t1]; exact (if_neg him).symm, by show bl (C' i); rw [hC2 i him]; exact t2, fun z => by show ff (C' i) ∧ ff (N' i); rw [hC2 i him, hN2 i him]; exact t3 (e7 z).1, p', q', r', by rw [e4r]; exact t4, by rw [e5r, upr_n him]; exact t5, by rw [if_pos (by omega), e4r]; exact t6, by omega, ?_, ?_⟩
              · show SegA _ _ p' q' 24 (N' i)
                rw [hN2 i him]
                exact t8.ext fun j _ hj => edw0 j (by omega)
              · show SegA _ _ q' r' 24 (C' i)
                rw [hC2 i him]
                exact t9.ext fun j _ hj => edw0 j (by omega)
          · intro i hi
            rw [fb 69 (by decide) (by decide), fb 70 (by decide) (by decide), fb 71 (by decide) (by decide), fb72, fb 73 (by decide) (by decide), fb 74 (by decide) (by decide), rb 69 (by omega) (by omega) (by omega), rb 70 (by omega) (by omega) (by omega), rb71, rb 72 (by omega) (by omega) (by omega)]
            by_cases him : i = m
            · subst him
              refine ⟨hb69.trans (if_pos rfl).symm, k, k1, k2, hb70, upr_s _ _ _, upr_s _ _ _, Nat.le_refl _, ?_, ?_⟩
              · show SegB _ _ k k1 (N' i)
                rw [hN1]
                exact r3.ext fun j _ hj => rbk j hj
              · show SegB _ _ k1 k2 (C' i)
                rw [hC1]
                exact v7
            · obtain ⟨t1, p', q', r', t4, t5, t6, t7, t8, t9⟩ := hCB i (by omega)
              have l3 := t8.1
              have l4 := t9.1
              refine ⟨t1.trans (if_neg him).symm, p', q', r', t4, by rw [upr_n him]; exact t5, by rw [upr_n him]; exact t6, by omega, ?_, ?_⟩
              · show SegB _ _ p' q' (N' i)
                rw [hN2 i him]
                exact t8.ext fun j _ hj => rbk0 j (by omega)
              · show SegB _ _ q' r' (C' i)
                rw [hC2 i him]
                exact t9.ext fun j _ hj => rbk0 j (by omega)
      · have hx2 : x2 ≠ 40 := by omega
        rw [if_neg hx2, if_neg h40, w1, cll_s, hB4.2.1, wrongs_s hB4.2.2.2.1 1 p1 (by decide) (by omega), cll_s]
        unfold J_X12_condition_23
        have hb4 : (upd2 (upd2 (upd2 b1 71 m (k1 : Int)) 54 34 0) 54 29 (-1000 * 1 - (p1 : Int))) 54 29 ≠ 0 := by rw [u2s]; omega
        have hb30 : (upd2 (upd2 (upd2 b1 71 m (k1 : Int)) 54 34 0) 54 29 (-1000 * 1 - (p1 : Int))) 54 30 = (m : Int) := by rw [u2n (by decide), u2n (by decide), u2r (by decide)]; exact h30'
        rw [good_b hb4, cll_s, if_neg (by decide), cll_s, J126_s hb30 hm]
        refine ⟨_, _, rfl, rfl, Fr.upd hfA4 _ rfl, Fr.upd (Fr.upd (Fr.upd hfB4 _ rfl) _ rfl) _ rfl, Or.inl ⟨w2.2.2.1, w2.2.2.2.1, ?_⟩⟩
        rw [u2n (by decide), u2r (by decide), u2s, w3, w4]
    · -- the sum ends at a bracket that was not opened
      obtain ⟨b', u1, u2, u3⟩ := hbadB b1 r1 (by omega) r3
      rw [group_g hA4.2.2.2.2.2.1 (next93 hT hA4 r4 r5), if_neg (by decide), w1, cll_s]
      refine ⟨_, b', rfl, u1, Fr.upd hfA4 _ rfl, u3, Or.inl ⟨w2.2.2.1, w2.2.2.2.1, ?_⟩⟩
      rw [u2, r2, w3, w4]; omega

/-! numbers and letters -/
theorem u2u (m : Mm) (k i : Nat) (x y : Int) : upd2 (upd2 m k i x) k i y = upd2 m k i y := by
  funext j l
  by_cases h : j = k
  · subst h
    by_cases h2 : l = i
    · subst h2; rw [u2s, u2s]
    · rw [u2n h2, u2n h2, u2n h2]
  · rw [u2r h, u2r h, u2r h]
theorem u2self {m : Mm} {k i : Nat} {x : Int} (h : m k i = x) : upd2 m k i x = m := by
  funext j l
  by_cases h1 : j = k
  · subst h1
    by_cases h2 : l = i
    · subst h2; rw [u2s, h]
    · rw [u2n h2]
  · rw [u2r h1]
theorem CS.to {a : Mm} {c n : Nat} {T : Nat → Int} {p o s : Nat} (h : CS a c n T p o s) {p' : Nat} (hp : p ≤ p') (hn : p' ≤ n) : CS (upd2 a 32 3 (p' : Int)) c n T p' o s := by
  obtain ⟨⟨h1, h2, h3⟩, h4, h5, h6, h7, h8, h9, h10⟩ := h
  have hc := h1
  exact ⟨⟨h1, (u2n (by decide)).trans h2, (u2n (by decide)).trans h3⟩, fun i hi => by rw [u2r (by decide)]; exact h4 i hi, u2s _ _ _ _, hn, (u2n (by decide)).trans h7, (u2n (by decide)).trans h8, by rw [u2r (by omega)]; exact h9, by omega⟩
theorem RS.to {b : Mm} {n : Nat} {T : Nat → Int} {p o t k : Nat} (h : RS b n T p o t k) {p' : Nat} (hp : p ≤ p') (hn : p' ≤ n) : RS (upd2 b 54 27 (p' : Int)) n T p' o t k := by
  obtain ⟨⟨h1, h2⟩, h3, h4, h5, h6, h7, h8, h9⟩ := h
  exact ⟨⟨(u2n (by decide)).trans h1, fun i hi => by rw [u2r (by decide)]; exact h2 i hi⟩, u2s _ _ _ _, hn, (u2n (by decide)).trans h5, (u2n (by decide)).trans h6, (u2n (by decide)).trans h7, (u2n (by decide)).trans h8, by omega⟩
theorem isDigit_s (x : Int) (m : Mm) : F_X2_isDigit x m = some (b2i (48 ≤ x ∧ x ≤ 57), m) := by
  unfold F_X2_isDigit b2i
  by_cases h1 : x < 48
  · rw [if_pos h1, if_neg (by omega)]
  · rw [if_neg h1]
    by_cases h2 : 57 < x
    · rw [if_pos h2, if_neg (by omega)]
    · rw [if_neg h2, if_pos (by omega)]
theorem sees_s {b : Mm} {y : Int} (h : F_X12_here b = some (y, b)) : F_X12_seesDigit b = some (b2i (48 ≤ y ∧ y ≤ 57), b) := by
  unfold F_X12_seesDigit
  rw [h, cll_s, lies_s, cll_s]
theorem num_l {a b : Mm} {c n : Nat} {T : Nat → Int} {q o s o' t k : Nat} (hT : TxOk n T) (hA : CS a c n T q o s) (hB : RS b n T q o' t k) (hq : q < n) : ∀ (j i : Nat) (v : Int) (f g : Nat), i + j = 5 → q + i ≤ n → j < f → j + 1 < g →
    (∃ (p' : Nat) (w : Int), q + i ≤ p' ∧ p' ≤ n ∧ (48 ≤ T (q + i) ∧ T (q + i) ≤ 57 ∧ q + i < n → q + i < p') ∧ L_X2_number_4 f v (i : Int) (upd2 a 32 3 ((q + i : Nat) : Int)) = some (0, addA (upd2 a 32 3 (p' : Int)) c s 0 w) ∧ L_X12_reads_7 g (q : Int) v (upd2 b 54 27 ((q + i : Nat) : Int)) = some (w, upd2 b 54 27 (p' : Int))) ∨
    (L_X2_number_4 f v (i : Int) (upd2 a 32 3 ((q + i : Nat) : Int)) = some (0, upd2 (upd2 a 32 3 ((q + 5 : Nat) : Int)) 32 5 2) ∧ q + 5 < n ∧ ∃ w b', L_X12_reads_7 g (q : Int) v (upd2 b 54 27 ((q + i : Nat) : Int)) = some (w, b') ∧ b' 54 29 = -2000 - ((q + 5 : Nat) : Int) ∧ Fr sQ b b') := by
  intro j
  induction j with
  | zero =>
    intro i v f g hij hn hf hg
    obtain ⟨f', rfl⟩ : ∃ f', f = f' + 1 := ⟨f - 1, by omega⟩
    obtain ⟨g', rfl⟩ : ∃ g', g = g' + 1 + 1 := ⟨g - 2, by omega⟩
    have hA1 := hA.to (p' := q + i) (by omega) hn
    have hB1 := hB.to (p' := q + i) (by omega) hn
    obtain ⟨x, y, e1, e2, e3⟩ := next_s hT hA1 hB1
    have hcd := hA1.1.1
    have h29 := hB1.2.2.2.1
    have hi5 : i = 5 := by omega
    have hn2 := hT.1
    unfold Nx at e3
    by_cases hd : 48 ≤ y ∧ y ≤ 57
    · right
      have hx : 48 ≤ x ∧ x ≤ 57 := by omega
      refine ⟨?_, by omega, ?_⟩
      · show LB_X2_number_4 (L_X2_number_4 f') _ _ _ = _
        unfold LB_X2_number_4
        rw [e1, cll_s, isDigit_s, cll_s, if_neg (by rw [b2i_t hx]; decide), if_neg (by omega), (fail_s hT hA1 (x := 2) (by decide)).1, cll_s, show q + i = q + 5 by omega]
      · refine ⟨wr (wr (wr (10 * v) + y) - 48), upd2 (upd2 (upd2 b 54 27 ((q + i : Nat) : Int)) 54 29 (-1000 * 2 - ((q + i : Nat) : Int))) 54 27 ((q + i + 1 : Nat) : Int), ?_, ?_, ?_⟩
        · show LB_X12_reads_7 (L_X12_reads_7 (g' + 1)) _ _ _ = _
          unfold LB_X12_reads_7 J_X12_reads_40
          rw [good_s h29, cll_s, if_neg (by decide), sees_s e2, cll_s, if_neg (by rw [b2i_t hd]; decide), u2s, if_neg (by rw [wr_s (by omega)]; omega), wrongs_s h29 2 (q + i) (by decide) (by omega), cll_s]
          have eh : F_X12_here (upd2 (upd2 b 54 27 ((q + i : Nat) : Int)) 54 29 (-1000 * 2 - ((q + i : Nat) : Int))) = some (y, upd2 (upd2 b 54 27 ((q + i : Nat) : Int)) 54 29 (-1000 * 2 - ((q + i : Nat) : Int))) := by
            have hp : q + i < n := by omega
            unfold F_X12_here
            rw [u2n (by decide), u2n (by decide), hB.1.1, u2n (by decide), u2s, if_neg (by omega), ald_s (by omega), u2r (by decide), u2r (by decide), Int.toNat_natCast, hB.1.2 _ hp]
            rcases e3 with z | z
            · rw [z.2.2.1]
            · omega
          rw [eh, cll_s, nmv_s, stf_s, u2n (by decide), u2s, wr_s (x := ((q + i : Nat) : Int) + 1) (by omega)]
          show LB_X12_reads_7 (L_X12_reads_7 g') _ _ _ = _
          unfold LB_X12_reads_7
          rw [good_b (by rw [u2n (by decide), u2s]; omega), cll_s, if_pos rfl]
          rfl
        · rw [u2n (by decide), u2s]; omega
        · exact Fr.upd (Fr.upd (Fr.upd (Fr.refl _ _) _ rfl) _ rfl) _ rfl
    · left
      have hx : ¬ (48 ≤ x ∧ x ≤ 57) := by omega
      have hs5 : (upd2 a 32 3 ((q + i : Nat) : Int)) c 5 = (s : Int) := hA1.2.2.2.2.2.2.1
      have hsq := hA.2.2.2.2.2.2.2
      refine ⟨q + i, v, Nat.le_refl _, hn, fun z => absurd (show 48 ≤ y ∧ y ≤ 57 by omega) hd, ?_, ?_⟩
      · show LB_X2_number_4 (L_X2_number_4 f') _ _ _ = _
        unfold LB_X2_number_4
        rw [e1, cll_s, isDigit_s, cll_s, if_pos (by rw [b2i_f hx]), hA1.1.2.1, Int.toNat_natCast, grd_s hcd, cadd_s hs5 (by omega), cll_s]
      · show LB_X12_reads_7 (L_X12_reads_7 (g' + 1)) _ _ _ = _
        unfold LB_X12_reads_7
        rw [good_s h29, cll_s, if_neg (by decide), sees_s e2, cll_s, if_pos (by rw [b2i_f hd])]
  | succ j ih =>
    intro i v f g hij hn hf hg
    obtain ⟨f', rfl⟩ : ∃ f', f = f' + 1 := ⟨f - 1, by omega⟩
    obtain ⟨g', rfl⟩ : ∃ g', g = g' + 1 := ⟨g - 1, by omega⟩
    have hA1 := hA.to (p' := q + i) (by omega) hn
    have hB1 := hB.to (p' := q + i) (by omega) hn
    obtain ⟨x, y, e1, e2, e3⟩ := next_s hT hA1 hB1
    have hcd := hA1.1.1
    have h29 := hB1.2.2.2.1
    have hn2 := hT.1
    unfold Nx at e3
    by_cases hd : 48 ≤ y ∧ y ≤ 57
    · have hx : 48 ≤ x ∧ x ≤ 57 := by omega
      have hp : q + i < n := by omega
      have exy : x = y := by omega
      have stA : L_X2_number_4 (f' + 1) v (i : Int) (upd2 a 32 3 ((q + i : Nat) : Int)) = L_X2_number_4 f' (wr (wr (wr (10 * v) + y) - 48)) ((i + 1 : Nat) : Int) (upd2 a 32 3 ((q + (i + 1) : Nat) : Int)) := by
        show LB_X2_number_4 (L_X2_number_4 f') _ _ _ = _
        unfold LB_X2_number_4
        rw [e1, cll_s, isDigit_s, cll_s, if_neg (by rw [b2i_t hx]; decide), if_pos (by omega), e1, cll_s, nmv_s, stf_s, nmv_s, u2s, u2u, wr_s (x := (i : Int) + 1) (by omega), wr_s (x := ((q + i : Nat) : Int) + 1) (by omega), exy]
        rfl
      have stB : L_X12_reads_7 (g' + 1) (q : Int) v (upd2 b 54 27 ((q + i : Nat) : Int)) = L_X12_reads_7 g' (q : Int) (wr (wr (wr (10 * v) + y) - 48)) (upd2 b 54 27 ((q + (i + 1) : Nat) : Int)) := by
        show LB_X12_reads_7 (L_X12_reads_7 g') _ _ _ = _
        unfold LB_X12_reads_7 J_X12_reads_40
        rw [good_s h29, cll_s, if_neg (by decide), sees_s e2, cll_s, if_neg (by rw [b2i_t hd]; decide), u2s, if_pos (by rw [wr_s (by omega)]; omega), e2, cll_s, nmv_s, stf_s, u2s, u2u, wr_s (x := ((q + i : Nat) : Int) + 1) (by omega)]
        rfl
      rcases ih (i + 1) (wr (wr (wr (10 * v) + y) - 48)) f' g' (by omega) (by omega) (by omega) (by omega) with ⟨p', w, r1, r2, r3, r4, r5⟩ | ⟨r1, r2, w, b', r3, r4, r5⟩
      · exact Or.inl ⟨p', w, by omega, r2, fun _ => by omega, by rw [stA, r4], by rw [stB, r5]⟩
      · exact Or.inr ⟨by rw [stA, r1], r2, w, b', by rw [stB, r3], r4, r5⟩
    · left
      have hx : ¬ (48 ≤ x ∧ x ≤ 57) := by omega
      have hs5 : (upd2 a 32 3 ((q + i : Nat) : Int)) c 5 = (s : Int) := hA1.2.2.2.2.2.2.1
      have hsq := hA.2.2.2.2.2.2.2
      refine ⟨q + i, v, Nat.le_refl _, hn, fun z => absurd (show 48 ≤ y ∧ y ≤ 57 by omega) hd, ?_, ?_⟩
      · show LB_X2_number_4 (L_X2_number_4 f') _ _ _ = _
        unfold LB_X2_number_4
        rw [e1, cll_s, isDigit_s, cll_s, if_pos (by rw [b2i_f hx]), hA1.1.2.1, Int.toNat_natCast, grd_s hcd, cadd_s hs5 (by omega), cll_s]
      · show LB_X12_reads_7 (L_X12_reads_7 g') _ _ _ = _
        unfold LB_X12_reads_7
        rw [good_s h29, cll_s, if_neg (by decide), sees_s e2, cll_s, if_pos (by rw [b2i_f hd])]
/-! letters -/
def ixN (k : Nat) : Nat := if k = 103 then 0 else if k = 119 then 1 else if k = 108 then 2 else if k = 112 then 3 else if k = 115 then 4 else if k = 100 then 5 else if k = 101 then 6 else if k = 107 then 7 else if k = 97 then 8 else if k = 102 then 9 else 10
def ixv (v : Int) : Int := if 103 = v then 0 else if 119 = v then 1 else if 108 = v then 2 else if 112 = v then 3 else if 115 = v then 4 else if 100 = v then 5 else if 101 = v then 6 else if 107 = v then 7 else if 97 = v then 8 else if 102 = v then 9 else -1
theorem ix_all : ∀ k : Nat, k < 256 → i2c (k : Int) = (k : Int) ∧ ixv (i2b (k : Int)) = (if ixN k < 10 then (ixN k : Int) else -1) ∧ (ixN k < 10 → (k : Int) = ltr (ixN k)) := by decide +kernel
theorem ichar_s (v : Int) (m : Mm) : L_J1_indexOfChar_4cfef_7 100000 10 v 0 m = some (ixv v, m) := by
  have st : ∀ (f j : Nat), j < 10 → L_J1_indexOfChar_4cfef_7 (f + 1) 10 v (j : Int) m = if txF j = v then some ((j : Int), m) else L_J1_indexOfChar_4cfef_7 f 10 v ((j + 1 : Nat) : Int) m := by
    intro f j hj
    show LB_J1_indexOfChar_4cfef_7 (L_J1_indexOfChar_4cfef_7 f) _ _ _ _ = _
    unfold LB_J1_indexOfChar_4cfef_7 txl
    rw [if_neg (by omega), if_pos (by omega), Int.toNat_natCast, nmv_s, wr_s (by omega)]
    show (if ¬ txF j = v then _ else _) = _
    by_cases h : txF j = v
    · rw [if_neg (fun z => z h), if_pos h]
    · rw [if_pos h, if_neg h]; rfl
  have en : ∀ f, L_J1_indexOfChar_4cfef_7 (f + 1) 10 v ((10 : Nat) : Int) m = some (-1, m) := by
    intro f
    show LB_J1_indexOfChar_4cfef_7 (L_J1_indexOfChar_4cfef_7 f) _ _ _ _ = _
    unfold LB_J1_indexOfChar_4cfef_7
    rw [if_pos (by decide)]
  have h0 := st 99999 0 (by decide)
  rw [show ((0 : Nat) : Int) = 0 from rfl, show (99999 + 1 : Nat) = 100000 from rfl] at h0
  rw [h0, show (99999 : Nat) = 99989 + 1 + 1 + 1 + 1 + 1 + 1 + 1 + 1 + 1 + 1 from rfl, st _ 1 (by decide), st _ 2 (by decide), st _ 3 (by decide), st _ 4 (by decide), st _ 5 (by decide), st _ 6 (by decide), st _ 7 (by decide), st _ 8 (by decide), st _ 9 (by decide), en]
  unfold ixv
  rw [show txF 0 = 103 from rfl, show txF 1 = 119 from rfl, show txF 2 = 108 from rfl, show txF 3 = 112 from rfl, show txF 4 = 115 from rfl, show txF 5 = 100 from rfl, show txF 6 = 101 from rfl, show txF 7 = 107 from rfl, show txF 8 = 97 from rfl, show txF 9 = 102 from rfl]
  repeat' split
  all_goals rfl
theorem indexOf_s {k : Nat} (hk : k < 256) (m : Mm) : F_J0_indexOf_0f7a4 (i2c (k : Int)) m = some (if ixN k < 10 then (ixN k : Int) else -1, m) := by
  obtain ⟨h1, h2, h3⟩ := ix_all k hk
  unfold F_J0_indexOf_0f7a4 F_J0_indexOf_7cf53 F_J0_isLatin1_aae02 F_J0_length_8abf5 F_J0_coder_7d493 F_J1_indexOf_4cfef F_J1_canEncode_9a6ad F_J1_indexOfChar_4cfef
  rw [h1, if_neg (by decide), if_neg (by decide), cll_s, if_neg (by decide), if_neg (by decide), cll_s, cll_s, if_neg (by omega), if_neg (by omega), cll_s, if_pos (by decide), max_s, cll_s, nmv_s, min_s, cll_s, nmv_s, show ishr 10 0 = 10 from by decide, show max (0 : Int) 0 = 0 from rfl, show min (10 : Int) 10 = 10 from rfl, if_pos (by decide), nmv_s, nmv_s, ichar_s, cll_s, cll_s, cll_s, h2]
def isV (y : Int) : Prop := y = 103 ∨ y = 119 ∨ y = 108 ∨ y = 112 ∨ y = 115 ∨ y = 100 ∨ y = 101 ∨ y = 107 ∨ y = 97 ∨ y = 102
theorem isV_t {y : Int} (h : isV y) (m : Mm) : F_X12_isValue y m = some (1, m) := by
  unfold isV at h; unfold F_X12_isValue
  rcases h with e | e | e | e | e | e | e | e | e | e <;> subst e <;> rfl
theorem isV_f {y : Int} (h : ¬ isV y) (m : Mm) : F_X12_isValue y m = some (0, m) := by
  unfold isV at h; unfold F_X12_isValue
  rw [if_neg (by omega), if_neg (by omega), if_neg (by omega), if_neg (by omega), if_neg (by omega), if_neg (by omega), if_neg (by omega), if_neg (by omega), if_neg (by omega), if_pos (by omega)]
theorem isV_ix (k : Nat) : isV (k : Int) ↔ ixN k < 10 := by
  unfold isV ixN
  constructor
  · intro h
    repeat' split
    all_goals omega
  · intro h
    repeat' split at h
    all_goals omega

/-! pieces of code put together, the class's -/
theorem A_num {d w : Nat → Int} {p : Nat} (hd : d p = 0) : SegA d w p (p + 1) 1 (sNum (w p)) := by
  refine ⟨by omega, ?_⟩
  intro m c to t n hc h3 hs h5 hq hto ht hn
  obtain ⟨n', rfl⟩ : ∃ n', n = n' + 1 := ⟨n - 1, by omega⟩
  have h := hs p (by omega) (by omega)
  refine ⟨fun e => (nomatch e), fun v hv => ⟨upd2 m 19 t (w p), n', ?_, Fr.upd (Fr.refl _ _) _ rfl, by rw [u2r (by decide)]; exact h5, fun i hi => u2n (by omega), ?_, by omega⟩⟩
  · rw [run_num hc h3 h5 (by omega) hto (h.1.trans hd) (by omega), h.2]
  · rw [u2s]; exact Option.some.inj hv
theorem A_let {d w : Nat → Int} {p i : Nat} (hd : d p = 1) (hw : w p = (i : Int)) (hi : i < 10) : SegA d w p (p + 1) 1 (sLet i) := by
  refine ⟨by omega, ?_⟩
  intro m c to t n hc h3 hs h5 hq hto ht hn
  obtain ⟨n', rfl⟩ : ∃ n', n = n' + 1 := ⟨n - 1, by omega⟩
  have h := hs p (by omega) (by omega)
  refine ⟨fun e => (nomatch e), fun v hv => ⟨upd2 m 19 t (m 18 i), n', ?_, Fr.upd (Fr.refl _ _) _ rfl, by rw [u2r (by decide)]; exact h5, fun i hi => u2n (by omega), ?_, by omega⟩⟩
  · rw [run_let hc h3 h5 (by omega) hto (h.1.trans hd) (h.2.trans hw) hi (by omega)]
  · rw [u2s]
    have := Option.some.inj hv
    unfold evA at this
    rw [if_pos hi] at this
    exact this
theorem A_bin {d w : Nat → Int} {p q r k k' : Nat} {f g : Sem} {op : Int} (hf : SegA d w p q k f) (hg : SegA d w q r k' g) (hd : d r = op) (ho : isOp op) (hk : 1 ≤ k') : SegA d w p (r + 1) (max k (k' + 1)) (sBin op f g) := by
  refine ⟨by have := hf.1; have := hg.1; omega, ?_⟩
  intro m c to t n hc h3 hs h5 hq hto ht hn
  have l1 := hf.1
  have l2 := hg.1
  have hF := hf.2 m c to t n hc h3 (fun i a b => hs i a (by omega)) h5 (by omega) hto (by omega) hn
  cases ef : f (evA m) with
  | none =>
    have e0 : sBin op f g (evA m) = none := by unfold sBin; rw [ef]; rfl
    refine ⟨fun _ => hF.1 ef, fun v hv => by rw [e0] at hv; exact (nomatch hv)⟩
  | some x =>
    obtain ⟨m1, n1, a1, a2, a3, a4, a5, a6⟩ := hF.2 x ef
    have hcd := hc
    unfold isCd at hcd
    have h31 : m1 17 3 = (c : Int) := (a2 17 3 rfl).trans h3
    have hs1 : ∀ i, p ≤ i → i < r + 1 → m1 (c + 1) i = d i ∧ m1 (c + 2) i = w i := by
      intro i u v
      have := hs i u v
      rcases hcd with e | e <;> subst e <;> exact ⟨(a2 _ _ rfl).trans this.1, (a2 _ _ rfl).trans this.2⟩
    have hG := hg.2 m1 c to (t + 1) n1 hc h31 (fun i a b => hs1 i (by omega) (by omega)) a3 (by omega) hto (by omega) a6
    rw [evA_fr a2] at hG
    cases eg : g (evA m) with
    | none =>
      have e0 : sBin op f g (evA m) = none := by unfold sBin; rw [ef, eg]; rfl
      obtain ⟨m2, b1, b2⟩ := hG.1 eg
      refine ⟨fun _ => ⟨m2, by rw [a1, b1], a2.trans b2⟩, fun v hv => by rw [e0] at hv; exact (nomatch hv)⟩
    | some y =>
      obtain ⟨m2, n2, b1, b2, b3, b4, b5, b6⟩ := hG.2 y eg
      obtain ⟨n3, rfl⟩ : ∃ n', n2 = n' + 1 := ⟨n2 - 1, by omega⟩
      have h32 : m2 17 3 = (c : Int) := (b2 17 3 rfl).trans h31
      have hd2 : m2 (c + 1) r = op := by
        have := (hs1 r (by omega) (by omega)).1
        rcases hcd with e | e <;> subst e <;> exact ((b2 _ _ rfl).trans this).trans hd
      have hst := run_bin (n := n3) hc h32 b3 (show r < to by omega) hto hd2 ho (t := t) (by omega)
      rw [b5, b4 t (by omega), a5] at hst
      have e0 : sBin op f g (evA m) = if (op = 47 ∨ op = 37) ∧ y = 0 then none else some (ar op x y) := by unfold sBin; rw [ef, eg]; rfl
      rw [e0]
      by_cases hz : (op = 47 ∨ op = 37) ∧ y = 0
      · rw [if_pos hz] at hst
        rw [if_pos hz]
        refine ⟨fun _ => ⟨_, by rw [a1, b1, hst], Fr.upd (Fr.upd (a2.trans b2) _ rfl) _ rfl⟩, fun v hv => (nomatch hv)⟩
      · rw [if_neg hz] at hst
        rw [if_neg hz]
        refine ⟨fun hv => (nomatch hv), fun v hv => ⟨upd2 m2 19 t (ar op x y), n3, by rw [a1, b1, hst], Fr.upd (a2.trans b2) _ rfl, by rw [u2r (by decide)]; exact b3, fun i hi => ?_, ?_, by omega⟩⟩
        · rw [u2n (by omega), b4 i (by omega), a4 i hi]
        · rw [u2s]; exact Option.some.inj hv
theorem A_not {d w : Nat → Int} {p q k : Nat} {f : Sem} (hf : SegA d w p q k f) (hd : d q = 2) (hk : 1 ≤ k) : SegA d w p (q + 1) k (sNot f) := by
  refine ⟨by have := hf.1; omega, ?_⟩
  intro m c to t n hc h3 hs h5 hq hto ht hn
  have l1 := hf.1
  have hF := hf.2 m c to t n hc h3 (fun i a b => hs i a (by omega)) h5 (by omega) hto (by omega) hn
  cases ef : f (evA m) with
  | none =>
    have e0 : sNot f (evA m) = none := by unfold sNot; rw [ef]; rfl
    refine ⟨fun _ => hF.1 ef, fun v hv => by rw [e0] at hv; exact (nomatch hv)⟩
  | some x =>
    obtain ⟨m1, n1, a1, a2, a3, a4, a5, a6⟩ := hF.2 x ef
    have hcd := hc
    unfold isCd at hcd
    have h31 : m1 17 3 = (c : Int) := (a2 17 3 rfl).trans h3
    have hd2 : m1 (c + 1) q = 2 := by
      have := (hs q (by omega) (by omega)).1
      rcases hcd with e | e <;> subst e <;> exact ((a2 _ _ rfl).trans this).trans hd
    obtain ⟨n3, rfl⟩ : ∃ n', n1 = n' + 1 := ⟨n1 - 1, by omega⟩
    have hst := run_not (n := n3) hc h31 a3 (show q < to by omega) hto hd2 (t := t) (by omega)
    rw [a5] at hst
    have e0 : sNot f (evA m) = some (wr (1 - x)) := by unfold sNot; rw [ef]; rfl
    rw [e0]
    refine ⟨fun hv => (nomatch hv), fun v hv => ⟨upd2 m1 19 t (wr (1 - x)), n3, by rw [a1, hst], Fr.upd a2 _ rfl, by rw [u2r (by decide)]; exact a3, fun i hi => ?_, ?_, by omega⟩⟩
    · rw [u2n (by omega), a4 i hi]
    · rw [u2s]; exact Option.some.inj hv
theorem A_and {d w : Nat → Int} {p q r k : Nat} {f g : Sem} (hf : SegA d w p q k f) (hd : d q = 3) (hw : w q = (r : Int)) (hg : SegA d w (q + 1) r k g) (hk : 1 ≤ k) : SegA d w p r k (sAnd f g) := by
  refine ⟨by have := hf.1; have := hg.1; omega, ?_⟩
  intro m c to t n hc h3 hs h5 hq hto ht hn
  have l1 := hf.1
  have l2 := hg.1
  have hF := hf.2 m c to t n hc h3 (fun i a b => hs i a (by omega)) h5 (by omega) hto (by omega) hn
  cases ef : f (evA m) with
  | none =>
    have e0 : sAnd f g (evA m) = none := by unfold sAnd; rw [ef]; rfl
    refine ⟨fun _ => hF.1 ef, fun v hv => by rw [e0] at hv; exact (nomatch hv)⟩
  | some x =>
    obtain ⟨m1, n1, a1, a2, a3, a4, a5, a6⟩ := hF.2 x ef
    have hcd := hc
    unfold isCd at hcd
    have h31 : m1 17 3 = (c : Int) := (a2 17 3 rfl).trans h3
    have hs1 : ∀ i, p ≤ i → i < r → m1 (c + 1) i = d i ∧ m1 (c + 2) i = w i := by
      intro i u v
      have := hs i u v
      rcases hcd with e | e <;> subst e <;> exact ⟨(a2 _ _ rfl).trans this.1, (a2 _ _ rfl).trans this.2⟩
    have hq1 := hs1 q (by omega) (by omega)
    obtain ⟨n3, rfl⟩ : ∃ n', n1 = n' + 1 := ⟨n1 - 1, by omega⟩
    have hst := run_and (n := n3) hc h31 a3 (show q < to by omega) hto (hq1.1.trans hd) (hq1.2.trans hw) (by omega) (by omega) (t := t) (by omega)
    rw [a5] at hst
    have e0 : sAnd f g (evA m) = if x = 1 then g (evA m) else some x := by unfold sAnd; rw [ef]; rfl
    rw [e0]
    by_cases hx : x = 1
    · rw [if_pos hx] at hst
      rw [if_pos hx]
      have hG := hg.2 m1 c to t n3 hc h31 (fun i a b => hs1 i (by omega) (by omega)) a3 (by omega) hto (by omega) (by omega)
      rw [evA_fr a2] at hG
      refine ⟨fun hv => ?_, fun v hv => ?_⟩
      · obtain ⟨m2, b1, b2⟩ := hG.1 hv
        exact ⟨m2, by rw [a1, hst, b1], a2.trans b2⟩
      · obtain ⟨m2, n2, b1, b2, b3, b4, b5, b6⟩ := hG.2 v hv
        exact ⟨m2, n2, by rw [a1, hst, b1], a2.trans b2, b3, fun i hi => by rw [b4 i hi, a4 i hi], b5, b6⟩
    · rw [if_neg hx] at hst
      rw [if_neg hx]
      refine ⟨fun hv => (nomatch hv), fun v hv => ⟨m1, n3, by rw [a1, hst], a2, a3, a4, by rw [a5]; exact Option.some.inj hv, by omega⟩⟩
theorem A_or {d w : Nat → Int} {p q r k : Nat} {f g : Sem} (hf : SegA d w p q k f) (hb : bl f) (hd : d q = 4) (hw : w q = (r : Int)) (hg : SegA d w (q + 1) r k g) (hk : 1 ≤ k) : SegA d w p r k (sOr f g) := by
  refine ⟨by have := hf.1; have := hg.1; omega, ?_⟩
  intro m c to t n hc h3 hs h5 hq hto ht hn
  have l1 := hf.1
  have l2 := hg.1
  have hF := hf.2 m c to t n hc h3 (fun i a b => hs i a (by omega)) h5 (by omega) hto (by omega) hn
  cases ef : f (evA m) with
  | none =>
    have e0 : sOr f g (evA m) = none := by unfold sOr; rw [ef]; rfl
    refine ⟨fun _ => hF.1 ef, fun v hv => by rw [e0] at hv; exact (nomatch hv)⟩
  | some x =>
    have hbx := hb _ _ ef
    obtain ⟨m1, n1, a1, a2, a3, a4, a5, a6⟩ := hF.2 x ef
    have hcd := hc
    unfold isCd at hcd
    have h31 : m1 17 3 = (c : Int) := (a2 17 3 rfl).trans h3
    have hs1 : ∀ i, p ≤ i → i < r → m1 (c + 1) i = d i ∧ m1 (c + 2) i = w i := by
      intro i u v
      have := hs i u v
      rcases hcd with e | e <;> subst e <;> exact ⟨(a2 _ _ rfl).trans this.1, (a2 _ _ rfl).trans this.2⟩
    have hq1 := hs1 q (by omega) (by omega)
    obtain ⟨n3, rfl⟩ : ∃ n', n1 = n' + 1 := ⟨n1 - 1, by omega⟩
    have hst := run_or (n := n3) hc h31 a3 (show q < to by omega) hto (hq1.1.trans hd) (hq1.2.trans hw) (by omega) (by omega) (t := t) (by omega)
    rw [a5] at hst
    have e0 : sOr f g (evA m) = if x = 0 then g (evA m) else some x := by unfold sOr; rw [ef]; rfl
    rw [e0]
    by_cases hx : x = 0
    · rw [if_neg (by omega)] at hst
      rw [if_pos hx]
      have hG := hg.2 m1 c to t n3 hc h31 (fun i a b => hs1 i (by omega) (by omega)) a3 (by omega) hto (by omega) (by omega)
      rw [evA_fr a2] at hG
      refine ⟨fun hv => ?_, fun v hv => ?_⟩
      · obtain ⟨m2, b1, b2⟩ := hG.1 hv
        exact ⟨m2, by rw [a1, hst, b1], a2.trans b2⟩
      · obtain ⟨m2, n2, b1, b2, b3, b4, b5, b6⟩ := hG.2 v hv
        exact ⟨m2, n2, by rw [a1, hst, b1], a2.trans b2, b3, fun i hi => by rw [b4 i hi, a4 i hi], b5, b6⟩
    · rw [if_pos (by omega)] at hst
      rw [if_neg hx]
      refine ⟨fun hv => (nomatch hv), fun v hv => ⟨m1, n3, by rw [a1, hst], a2, a3, a4, by rw [a5]; exact Option.some.inj hv, by omega⟩⟩

/-! whole numbers for the machine's ints and longs; memory as a function; the words that methods are said in -/
def wr (x : Int) : Int := (x + 2147483648) % 4294967296 - 2147483648
def wl (x : Int) : Int := (x + 9223372036854775808) % 18446744073709551616 - 9223372036854775808
def inR (x : Int) : Prop := -2147483648 ≤ x ∧ x ≤ 2147483647
def inL (x : Int) : Prop := -9223372036854775808 ≤ x ∧ x ≤ 9223372036854775807
def iV (x : Int) : Value := .int (Int32.ofInt x)
def lV (x : Int) : Value := .long (Int64.ofInt x)
theorem wr_bmod (x : Int) : x.bmod 4294967296 = wr x := by unfold wr Int.bmod; dsimp only; split <;> omega
theorem wl_bmod (x : Int) : x.bmod 18446744073709551616 = wl x := by unfold wl Int.bmod; dsimp only; split <;> omega
theorem rg_wr (x : Int) : inR (wr x) := by unfold wr inR; omega
theorem rg_wl (x : Int) : inL (wl x) := by unfold wl inL; omega
theorem wr_id {x : Int} (h : inR x) : wr x = x := by unfold inR at h; unfold wr; omega
theorem wl_id {x : Int} (h : inL x) : wl x = x := by unfold inL at h; unfold wl; omega
theorem rg_RL {x : Int} (h : inR x) : inL x := by unfold inR at h; unfold inL; omega
theorem rg_01 {x : Int} (h : x = 0 ∨ x = 1) : inR x := by unfold inR; omega
theorem t_ofI (x : Int) : (Int32.ofInt x).toInt = wr x := by rw [Int32.toInt_ofInt]; exact wr_bmod x
theorem t_ofL (x : Int) : (Int64.ofInt x).toInt = wl x := by rw [Int64.toInt_ofInt]; exact wl_bmod x
theorem t_ofI' {x : Int} (h : inR x) : (Int32.ofInt x).toInt = x := by rw [t_ofI, wr_id h]
theorem t_ofL' {x : Int} (h : inL x) : (Int64.ofInt x).toInt = x := by rw [t_ofL, wl_id h]
theorem rg_tI (x : Int32) : inR x.toInt := by
  have h1 := x.toInt_lt; have h2 := x.le_toInt; unfold inR; omega
theorem rg_tL (x : Int64) : inL x.toInt := by
  have h1 := x.toInt_lt; have h2 := x.le_toInt; unfold inL; omega
theorem of_wr (x : Int) : Int32.ofInt (wr x) = Int32.ofInt x := Int32.toInt_inj.mp (by rw [t_ofI, t_ofI, wr_id (rg_wr x)])
theorem of_wl (x : Int) : Int64.ofInt (wl x) = Int64.ofInt x := Int64.toInt_inj.mp (by rw [t_ofL, t_ofL, wl_id (rg_wl x)])
theorem o_add (x y : Int) : Int32.ofInt x + Int32.ofInt y = Int32.ofInt (wr (x + y)) := by rw [of_wr, Int32.ofInt_add]
theorem o_sub (x y : Int) : Int32.ofInt x - Int32.ofInt y = Int32.ofInt (wr (x - y)) := by rw [of_wr, Int32.ofInt_sub]
theorem o_mul (x y : Int) : Int32.ofInt x * Int32.ofInt y = Int32.ofInt (wr (x * y)) := by rw [of_wr, Int32.ofInt_mul]
theorem o_neg (x : Int) : - Int32.ofInt x = Int32.ofInt (wr (-x)) := by rw [of_wr, Int32.ofInt_neg]
theorem o_addL (x y : Int) : Int64.ofInt x + Int64.ofInt y = Int64.ofInt (wl (x + y)) := by rw [of_wl, Int64.ofInt_add]
theorem o_mulL (x y : Int) : Int64.ofInt x * Int64.ofInt y = Int64.ofInt (wl (x * y)) := by rw [of_wl, Int64.ofInt_mul]
theorem mn32 : Int32.minValue.toInt = -2147483648 := by decide
theorem mx32 : Int32.maxValue.toInt = 2147483647 := by decide
theorem o_div {x y : Int} (hx : inR x) (hy : inR y) : Int32.ofInt x / Int32.ofInt y = Int32.ofInt (wr (x.tdiv y)) := by
  rw [of_wr, Int32.ofInt_tdiv (by rw [mn32]; exact hx.1) (by rw [mx32]; exact hx.2) (by rw [mn32]; exact hy.1) (by rw [mx32]; exact hy.2)]
theorem o_rem {x y : Int} (hx : inR x) (hy : inR y) : Int32.ofInt x - Int32.ofInt x / Int32.ofInt y * Int32.ofInt y = Int32.ofInt (wr (x.tmod y)) := by
  rw [o_div hx hy, of_wr, of_wr, ← Int32.ofInt_mul, ← Int32.ofInt_sub]
  congr 1
  have h := Int.mul_tdiv_add_tmod x y
  rw [Int.mul_comm] at h
  omega
theorem o_ne0 {y : Int} (hy : inR y) (h : ¬ y = 0) : ¬ Int32.ofInt y = 0 := by
  intro e
  have h2 : (Int32.ofInt y).toInt = (0 : Int32).toInt := by rw [e]
  rw [t_ofI' hy] at h2
  exact h h2
theorem o_lt {x y : Int} (hx : inR x) (hy : inR y) : Int32.ofInt x < Int32.ofInt y ↔ x < y := by rw [Int32.lt_iff_toInt_lt, t_ofI' hx, t_ofI' hy]
theorem o_le {x y : Int} (hx : inR x) (hy : inR y) : Int32.ofInt x ≤ Int32.ofInt y ↔ x ≤ y := by rw [Int32.le_iff_toInt_le, t_ofI' hx, t_ofI' hy]
theorem o_eq {x y : Int} (hx : inR x) (hy : inR y) : Int32.ofInt x = Int32.ofInt y ↔ x = y := by rw [← Int32.toInt_inj, t_ofI' hx, t_ofI' hy]
theorem o_ltL {x y : Int} (hx : inL x) (hy : inL y) : Int64.ofInt x < Int64.ofInt y ↔ x < y := by rw [Int64.lt_iff_toInt_lt, t_ofL' hx, t_ofL' hy]
theorem o_eqL {x y : Int} (hx : inL x) (hy : inL y) : Int64.ofInt x = Int64.ofInt y ↔ x = y := by rw [← Int64.toInt_inj, t_ofL' hx, t_ofL' hy]
theorem o_i2l {x : Int} (hx : inR x) : (Int32.ofInt x).toInt64 = Int64.ofInt x := Int64.toInt_inj.mp (by rw [Int32.toInt_toInt64, t_ofI' hx, t_ofL' (rg_RL hx)])
theorem o_z : (0 : Int32) = Int32.ofInt 0 := rfl
def iand (x y : Int) : Int := (Int32.ofInt x &&& Int32.ofInt y).toInt
def ior (x y : Int) : Int := (Int32.ofInt x ||| Int32.ofInt y).toInt
def ixor (x y : Int) : Int := (Int32.ofInt x ^^^ Int32.ofInt y).toInt
def ishl (x y : Int) : Int := (Int32.ofInt x <<< (Int32.ofInt y &&& 31)).toInt
def ishr (x y : Int) : Int := (Int32.ofInt x >>> (Int32.ofInt y &&& 31)).toInt
def iushr (x y : Int) : Int := ((Int32.ofInt x).toUInt32 >>> ((Int32.ofInt y).toUInt32 &&& Int32.toUInt32 31)).toInt32.toInt
def i2b (x : Int) : Int := ((Int32.ofInt x).toInt8.toInt32).toInt
def i2c (x : Int) : Int := (((Int32.ofInt x).toUInt32 % 65536).toInt32).toInt
def lor (x y : Int) : Int := (Int64.ofInt x ||| Int64.ofInt y).toInt
def lshl (x y : Int) : Int := (Int64.ofInt x <<< ((Int32.ofInt y).toInt64 &&& 63)).toInt
def lcmp (x y : Int) : Int := if x < y then -1 else if x = y then 0 else 1
theorem of_tI (x : Int32) : Int32.ofInt x.toInt = x := Int32.ofInt_toInt x
theorem of_tL (x : Int64) : Int64.ofInt x.toInt = x := Int64.ofInt_toInt x
theorem rg_lcmp (x y : Int) : inR (lcmp x y) := by unfold lcmp inR; split <;> (try split) <;> omega
/-! memory: cell, place -/
abbrev Mm : Type := Nat → Nat → Int
abbrev Rs : Type := Option (Int × Mm)
def upr (r : Nat → Int) (i : Nat) (v : Int) : Nat → Int := fun j => if j = i then v else r j
def upd2 (m : Mm) (c i : Nat) (v : Int) : Mm := fun k => if k = c then upr (m c) i v else m k
def okR (o : Rs) (Q : Int → Mm → Prop) : Prop := match o with
  | some q => Q q.1 q.2
  | none => False
def nmv (v : Int) (K : Int → Rs) : Rs := K v
def stf (m : Mm) (c i : Nat) (v : Int) (K : Mm → Rs) : Rs := K (upd2 m c i v)
def ald (m : Mm) (a n : Nat) (i : Int) (K : Int → Rs) : Rs := if 0 ≤ i ∧ i < (n : Int) then K (m a i.toNat) else none
def ast (m : Mm) (a n : Nat) (i v : Int) (K : Mm → Rs) : Rs := if 0 ≤ i ∧ i < (n : Int) then K (upd2 m a i.toNat v) else none
def dvn (y : Int) (K : Rs) : Rs := if y = 0 then none else K
def grd (c : Prop) [Decidable c] (K : Rs) : Rs := if c then K else none
def cll (o : Rs) (K : Int → Mm → Rs) : Rs := match o with
  | some q => K q.1 q.2
  | none => none
theorem okR_ite {c : Prop} [Decidable c] {A B : Rs} {Q : Int → Mm → Prop} (h : okR (if c then A else B) Q) : (c → okR A Q) ∧ (¬ c → okR B Q) := by
  by_cases hc : c
  · rw [if_pos hc] at h; exact ⟨fun _ => h, fun n => absurd hc n⟩
  · rw [if_neg hc] at h; exact ⟨fun n => absurd n hc, fun _ => h⟩
theorem okR_cll {o : Rs} {K : Int → Mm → Rs} {Q : Int → Mm → Prop} (h : okR (cll o K) Q) : ∃ r m, o = some (r, m) ∧ okR (K r m) Q := by
  cases o with
  | none => exact absurd h (fun x => x)
  | some q => exact ⟨q.1, q.2, rfl, h⟩
theorem okR_some {o : Rs} {r : Int} {m : Mm} (h : o = some (r, m)) : okR o (fun a b => o = some (a, b)) := by
  subst h; exact rfl
theorem c_lcmp {x y : Int} (hx : inL x) (hy : inL y) : lg_cmp (Int64.ofInt x) (Int64.ofInt y) = Int32.ofInt (lcmp x y) := by
  unfold lg_cmp lcmp
  simp only [o_ltL hx hy, o_eqL hx hy, o_ltL hy hx]
  by_cases h1 : x < y
  · have h2 : ¬ y < x := by omega
    have h3 : ¬ x = y := by omega
    simp [h1, h2, h3]
  · by_cases h2 : x = y
    · simp [h2]
    · have h3 : y < x := by omega
      simp [h1, h2, h3]

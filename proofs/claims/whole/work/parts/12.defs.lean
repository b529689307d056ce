def F_X0_clear (c : Nat) (m : Mm) : Rs := stf m c 5 0 (fun m1 => stf m1 c 6 0 (fun m2 => stf m2 c 7 0 (fun m3 => some (0, m3))))
def F_X0_add (c : Nat) (a1 : Int) (a2 : Int) (m : Mm) : Rs := if 200 ≤ (m c 5) then some ((wr ((m c 5) - 1)), m) else ast m (c + 1) 200 (m c 5) a1 (fun m2 => ast m2 (c + 2) 200 (m2 c 5) a2 (fun m3 => stf m3 c 5 (wr ((m3 c 5) + 1)) (fun m4 => some ((wr ((m4 c 5) - 1)), m4))))
def F_X0_landHere (c : Nat) (a1 : Int) (m : Mm) : Rs := if a1 < 0 then some (0, m) else if (m c 5) ≤ a1 then some (0, m) else ast m (c + 2) 200 a1 (m c 5) (fun m3 => some (0, m3))
def F_X0_beginClause (c : Nat) (a1 : Int) (m : Mm) : Rs := if 14 ≤ (m c 6) then some (0, m) else ast m (c + 3) 14 (m c 6) a1 (fun m2 => ast m2 (c + 4) 14 (m2 c 6) (m2 c 5) (fun m3 => stf m3 c 6 (wr ((m3 c 6) + 1)) (fun m4 => some (0, m4))))
def F_X0_beginCondition (c : Nat) (m : Mm) : Rs := if (m c 6) ≤ 0 then some (0, m) else if 14 < (m c 6) then some (0, m) else ast m (c + 5) 14 (wr ((m c 6) - 1)) (m c 5) (fun m3 => some (0, m3))
def F_X0_endOf (c : Nat) (a1 : Int) (m : Mm) : Rs := if a1 < 0 then some ((m c 5), m) else if (m c 6) ≤ (wr (a1 + 1)) then some ((m c 5), m) else ald m (c + 4) 14 (wr (a1 + 1)) (fun x3 => some (x3, m))
def F_X1_forget (m : Mm) : Rs := stf m 43 10 0 (fun m1 => some (0, m1))
def F_X1_knows (a1 : Int) (m : Mm) : Rs := if ¬ (m 43 10) = a1 then some (0, m) else some (1, m)
def F_X1_canBe (m : Mm) : Rs := if 1000000 ≤ (m 43 14) then some (0, m) else some (1, m)
def F_X1_speakerOf (a1 : Int) (m : Mm) : Rs := if a1 < 0 then some ((-1), m) else if (m 43 12) ≤ a1 then some ((-1), m) else ald m 48 16 a1 (fun x3 => ald m 44 4 x3 (fun x4 => some (x4, m)))
def F_X1_gapOf (a1 : Int) (m : Mm) : Rs := if a1 < 0 then some ((-1), m) else if (m 43 12) ≤ a1 then some ((-1), m) else ald m 49 16 a1 (fun x3 => some (x3, m))
def F_X4_has (a1 : Int) (m : Mm) : Rs := if a1 < 0 then some (0, m) else if (m 1 5) ≤ a1 then some (0, m) else some (1, m)
def F_X4_wordsBy (a1 : Int) (m : Mm) : Rs := cll (F_X4_has a1 m) (fun r1 m2 => if r1 = 0 then some (0, m2) else ald m2 5 8 a1 (fun x4 => some (x4, m2)))
def J_X1_choose_81 (kc ks : Nat) (k_17 : Int → Int → Mm → Rs) (v1 : Int) (v2 : Int) (m : Mm) : Rs := nmv (wr (v2 + 1)) (fun x1 => (k_17 v1 x1 m))
def LB_X1_choose_122 (rec : Int → Int → Mm → Rs) (v2 : Int) (v3 : Int) (m : Mm) : Rs := if v2 ≤ v3 then some (0, m) else grd (isDI m (m 43 9).toNat) (ast m (m 43 9).toNat (lenA m (m 43 9).toNat) v3 (-1) (fun m2 => nmv (wr (v3 + 1)) (fun x4 => (rec v2 x4 m2))))
def L_X1_choose_122 : Nat → Int → Int → Mm → Rs
  | 0, _, _, _ => none
  | n + 1, v2, v3, m => LB_X1_choose_122 (L_X1_choose_122 n) v2 v3 m
def J_X1_choose_120 (v2 : Int) (m : Mm) : Rs := nmv 0 (fun x1 => (L_X1_choose_122 100000 v2 x1 m))
def J_X1_choose_87 (kc ks : Nat) (m : Mm) : Rs := onl (m 43 11) (fun x1 => nmv (wr ((wr (x1 * (m 43 11))) * 21)) (fun x2 => grd (isDI m (m 43 9).toNat) (if x2 ≤ ((lenA m (m 43 9).toNat : Nat) : Int) then grd (kc = 0 ∧ ks = 0) ((J_X1_choose_120 x2 m)) else nwa kc ks m x2 (fun m5 => stf m5 43 9 (((cntD m) : Nat) : Int) (fun m7 => (J_X1_choose_120 x2 m7))))))
def LB_X1_choose_17 (kc ks : Nat) (rec : Int → Int → Mm → Rs) (v1 : Int) (v2 : Int) (m : Mm) : Rs := if (m 1 5) ≤ v2 then (J_X1_choose_87 kc ks  m) else if 4 ≤ (m 43 11) then (J_X1_choose_87 kc ks  m) else if (iand (ishr v1 v2) 1) = 0 then (J_X1_choose_81 kc ks rec v1 v2 m) else ast m 44 4 (m 43 11) v2 (fun m4 => stf m4 43 11 (wr ((m4 43 11) + 1)) (fun m5 => cll (F_X4_wordsBy v2 m5) (fun r6 m7 => stf m7 43 12 (wr ((m5 43 12) + r6)) (fun m8 => (J_X1_choose_81 kc ks rec v1 v2 m8)))))
def L_X1_choose_17 (kc ks : Nat) : Nat → Int → Int → Mm → Rs
  | 0, _, _, _ => none
  | n + 1, v1, v2, m => LB_X1_choose_17 kc ks (L_X1_choose_17 kc ks n) v1 v2 m
def F_X1_choose (kc ks : Nat) (a1 : Int) (m : Mm) : Rs := stf m 43 10 a1 (fun m1 => stf m1 43 11 0 (fun m2 => stf m2 43 12 0 (fun m3 => nmv 0 (fun x4 => (L_X1_choose_17 kc ks 100000 a1 x4 m3)))))
def F_X1_reach (a1 : Int) (a2 : Int) (m : Mm) : Rs := nmv (wr ((wr (a1 * 21)) + a2)) (fun x1 => if x1 < 0 then some (0, m) else if 84 ≤ x1 then some (0, m) else ald m 46 84 x1 (fun x4 => if ¬ x4 = 0 then some (0, m) else if 84 ≤ (m 43 13) then some (0, m) else ast m 46 84 x1 1 (fun m7 => ast m7 47 84 (m7 43 13) x1 (fun m8 => stf m8 43 13 (wr ((m8 43 13) + 1)) (fun m9 => some (0, m9))))))
def F_X4_wordOf (a1 : Int) (a2 : Int) (m : Mm) : Rs := if a2 < 0 then some (0, m) else cll (F_X4_wordsBy a1 m) (fun r2 m3 => if r2 ≤ a2 then some (0, m3) else ald m3 6 32 (wr ((wr (a1 * 4)) + a2)) (fun x5 => some (x5, m3)))
def F_J9_max_7cf53 (a1 : Int) (a2 : Int) (m : Mm) : Rs := if a1 < a2 then some (a2, m) else some (a1, m)
def F_J9_min_7cf53 (a1 : Int) (a2 : Int) (m : Mm) : Rs := if a2 < a1 then some (a2, m) else some (a1, m)
def F_X7_letterAt (a1 : Int) (m : Mm) : Rs := if a1 < 0 then some (0, m) else if 10 ≤ a1 then some (0, m) else ald m 18 10 a1 (fun x3 => some (x3, m))
def J_X7_reckon_23 (v1 : Int) (v2 : Int) (v3 : Int) (m : Mm) : Rs := if v1 = 37 then dvn v3 (some ((wr ((v2 : Int).tmod v3)), m)) else if v1 = 42 then some ((wr (v2 * v3)), m) else if v1 = 43 then some ((wr (v2 + v3)), m) else if v1 = 45 then some ((wr (v2 - v3)), m) else if v1 = 47 then dvn v3 (some ((wr ((v2 : Int).tdiv v3)), m)) else if v1 = 60 then if v3 ≤ v2 then some (0, m) else some (1, m) else if v1 = 62 then if v2 ≤ v3 then some (0, m) else some (1, m) else if ¬ v2 = v3 then some (0, m) else some (1, m)
def J_X7_reckon_12 (v1 : Int) (v2 : Int) (v3 : Int) (m : Mm) : Rs := if ¬ v3 = 0 then (J_X7_reckon_23 v1 v2 v3 m) else stf m 17 5 1 (fun m2 => some (0, m2))
def F_X7_reckon (a1 : Int) (a2 : Int) (a3 : Int) (m : Mm) : Rs := if a1 = 47 then (J_X7_reckon_12 a1 a2 a3 m) else if ¬ a1 = 37 then (J_X7_reckon_23 a1 a2 a3 m) else (J_X7_reckon_12 a1 a2 a3 m)
def J_X7_run_230 (k_10 : Int → Int → Int → Mm → Rs) (v2 : Int) (v3 : Int) (v4 : Int) (m : Mm) : Rs := if (m 17 5) = 0 then nmv (wr (v4 + 1)) (fun x2 => (k_10 v2 v3 x2 m)) else some (0, m)
def J_X7_run_89 (k_10 : Int → Int → Int → Mm → Rs) (v2 : Int) (v3 : Int) (v4 : Int) (m : Mm) : Rs := nmv (wr (v3 + 1)) (fun x1 => (J_X7_run_230 k_10 v2 x1 v4 m))
def J_X7_run_59 (k_10 : Int → Int → Int → Mm → Rs) (v2 : Int) (v3 : Int) (v4 : Int) (v5 : Int) (v6 : Int) (m : Mm) : Rs := if v3 < 24 then if ¬ v5 = 0 then cll (F_X7_letterAt v6 m) (fun r3 m4 => ast m4 19 24 v3 r3 (fun m5 => (J_X7_run_89 k_10 v2 v3 v4 m5))) else ast m 19 24 v3 v6 (fun m6 => (J_X7_run_89 k_10 v2 v3 v4 m6)) else some (0, m)
def J_X7_run_172 (k_10 : Int → Int → Int → Mm → Rs) (v2 : Int) (v3 : Int) (v4 : Int) (v6 : Int) (m : Mm) : Rs := cll (F_J9_max_7cf53 v4 (wr (v6 - 1)) m) (fun r1 m2 => nmv r1 (fun x3 => (J_X7_run_230 k_10 v2 v3 x3 m2)))
def J_X7_run_186 (k_10 : Int → Int → Int → Mm → Rs) (v2 : Int) (v3 : Int) (v4 : Int) (m : Mm) : Rs := nmv (wr (v3 + (-1))) (fun x1 => (J_X7_run_230 k_10 v2 x1 v4 m))
def J_X7_run_141 (k_10 : Int → Int → Int → Mm → Rs) (v2 : Int) (v3 : Int) (v4 : Int) (v5 : Int) (v6 : Int) (m : Mm) : Rs := ald m 19 24 (wr (v3 - 1)) (fun x1 => if ¬ x1 = 1 then if ¬ v5 = 4 then if ¬ (0 : Int) = 0 then (J_X7_run_186 k_10 v2 v3 v4 m) else (J_X7_run_172 k_10 v2 v3 v4 v6 m) else if ¬ (0 : Int) = 1 then (J_X7_run_186 k_10 v2 v3 v4 m) else (J_X7_run_172 k_10 v2 v3 v4 v6 m) else if ¬ v5 = 4 then if ¬ (1 : Int) = 0 then (J_X7_run_186 k_10 v2 v3 v4 m) else (J_X7_run_172 k_10 v2 v3 v4 v6 m) else if ¬ (1 : Int) = 1 then (J_X7_run_186 k_10 v2 v3 v4 m) else (J_X7_run_172 k_10 v2 v3 v4 v6 m))
def J_X7_run_245 (v3 : Int) (m : Mm) : Rs := if v3 ≤ 0 then some (0, m) else ald m 19 24 0 (fun x2 => some (x2, m))
def LB_X7_run_10 (rec : Int → Int → Int → Mm → Rs) (v2 : Int) (v3 : Int) (v4 : Int) (m : Mm) : Rs := if v2 ≤ v4 then (J_X7_run_245 v3 m) else if 200 ≤ v4 then (J_X7_run_245 v3 m) else grd (isCd (m 17 3).toNat) (ald m ((m 17 3).toNat + 1) 200 v4 (fun x4 => nmv x4 (fun x5 => grd (isCd (m 17 3).toNat) (ald m ((m 17 3).toNat + 2) 200 v4 (fun x7 => nmv x7 (fun x8 => if x5 = 0 then (J_X7_run_59 rec v2 v3 v4 x5 x8 m) else if ¬ x5 = 1 then if 1 ≤ v3 then if ¬ x5 = 2 then if x5 = 3 then (J_X7_run_141 rec v2 v3 v4 x5 x8 m) else if ¬ x5 = 4 then if 2 ≤ v3 then nmv (wr (v3 + (-1))) (fun x16 => ald m 19 24 (wr (x16 - 1)) (fun x17 => ald m 19 24 x16 (fun x18 => cll (F_X7_reckon x5 x17 x18 m) (fun r19 m20 => ast m20 19 24 (wr (x16 - 1)) r19 (fun m21 => (J_X7_run_230 rec v2 x16 v4 m21)))))) else some (0, m) else (J_X7_run_141 rec v2 v3 v4 x5 x8 m) else ald m 19 24 (wr (v3 - 1)) (fun x22 => ast m 19 24 (wr (v3 - 1)) (wr (1 - x22)) (fun m23 => (J_X7_run_230 rec v2 v3 v4 m23))) else some (0, m) else (J_X7_run_59 rec v2 v3 v4 x5 x8 m)))))))
def L_X7_run_10 : Nat → Int → Int → Int → Mm → Rs
  | 0, _, _, _, _ => none
  | n + 1, v2, v3, v4, m => LB_X7_run_10 (L_X7_run_10 n) v2 v3 v4 m
def F_X7_run (a1 : Int) (a2 : Int) (m : Mm) : Rs := nmv 0 (fun x1 => stf m 17 5 0 (fun m2 => nmv a1 (fun x3 => (L_X7_run_10 100000 a2 x1 x3 m2))))
def J_X7_firstHolding_103 (k_2 : Int → Int → Int → Mm → Rs) (v1 : Int) (v2 : Int) (v3 : Int) (m : Mm) : Rs := nmv (wr (v3 + 1)) (fun x1 => (k_2 v1 v2 x1 m))
def J_X7_firstHolding_63 (k_2 : Int → Int → Int → Mm → Rs) (v1 : Int) (v2 : Int) (v3 : Int) (v4 : Int) (m : Mm) : Rs := if v4 = 0 then (J_X7_firstHolding_103 k_2 v1 v2 v3 m) else grd (isCd (m 17 3).toNat) (ald m ((m 17 3).toNat + 4) 14 v3 (fun x3 => grd (isCd (m 17 3).toNat) (ald m ((m 17 3).toNat + 5) 14 v3 (fun x5 => cll (F_X7_run x3 x5 m) (fun r6 m7 => nmv r6 (fun x8 => cll (F_J9_min_7cf53 v2 x8 m7) (fun r9 m10 => cll (F_J9_max_7cf53 0 r9 m10) (fun r11 m12 => some (r11, m12)))))))))
def LB_X7_firstHolding_2 (rec : Int → Int → Int → Mm → Rs) (v1 : Int) (v2 : Int) (v3 : Int) (m : Mm) : Rs := grd (isCd (m 17 3).toNat) (if (m (m 17 3).toNat 6) ≤ v3 then some (0, m) else if 14 ≤ v3 then some (0, m) else grd (isCd (m 17 3).toNat) (ald m ((m 17 3).toNat + 3) 14 v3 (fun x5 => if ¬ x5 = v1 then (J_X7_firstHolding_103 rec v1 v2 v3 m) else grd (isCd (m 17 3).toNat) (ald m ((m 17 3).toNat + 5) 14 v3 (fun x8 => grd (isCd (m 17 3).toNat) (cll (F_X0_endOf (m 17 3).toNat v3 m) (fun r10 m11 => cll (F_X7_run x8 r10 m11) (fun r12 m13 => if r12 = 0 then nmv 0 (fun x15 => (J_X7_firstHolding_63 rec v1 v2 v3 x15 m13)) else nmv 1 (fun x16 => (J_X7_firstHolding_63 rec v1 v2 v3 x16 m13))))))))))
def L_X7_firstHolding_2 : Nat → Int → Int → Int → Mm → Rs
  | 0, _, _, _, _ => none
  | n + 1, v1, v2, v3, m => LB_X7_firstHolding_2 (L_X7_firstHolding_2 n) v1 v2 v3 m
def F_X7_firstHolding (a1 : Int) (a2 : Int) (m : Mm) : Rs := nmv 0 (fun x1 => (L_X7_firstHolding_2 100000 a1 a2 x1 m))
def J_X7_set_45 (v5 : Int) (v6 : Int) (m : Mm) : Rs := ast m 18 10 5 v6 (fun m1 => ast m1 18 10 6 v5 (fun m2 => ast m2 18 10 7 0 (fun m3 => ast m3 18 10 8 0 (fun m4 => ast m4 18 10 9 0 (fun m5 => some (0, m5))))))
def F_X7_set (a1 : Int) (a2 : Int) (a3 : Int) (a4 : Int) (a5 : Int) (a6 : Int) (m : Mm) : Rs := ast m 18 10 0 a1 (fun m1 => ast m1 18 10 1 a2 (fun m2 => ast m2 18 10 2 a3 (fun m3 => ast m3 18 10 3 a4 (fun m4 => if ¬ a2 = a3 then ast m4 18 10 4 0 (fun m6 => (J_X7_set_45 a5 a6 m6)) else ast m4 18 10 4 1 (fun m7 => (J_X7_set_45 a5 a6 m7))))))
def F_X7_inCrowd (a1 : Int) (a2 : Int) (a3 : Int) (a4 : Int) (m : Mm) : Rs := cll (F_X7_set a1 a2 a3 a4 a2 0 m) (fun r1 m2 => cll (F_X7_firstHolding 109 31 m2) (fun r3 m4 => some (r3, m4)))
def J_X1_askBehind_137 (k_46 : Int → Int → Int → Int → Int → Int → Mm → Rs) (k_81 : Int → Int → Int → Int → Int → Int → Int → Int → Mm → Rs) (v1 : Int) (v2 : Int) (v3 : Int) (v4 : Int) (v5 : Int) (v6 : Int) (v7 : Int) (v8 : Int) (m : Mm) : Rs := nmv (wr (v8 + 1)) (fun x1 => (k_81 v1 v2 v3 v4 v5 v6 v7 x1 m))
def LB_X1_askBehind_81 (k_46 : Int → Int → Int → Int → Int → Int → Mm → Rs) (rec : Int → Int → Int → Int → Int → Int → Int → Int → Mm → Rs) (v1 : Int) (v2 : Int) (v3 : Int) (v4 : Int) (v5 : Int) (v6 : Int) (v7 : Int) (v8 : Int) (m : Mm) : Rs := if v5 ≤ v8 then nmv (wr (v6 + 1)) (fun x2 => (k_46 v1 v2 v3 v4 v5 x2 m)) else ald m 44 4 v2 (fun x3 => cll (F_X4_wordOf x3 v8 m) (fun r4 m5 => if ¬ r4 = v7 then (J_X1_askBehind_137 k_46 rec v1 v2 v3 v4 v5 v6 v7 v8 m5) else ald m5 45 1344 (wr ((wr ((wr ((wr (v1 * 4)) + v2)) * 4)) + v8)) (fun x7 => ast m5 45 1344 (wr ((wr ((wr ((wr (v1 * 4)) + v2)) * 4)) + v8)) (ior x7 (ishl 1 v6)) (fun m8 => cll (F_X1_reach v2 v6 m8) (fun r9 m10 => (J_X1_askBehind_137 k_46 rec v1 v2 v3 v4 v5 v6 v7 v8 m10))))))
def L_X1_askBehind_81 (k_46 : Int → Int → Int → Int → Int → Int → Mm → Rs) : Nat → Int → Int → Int → Int → Int → Int → Int → Int → Mm → Rs
  | 0, _, _, _, _, _, _, _, _, _ => none
  | n + 1, v1, v2, v3, v4, v5, v6, v7, v8, m => LB_X1_askBehind_81 k_46 (L_X1_askBehind_81 k_46 n) v1 v2 v3 v4 v5 v6 v7 v8 m
def LB_X1_askBehind_46 (rec : Int → Int → Int → Int → Int → Int → Mm → Rs) (v1 : Int) (v2 : Int) (v3 : Int) (v4 : Int) (v5 : Int) (v6 : Int) (m : Mm) : Rs := if 20 < v6 then some (0, m) else if v5 ≤ 0 then some (0, m) else ald m 44 4 v2 (fun x3 => cll (F_X7_inCrowd v6 x3 v3 v4 m) (fun r4 m5 => nmv r4 (fun x6 => nmv 0 (fun x7 => (L_X1_askBehind_81 rec 100000 v1 v2 v3 v4 v5 v6 x6 x7 m5)))))
def L_X1_askBehind_46 : Nat → Int → Int → Int → Int → Int → Int → Mm → Rs
  | 0, _, _, _, _, _, _, _ => none
  | n + 1, v1, v2, v3, v4, v5, v6, m => LB_X1_askBehind_46 (L_X1_askBehind_46 n) v1 v2 v3 v4 v5 v6 m
def J_X1_askBehind_28 (v1 : Int) (v2 : Int) (v3 : Int) (v4 : Int) (m : Mm) : Rs := ald m 44 4 v2 (fun x1 => cll (F_X4_wordsBy x1 m) (fun r2 m3 => nmv r2 (fun x4 => nmv 1 (fun x5 => (L_X1_askBehind_46 100000 v1 v2 v3 v4 x4 x5 m3)))))
def F_X1_askBehind (a1 : Int) (a2 : Int) (m : Mm) : Rs := dvn 21 (ald m 44 4 (wr ((a1 : Int).tdiv 21)) (fun x2 => nmv x2 (fun x3 => dvn 21 (if ¬ (wr ((a1 : Int).tmod 21)) = 0 then dvn 21 (nmv (wr ((a1 : Int).tmod 21)) (fun x7 => (J_X1_askBehind_28 a1 a2 x3 x7 m))) else nmv 63 (fun x8 => (J_X1_askBehind_28 a1 a2 x3 x8 m))))))
def J_X1_askGaps_108 (k_52 : Int → Mm → Rs) (v1 : Int) (m : Mm) : Rs := nmv (wr (v1 + 1)) (fun x1 => (k_52 x1 m))
def LB_X1_askGaps_132 (k_116 : Int → Mm → Rs) (rec : Int → Int → Mm → Rs) (v1 : Int) (v2 : Int) (m : Mm) : Rs := if (m 43 11) ≤ v2 then nmv (wr (v1 + 1)) (fun x2 => (k_116 x2 m)) else ald m 47 84 v1 (fun x3 => cll (F_X1_askBehind x3 v2 m) (fun r4 m5 => nmv (wr (v2 + 1)) (fun x6 => (rec v1 x6 m5))))
def L_X1_askGaps_132 (k_116 : Int → Mm → Rs) : Nat → Int → Int → Mm → Rs
  | 0, _, _, _ => none
  | n + 1, v1, v2, m => LB_X1_askGaps_132 k_116 (L_X1_askGaps_132 k_116 n) v1 v2 m
def LB_X1_askGaps_116 (rec : Int → Mm → Rs) (v1 : Int) (m : Mm) : Rs := if (m 43 13) ≤ v1 then some (0, m) else if 84 ≤ v1 then some (0, m) else nmv 0 (fun x3 => (L_X1_askGaps_132 rec 100000 v1 x3 m))
def L_X1_askGaps_116 : Nat → Int → Mm → Rs
  | 0, _, _ => none
  | n + 1, v1, m => LB_X1_askGaps_116 (L_X1_askGaps_116 n) v1 m
def LB_X1_askGaps_52 (rec : Int → Mm → Rs) (v1 : Int) (m : Mm) : Rs := if (m 43 11) ≤ v1 then nmv 0 (fun x2 => (L_X1_askGaps_116 100000 x2 m)) else ald m 44 4 v1 (fun x3 => cll (F_X4_wordOf x3 0 m) (fun r4 m5 => nmv r4 (fun x6 => if x6 = 0 then (J_X1_askGaps_108 rec v1 m5) else ald m5 44 4 v1 (fun x8 => cll (F_X7_inCrowd 63 x8 8 63 m5) (fun r9 m10 => if ¬ r9 = x6 then (J_X1_askGaps_108 rec v1 m10) else cll (F_X1_reach v1 0 m10) (fun r12 m13 => (J_X1_askGaps_108 rec v1 m13)))))))
def L_X1_askGaps_52 : Nat → Int → Mm → Rs
  | 0, _, _ => none
  | n + 1, v1, m => LB_X1_askGaps_52 (L_X1_askGaps_52 n) v1 m
def LB_X1_askGaps_26 (rec : Int → Mm → Rs) (v1 : Int) (m : Mm) : Rs := if 84 ≤ v1 then stf m 43 13 0 (fun m2 => nmv 0 (fun x3 => (L_X1_askGaps_52 100000 x3 m2))) else ast m 46 84 v1 0 (fun m4 => nmv (wr (v1 + 1)) (fun x5 => (rec x5 m4)))
def L_X1_askGaps_26 : Nat → Int → Mm → Rs
  | 0, _, _ => none
  | n + 1, v1, m => LB_X1_askGaps_26 (L_X1_askGaps_26 n) v1 m
def LB_X1_askGaps_2 (rec : Int → Mm → Rs) (v1 : Int) (m : Mm) : Rs := if 1344 ≤ v1 then nmv 0 (fun x2 => (L_X1_askGaps_26 100000 x2 m)) else ast m 45 1344 v1 0 (fun m3 => nmv (wr (v1 + 1)) (fun x4 => (rec x4 m3)))
def L_X1_askGaps_2 : Nat → Int → Mm → Rs
  | 0, _, _ => none
  | n + 1, v1, m => LB_X1_askGaps_2 (L_X1_askGaps_2 n) v1 m
def F_X1_askGaps (m : Mm) : Rs := nmv 0 (fun x1 => (L_X1_askGaps_2 100000 x1 m))
def F_X1_fittingGaps (a1 : Int) (a2 : Int) (a3 : Int) (a4 : Int) (m : Mm) : Rs := nmv (wr ((wr ((wr ((wr ((wr ((wr (a1 * 21)) + a2)) * 4)) + a3)) * 4)) + a4)) (fun x1 => if a4 < 0 then some (0, m) else if 4 ≤ a4 then some (0, m) else if x1 < 0 then some (0, m) else if 1344 ≤ x1 then some (0, m) else ald m 45 1344 x1 (fun x6 => some (x6, m)))
def F_X1_wordsOut (a1 : Int) (a2 : Int) (m : Mm) : Rs := if a2 < 0 then some (0, m) else if 4 ≤ a2 then some (0, m) else onl a2 (fun x3 => dvn x3 (dvn 5 (some ((wr ((wr ((a1 : Int).tdiv x3)).tmod 5)), m))))
def J_X1_cost_35 (f_cost : Int → Int → Int → Int → Mm → Rs) (v4 : Int) (m : Mm) : Rs := if 0 < v4 then some (1000000, m) else some (0, m)
def J_X1_cost_161 (f_cost : Int → Int → Int → Int → Mm → Rs) (k_73 : Int → Int → Int → Int → Int → Int → Int → Mm → Rs) (k_102 : Int → Int → Int → Int → Int → Int → Int → Int → Int → Mm → Rs) (v1 : Int) (v2 : Int) (v3 : Int) (v4 : Int) (v5 : Int) (v6 : Int) (v7 : Int) (v8 : Int) (v9 : Int) (m : Mm) : Rs := nmv (wr (v9 + 1)) (fun x1 => (k_102 v1 v2 v3 v4 v5 v6 v7 v8 x1 m))
def J_X1_cost_167 (f_cost : Int → Int → Int → Int → Mm → Rs) (k_73 : Int → Int → Int → Int → Int → Int → Int → Mm → Rs) (v1 : Int) (v2 : Int) (v3 : Int) (v4 : Int) (v5 : Int) (v6 : Int) (v7 : Int) (m : Mm) : Rs := nmv (wr (v7 + 1)) (fun x1 => (k_73 v1 v2 v3 v4 v5 v6 x1 m))
def LB_X1_cost_102 (f_cost : Int → Int → Int → Int → Mm → Rs) (k_73 : Int → Int → Int → Int → Int → Int → Int → Mm → Rs) (rec : Int → Int → Int → Int → Int → Int → Int → Int → Int → Mm → Rs) (v1 : Int) (v2 : Int) (v3 : Int) (v4 : Int) (v5 : Int) (v6 : Int) (v7 : Int) (v8 : Int) (v9 : Int) (m : Mm) : Rs := if 20 < v9 then (J_X1_cost_167 f_cost k_73 v1 v2 v3 v4 v5 v6 v7 m) else if v6 ≤ (wr ((wr (v9 + v4)) - 1)) then (J_X1_cost_167 f_cost k_73 v1 v2 v3 v4 v5 v6 v7 m) else if (iand (ishr v8 v9) 1) = 0 then (J_X1_cost_161 f_cost k_73 rec v1 v2 v3 v4 v5 v6 v7 v8 v9 m) else onl v7 (fun x4 => cll (f_cost (wr (v1 + x4)) v7 v9 (wr (v4 - 1)) m) (fun r5 m6 => cll (F_J9_min_7cf53 v6 (wr (v9 + r5)) m6) (fun r7 m8 => nmv r7 (fun x9 => (J_X1_cost_161 f_cost k_73 rec v1 v2 v3 v4 v5 x9 v7 v8 v9 m8)))))
def L_X1_cost_102 (f_cost : Int → Int → Int → Int → Mm → Rs) (k_73 : Int → Int → Int → Int → Int → Int → Int → Mm → Rs) : Nat → Int → Int → Int → Int → Int → Int → Int → Int → Int → Mm → Rs
  | 0, _, _, _, _, _, _, _, _, _, _ => none
  | n + 1, v1, v2, v3, v4, v5, v6, v7, v8, v9, m => LB_X1_cost_102 f_cost k_73 (L_X1_cost_102 f_cost k_73 n) v1 v2 v3 v4 v5 v6 v7 v8 v9 m
def LB_X1_cost_73 (f_cost : Int → Int → Int → Int → Mm → Rs) (rec : Int → Int → Int → Int → Int → Int → Int → Mm → Rs) (v1 : Int) (v2 : Int) (v3 : Int) (v4 : Int) (v5 : Int) (v6 : Int) (v7 : Int) (m : Mm) : Rs := if (m 43 11) ≤ v7 then grd (isDI m (m 43 9).toNat) (ast m (m 43 9).toNat (lenA m (m 43 9).toNat) v5 v6 (fun m2 => some (v6, m2))) else cll (F_X1_wordsOut v1 v7 m) (fun r4 m5 => cll (F_X1_fittingGaps v2 v3 v7 r4 m5) (fun r6 m7 => nmv r6 (fun x8 => nmv 1 (fun x9 => (L_X1_cost_102 f_cost rec 100000 v1 v2 v3 v4 v5 v6 v7 x8 x9 m7)))))
def L_X1_cost_73 (f_cost : Int → Int → Int → Int → Mm → Rs) : Nat → Int → Int → Int → Int → Int → Int → Int → Mm → Rs
  | 0, _, _, _, _, _, _, _, _ => none
  | n + 1, v1, v2, v3, v4, v5, v6, v7, m => LB_X1_cost_73 f_cost (L_X1_cost_73 f_cost n) v1 v2 v3 v4 v5 v6 v7 m
def O_X1_cost (f_cost : Int → Int → Int → Int → Mm → Rs) (a1 : Int) (a2 : Int) (a3 : Int) (a4 : Int) (m : Mm) : Rs := nmv (wr ((wr ((wr ((wr (a1 * (m 43 11))) + a2)) * 21)) + a3)) (fun x1 => if a4 ≤ 0 then (J_X1_cost_35 f_cost a4 m) else if x1 < 0 then (J_X1_cost_35 f_cost a4 m) else grd (isDI m (m 43 9).toNat) (if x1 < ((lenA m (m 43 9).toNat : Nat) : Int) then grd (isDI m (m 43 9).toNat) (ald m (m 43 9).toNat (lenA m (m 43 9).toNat) x1 (fun x6 => if x6 = (-1) then nmv 1000000 (fun x9 => nmv 0 (fun x10 => (L_X1_cost_73 f_cost 100000 a1 a2 a3 a4 x1 x9 x10 m))) else grd (isDI m (m 43 9).toNat) (ald m (m 43 9).toNat (lenA m (m 43 9).toNat) x1 (fun x11 => some (x11, m))))) else (J_X1_cost_35 f_cost a4 m)))
def Gr2 : Nat → Int → Int → Int → Int → Mm → Rs
  | 0, _, _, _, _, _ => none
  | d + 1, a1, a2, a3, a4, m => O_X1_cost (Gr2 d) a1 a2 a3 a4 m
def F_X1_cost (a1 a2 a3 a4 : Int) (m : Mm) : Rs := Gr2 20 a1 a2 a3 a4 m
def F_X1_costBegunBy (a1 : Int) (m : Mm) : Rs := ald m 46 84 (wr (a1 * 21)) (fun x1 => if x1 = 0 then some (1000000, m) else onl a1 (fun x3 => cll (F_X1_cost x3 a1 0 (wr ((m 43 12) - 1)) m) (fun r4 m5 => some (r4, m5))))
def LB_X1_findLeast_19 (rec : Int → Mm → Rs) (v1 : Int) (m : Mm) : Rs := if (m 43 11) ≤ v1 then some (0, m) else cll (F_X1_costBegunBy v1 m) (fun r2 m3 => cll (F_J9_min_7cf53 (m 43 14) r2 m3) (fun r4 m5 => stf m5 43 14 r4 (fun m6 => nmv (wr (v1 + 1)) (fun x7 => (rec x7 m6)))))
def L_X1_findLeast_19 : Nat → Int → Mm → Rs
  | 0, _, _ => none
  | n + 1, v1, m => LB_X1_findLeast_19 (L_X1_findLeast_19 n) v1 m
def J_X1_findLeast_17 (m : Mm) : Rs := nmv 0 (fun x1 => (L_X1_findLeast_19 100000 x1 m))
def F_X1_findLeast (m : Mm) : Rs := if ¬ (m 43 12) = 0 then stf m 43 14 1000000 (fun m2 => (J_X1_findLeast_17  m2)) else stf m 43 14 0 (fun m3 => (J_X1_findLeast_17  m3))
def J_X1_losslessGaps_133 (k_6 : Int → Int → Int → Int → Int → Int → Int → Mm → Rs) (k_55 : Int → Int → Int → Int → Int → Int → Int → Int → Int → Int → Mm → Rs) (v1 : Int) (v2 : Int) (v3 : Int) (v4 : Int) (v5 : Int) (v6 : Int) (v7 : Int) (v8 : Int) (v9 : Int) (v10 : Int) (m : Mm) : Rs := nmv (wr (v10 + 1)) (fun x1 => (k_55 v1 v2 v3 v4 v5 v6 v7 v8 v9 x1 m))
def J_X1_losslessGaps_91 (k_6 : Int → Int → Int → Int → Int → Int → Int → Mm → Rs) (k_55 : Int → Int → Int → Int → Int → Int → Int → Int → Int → Int → Mm → Rs) (v1 : Int) (v2 : Int) (v3 : Int) (v4 : Int) (v5 : Int) (v6 : Int) (v7 : Int) (v8 : Int) (v9 : Int) (v10 : Int) (v11 : Int) (m : Mm) : Rs := if v11 = 0 then (J_X1_losslessGaps_133 k_6 k_55 v1 v2 v3 v4 v5 v6 v7 v8 v9 v10 m) else onl v4 (fun x2 => cll (F_X1_cost (wr (v2 + x2)) v4 v10 (wr (v5 - 1)) m) (fun r3 m4 => if ¬ (wr (v10 + r3)) = v8 then (J_X1_losslessGaps_133 k_6 k_55 v1 v2 v3 v4 v5 v6 v7 v8 v9 v10 m4) else nmv (ior v6 (ishl 1 v10)) (fun x6 => (J_X1_losslessGaps_133 k_6 k_55 v1 v2 v3 v4 v5 x6 v7 v8 v9 v10 m4))))
def J_X1_losslessGaps_139 (k_6 : Int → Int → Int → Int → Int → Int → Int → Mm → Rs) (v1 : Int) (v2 : Int) (v3 : Int) (v4 : Int) (v5 : Int) (v6 : Int) (v7 : Int) (m : Mm) : Rs := nmv (wr (v7 + 1)) (fun x1 => (k_6 v1 v2 v3 v4 v5 v6 x1 m))
def LB_X1_losslessGaps_55 (k_6 : Int → Int → Int → Int → Int → Int → Int → Mm → Rs) (rec : Int → Int → Int → Int → Int → Int → Int → Int → Int → Int → Mm → Rs) (v1 : Int) (v2 : Int) (v3 : Int) (v4 : Int) (v5 : Int) (v6 : Int) (v7 : Int) (v8 : Int) (v9 : Int) (v10 : Int) (m : Mm) : Rs := if 20 < v10 then (J_X1_losslessGaps_139 k_6 v1 v2 v3 v4 v5 v6 v7 m) else if v8 < (wr ((wr (v10 + v5)) - 1)) then (J_X1_losslessGaps_139 k_6 v1 v2 v3 v4 v5 v6 v7 m) else if (iand (ishr v9 v10) 1) = 0 then nmv 0 (fun x4 => (J_X1_losslessGaps_91 k_6 rec v1 v2 v3 v4 v5 v6 v7 v8 v9 v10 x4 m)) else nmv 1 (fun x5 => (J_X1_losslessGaps_91 k_6 rec v1 v2 v3 v4 v5 v6 v7 v8 v9 v10 x5 m))
def L_X1_losslessGaps_55 (k_6 : Int → Int → Int → Int → Int → Int → Int → Mm → Rs) : Nat → Int → Int → Int → Int → Int → Int → Int → Int → Int → Int → Mm → Rs
  | 0, _, _, _, _, _, _, _, _, _, _, _ => none
  | n + 1, v1, v2, v3, v4, v5, v6, v7, v8, v9, v10, m => LB_X1_losslessGaps_55 k_6 (L_X1_losslessGaps_55 k_6 n) v1 v2 v3 v4 v5 v6 v7 v8 v9 v10 m
def LB_X1_losslessGaps_6 (rec : Int → Int → Int → Int → Int → Int → Int → Mm → Rs) (v1 : Int) (v2 : Int) (v3 : Int) (v4 : Int) (v5 : Int) (v6 : Int) (v7 : Int) (m : Mm) : Rs := if 21 ≤ v7 then some (v6, m) else if (iand (ishr v1 v7) 1) = 0 then (J_X1_losslessGaps_139 rec v1 v2 v3 v4 v5 v6 v7 m) else cll (F_X1_cost v2 v3 v7 v5 m) (fun r3 m4 => nmv r3 (fun x5 => cll (F_X1_wordsOut v2 v4 m4) (fun r6 m7 => cll (F_X1_fittingGaps v3 v7 v4 r6 m7) (fun r8 m9 => nmv r8 (fun x10 => nmv 1 (fun x11 => (L_X1_losslessGaps_55 rec 100000 v1 v2 v3 v4 v5 v6 v7 x5 x10 x11 m9)))))))
def L_X1_losslessGaps_6 : Nat → Int → Int → Int → Int → Int → Int → Int → Mm → Rs
  | 0, _, _, _, _, _, _, _, _ => none
  | n + 1, v1, v2, v3, v4, v5, v6, v7, m => LB_X1_losslessGaps_6 (L_X1_losslessGaps_6 n) v1 v2 v3 v4 v5 v6 v7 m
def F_X1_losslessGaps (a1 : Int) (a2 : Int) (a3 : Int) (a4 : Int) (a5 : Int) (m : Mm) : Rs := nmv 0 (fun x1 => nmv 0 (fun x2 => (L_X1_losslessGaps_6 100000 a1 a2 a3 a4 a5 x1 x2 m)))
def J_X1_findSpeakers_160 (k_67 : Int → Int → Int → Mm → Rs) (v2 : Int) (v3 : Int) (v4 : Int) (m : Mm) : Rs := ast m 48 16 v3 v4 (fun m1 => onl v4 (fun x2 => nmv (wr (v2 + x2)) (fun x3 => nmv v4 (fun x4 => nmv (wr (v3 + 1)) (fun x5 => (k_67 x4 x3 x5 m1))))))
def LB_X1_findSpeakers_106 (k_67 : Int → Int → Int → Mm → Rs) (rec : Int → Int → Int → Int → Mm → Rs) (v1 : Int) (v2 : Int) (v3 : Int) (v4 : Int) (m : Mm) : Rs := if (wr ((m 43 11) - 1)) ≤ v4 then (J_X1_findSpeakers_160 k_67 v2 v3 v4 m) else ald m 50 16 v3 (fun x2 => if ¬ x2 = 0 then (J_X1_findSpeakers_160 k_67 v2 v3 v4 m) else nmv (wr (v4 + 1)) (fun x4 => ald m 50 16 (wr (v3 - 1)) (fun x5 => cll (F_X1_losslessGaps x5 v2 v1 x4 (wr ((m 43 12) - v3)) m) (fun r6 m7 => ast m7 50 16 v3 r6 (fun m8 => (rec v1 v2 v3 x4 m8))))))
def L_X1_findSpeakers_106 (k_67 : Int → Int → Int → Mm → Rs) : Nat → Int → Int → Int → Int → Mm → Rs
  | 0, _, _, _, _, _ => none
  | n + 1, v1, v2, v3, v4, m => LB_X1_findSpeakers_106 k_67 (L_X1_findSpeakers_106 k_67 n) v1 v2 v3 v4 m
def LB_X1_findSpeakers_67 (rec : Int → Int → Int → Mm → Rs) (v1 : Int) (v2 : Int) (v3 : Int) (m : Mm) : Rs := if (m 43 12) ≤ v3 then some (0, m) else nmv 0 (fun x2 => ald m 50 16 (wr (v3 - 1)) (fun x3 => cll (F_X1_losslessGaps x3 v2 v1 x2 (wr ((m 43 12) - v3)) m) (fun r4 m5 => ast m5 50 16 v3 r4 (fun m6 => (L_X1_findSpeakers_106 rec 100000 v1 v2 v3 x2 m6)))))
def L_X1_findSpeakers_67 : Nat → Int → Int → Int → Mm → Rs
  | 0, _, _, _, _ => none
  | n + 1, v1, v2, v3, m => LB_X1_findSpeakers_67 (L_X1_findSpeakers_67 n) v1 v2 v3 m
def J_X1_findSpeakers_45 (v1 : Int) (m : Mm) : Rs := ast m 48 16 0 v1 (fun m1 => ast m1 50 16 0 1 (fun m2 => onl v1 (fun x3 => nmv x3 (fun x4 => nmv 1 (fun x5 => (L_X1_findSpeakers_67 100000 v1 x4 x5 m2))))))
def LB_X1_findSpeakers_17 (rec : Int → Mm → Rs) (v1 : Int) (m : Mm) : Rs := if (wr ((m 43 11) - 1)) ≤ v1 then (J_X1_findSpeakers_45 v1 m) else cll (F_X1_costBegunBy v1 m) (fun r2 m3 => if r2 = (m3 43 14) then (J_X1_findSpeakers_45 v1 m3) else nmv (wr (v1 + 1)) (fun x5 => (rec x5 m3)))
def L_X1_findSpeakers_17 : Nat → Int → Mm → Rs
  | 0, _, _ => none
  | n + 1, v1, m => LB_X1_findSpeakers_17 (L_X1_findSpeakers_17 n) v1 m
def F_X1_findSpeakers (m : Mm) : Rs := cll (F_X1_canBe m) (fun r1 m2 => if r1 = 0 then some (0, m2) else if ¬ (m2 43 12) = 0 then nmv 0 (fun x5 => (L_X1_findSpeakers_17 100000 x5 m2)) else some (0, m2))
def J_J6_numberOfTrailingZeros_0f7a4_74 (v0 : Int) (v1 : Int) (m : Mm) : Rs := some ((wr (v1 + (iushr v0 1))), m)
def J_J6_numberOfTrailingZeros_0f7a4_62 (v0 : Int) (v1 : Int) (m : Mm) : Rs := if v0 ≤ 4 then (J_J6_numberOfTrailingZeros_0f7a4_74 v0 v1 m) else nmv (wr (v1 + 2)) (fun x2 => nmv (iushr v0 2) (fun x3 => (J_J6_numberOfTrailingZeros_0f7a4_74 x3 x2 m)))
def J_J6_numberOfTrailingZeros_0f7a4_49 (v0 : Int) (v1 : Int) (m : Mm) : Rs := if v0 ≤ 16 then (J_J6_numberOfTrailingZeros_0f7a4_62 v0 v1 m) else nmv (wr (v1 + 4)) (fun x2 => nmv (iushr v0 4) (fun x3 => (J_J6_numberOfTrailingZeros_0f7a4_62 x3 x2 m)))
def J_J6_numberOfTrailingZeros_0f7a4_34 (v0 : Int) (v1 : Int) (m : Mm) : Rs := if v0 ≤ 256 then (J_J6_numberOfTrailingZeros_0f7a4_49 v0 v1 m) else nmv (wr (v1 + 8)) (fun x2 => nmv (iushr v0 8) (fun x3 => (J_J6_numberOfTrailingZeros_0f7a4_49 x3 x2 m)))
def F_J6_numberOfTrailingZeros_0f7a4 (a1 : Int) (m : Mm) : Rs := nmv (iand (ixor a1 (-1)) (wr (a1 - 1))) (fun x1 => if 0 < x1 then nmv 1 (fun x3 => if x1 ≤ 65536 then (J_J6_numberOfTrailingZeros_0f7a4_34 x1 x3 m) else nmv (wr (x3 + 16)) (fun x5 => nmv (iushr x1 16) (fun x6 => (J_J6_numberOfTrailingZeros_0f7a4_34 x6 x5 m)))) else some ((iand x1 32), m))
def J_X1_dropDeadEnds_146 (k_38 : Int → Int → Mm → Rs) (k_61 : Int → Int → Int → Int → Mm → Rs) (v1 : Int) (v2 : Int) (v3 : Int) (v4 : Int) (m : Mm) : Rs := nmv (wr (v4 + 1)) (fun x1 => (k_61 v1 v2 v3 x1 m))
def J_X1_dropDeadEnds_132 (k_38 : Int → Int → Mm → Rs) (k_61 : Int → Int → Int → Int → Mm → Rs) (v1 : Int) (v2 : Int) (v3 : Int) (v4 : Int) (v5 : Int) (v6 : Int) (m : Mm) : Rs := if v6 = 0 then nmv (ior v3 0) (fun x2 => (J_X1_dropDeadEnds_146 k_38 k_61 v1 v2 x2 v4 m)) else nmv (ior v3 v5) (fun x3 => (J_X1_dropDeadEnds_146 k_38 k_61 v1 v2 x3 v4 m))
def J_X1_dropDeadEnds_129 (k_38 : Int → Int → Mm → Rs) (k_61 : Int → Int → Int → Int → Mm → Rs) (v1 : Int) (v2 : Int) (v3 : Int) (v4 : Int) (v5 : Int) (m : Mm) : Rs := nmv 0 (fun x1 => (J_X1_dropDeadEnds_132 k_38 k_61 v1 v2 v3 v4 v5 x1 m))
def LB_X1_dropDeadEnds_61 (k_38 : Int → Int → Mm → Rs) (rec : Int → Int → Int → Int → Mm → Rs) (v1 : Int) (v2 : Int) (v3 : Int) (v4 : Int) (m : Mm) : Rs := if 21 ≤ v4 then ast m 50 16 (wr (v2 - 1)) v3 (fun m2 => nmv (wr (v2 + (-1))) (fun x3 => (k_38 v1 x3 m2))) else ald m 50 16 (wr (v2 - 1)) (fun x4 => nmv (iand x4 (ishl 1 v4)) (fun x5 => if x5 = 0 then (J_X1_dropDeadEnds_129 k_38 rec v1 v2 v3 v4 x5 m) else ald m 48 16 (wr (v2 - 1)) (fun x7 => ald m 48 16 v2 (fun x8 => cll (F_X1_losslessGaps x5 v1 x7 x8 (wr ((m 43 12) - v2)) m) (fun r9 m10 => ald m10 50 16 v2 (fun x11 => if (iand r9 x11) = 0 then (J_X1_dropDeadEnds_129 k_38 rec v1 v2 v3 v4 x5 m10) else nmv 1 (fun x13 => (J_X1_dropDeadEnds_132 k_38 rec v1 v2 v3 v4 x5 x13 m10))))))))
def L_X1_dropDeadEnds_61 (k_38 : Int → Int → Mm → Rs) : Nat → Int → Int → Int → Int → Mm → Rs
  | 0, _, _, _, _, _ => none
  | n + 1, v1, v2, v3, v4, m => LB_X1_dropDeadEnds_61 k_38 (L_X1_dropDeadEnds_61 k_38 n) v1 v2 v3 v4 m
def LB_X1_dropDeadEnds_38 (rec : Int → Int → Mm → Rs) (v1 : Int) (v2 : Int) (m : Mm) : Rs := if v2 < 1 then some (v1, m) else ald m 48 16 v2 (fun x2 => onl x2 (fun x3 => nmv (wr (v1 - x3)) (fun x4 => nmv 0 (fun x5 => nmv 0 (fun x6 => (L_X1_dropDeadEnds_61 rec 100000 x4 v2 x5 x6 m))))))
def L_X1_dropDeadEnds_38 : Nat → Int → Int → Mm → Rs
  | 0, _, _, _ => none
  | n + 1, v1, v2, m => LB_X1_dropDeadEnds_38 (L_X1_dropDeadEnds_38 n) v1 v2 m
def LB_X1_dropDeadEnds_4 (rec : Int → Int → Mm → Rs) (v1 : Int) (v2 : Int) (m : Mm) : Rs := if (m 43 12) ≤ v2 then nmv (wr ((m 43 12) - 1)) (fun x2 => (L_X1_dropDeadEnds_38 100000 v1 x2 m)) else ald m 48 16 v2 (fun x3 => onl x3 (fun x4 => nmv (wr (v1 + x4)) (fun x5 => nmv (wr (v2 + 1)) (fun x6 => (rec x5 x6 m)))))
def L_X1_dropDeadEnds_4 : Nat → Int → Int → Mm → Rs
  | 0, _, _, _ => none
  | n + 1, v1, v2, m => LB_X1_dropDeadEnds_4 (L_X1_dropDeadEnds_4 n) v1 v2 m
def F_X1_dropDeadEnds (m : Mm) : Rs := nmv 0 (fun x1 => nmv 0 (fun x2 => (L_X1_dropDeadEnds_4 100000 x1 x2 m)))
def LB_X1_findGaps_32 (rec : Int → Int → Int → Mm → Rs) (v1 : Int) (v2 : Int) (v3 : Int) (m : Mm) : Rs := if (m 43 12) ≤ v3 then some (0, m) else ald m 48 16 (wr (v3 - 1)) (fun x2 => ald m 48 16 v3 (fun x3 => cll (F_X1_losslessGaps (ishl 1 v2) v1 x2 x3 (wr ((m 43 12) - v3)) m) (fun r4 m5 => ald m5 50 16 v3 (fun x6 => nmv (iand r4 x6) (fun x7 => cll (F_J6_numberOfTrailingZeros_0f7a4 x7 m5) (fun r8 m9 => cll (F_J9_min_7cf53 20 r8 m9) (fun r10 m11 => nmv r10 (fun x12 => ast m11 49 16 v3 x12 (fun m13 => ald m13 48 16 v3 (fun x14 => onl x14 (fun x15 => nmv (wr (v1 + x15)) (fun x16 => nmv (wr (v3 + 1)) (fun x17 => (rec x16 x12 x17 m13))))))))))))))
def L_X1_findGaps_32 : Nat → Int → Int → Int → Mm → Rs
  | 0, _, _, _, _ => none
  | n + 1, v1, v2, v3, m => LB_X1_findGaps_32 (L_X1_findGaps_32 n) v1 v2 v3 m
def F_X1_findGaps (m : Mm) : Rs := cll (F_X1_canBe m) (fun r1 m2 => if r1 = 0 then some (0, m2) else if ¬ (m2 43 12) = 0 then cll (F_X1_dropDeadEnds m2) (fun r5 m6 => nmv r5 (fun x7 => nmv 0 (fun x8 => ast m6 49 16 0 63 (fun m9 => nmv 1 (fun x10 => (L_X1_findGaps_32 100000 x7 x8 x10 m9)))))) else some (0, m2))
def F_X10_byteAt (a1 : Int) (m : Mm) : Rs := if a1 < 0 then some ((-1), m) else if (m 7 1) ≤ a1 then some ((-1), m) else ald m 8 220 a1 (fun x3 => some (x3, m))
def F_X2_fail (a1 : Int) (m : Mm) : Rs := if ¬ (m 32 5) = 0 then some (0, m) else stf m 32 5 a1 (fun m2 => some (0, m2))
def F_X2_enter (m : Mm) : Rs := if (m 32 4) < 6 then stf m 32 4 (wr ((m 32 4) + 1)) (fun m2 => stf m2 32 3 (wr ((m2 32 3) + 1)) (fun m3 => some (0, m3))) else cll (F_X2_fail 5 m) (fun r4 m5 => some (0, m5))
def F_X2_next (m : Mm) : Rs := if (m 32 3) < 0 then some ((-1), m) else if (m 32 2) ≤ (m 32 3) then some ((-1), m) else ald m 33 200 (m 32 3) (fun x3 => some (x3, m))
def F_X2_pass (a1 : Int) (m : Mm) : Rs := if (m 32 5) = 0 then cll (F_X2_next m) (fun r2 m3 => if ¬ r2 = a1 then cll (F_X2_fail 1 m3) (fun r5 m6 => some (0, m6)) else stf m3 32 3 (wr ((m3 32 3) + 1)) (fun m7 => some (0, m7))) else some (0, m)
def F_X2_isDigit (a1 : Int) (m : Mm) : Rs := if a1 < 48 then some (0, m) else if 57 < a1 then some (0, m) else some (1, m)
def F_J0_isLatin1_aae02 (m : Mm) : Rs := if (1 : Int) = 0 then some (0, m) else if ¬ (0 : Int) = 0 then some (0, m) else some (1, m)
def F_J0_coder_7d493 (m : Mm) : Rs := if (1 : Int) = 0 then some (1, m) else some (0, m)
def F_J0_length_8abf5 (m : Mm) : Rs := cll (F_J0_coder_7d493 m) (fun r1 m2 => some ((ishr 10 r1), m2))
def F_J1_canEncode_9a6ad (a1 : Int) (m : Mm) : Rs := if a1 < 0 then some (0, m) else if 255 < a1 then some (0, m) else some (1, m)
def LB_J1_indexOfChar_4cfef_7 (rec : Int → Int → Int → Mm → Rs) (v3 : Int) (v4 : Int) (v5 : Int) (m : Mm) : Rs := if v3 ≤ v5 then some ((-1), m) else txl v5 (fun x2 => if ¬ x2 = v4 then nmv (wr (v5 + 1)) (fun x4 => (rec v3 v4 x4 m)) else some (v5, m))
def L_J1_indexOfChar_4cfef_7 : Nat → Int → Int → Int → Mm → Rs
  | 0, _, _, _, _ => none
  | n + 1, v3, v4, v5, m => LB_J1_indexOfChar_4cfef_7 (L_J1_indexOfChar_4cfef_7 n) v3 v4 v5 m
def F_J1_indexOfChar_4cfef (a1 : Int) (a2 : Int) (a3 : Int) (m : Mm) : Rs := nmv (i2b a1) (fun x1 => nmv a2 (fun x2 => (L_J1_indexOfChar_4cfef_7 100000 a3 x1 x2 m)))
def F_J1_indexOf_4cfef (a1 : Int) (a2 : Int) (a3 : Int) (m : Mm) : Rs := cll (F_J1_canEncode_9a6ad a1 m) (fun r1 m2 => if ¬ r1 = 0 then cll (F_J9_max_7cf53 a2 0 m2) (fun r4 m5 => nmv r4 (fun x6 => cll (F_J9_min_7cf53 a3 10 m5) (fun r7 m8 => nmv r7 (fun x9 => if x6 < x9 then cll (F_J1_indexOfChar_4cfef a1 x6 x9 m8) (fun r11 m12 => some (r11, m12)) else some ((-1), m8))))) else some ((-1), m2))
def F_J0_indexOf_7cf53 (a1 : Int) (a2 : Int) (m : Mm) : Rs := cll (F_J0_isLatin1_aae02 m) (fun r1 m2 => if r1 = 0 then none else cll (F_J0_length_8abf5 m2) (fun r4 m5 => cll (F_J1_indexOf_4cfef a1 a2 r4 m5) (fun r6 m7 => some (r6, m7))))
def F_J0_indexOf_0f7a4 (a1 : Int) (m : Mm) : Rs := cll (F_J0_indexOf_7cf53 a1 0 m) (fun r1 m2 => some (r1, m2))
def J_X2_letter_40 (v2 : Int) (m : Mm) : Rs := stf m 32 3 (wr ((m 32 3) + 1)) (fun m1 => grd (isCd (m1 32 1).toNat) (cll (F_X0_add (m1 32 1).toNat 1 v2 m1) (fun r3 m4 => some (0, m4))))
def J_X2_letter_16 (v2 : Int) (m : Mm) : Rs := if 0 ≤ v2 then if ¬ v2 = 9 then (J_X2_letter_40 v2 m) else grd (isCd (m 32 1).toNat) (stf m (m 32 1).toNat 7 1 (fun m4 => (J_X2_letter_40 v2 m4))) else cll (F_X2_fail 1 m) (fun r5 m6 => some (0, m6))
def F_X2_letter (a1 : Int) (m : Mm) : Rs := if 0 ≤ a1 then cll (F_J0_indexOf_0f7a4 (i2c a1) m) (fun r2 m3 => nmv r2 (fun x4 => (J_X2_letter_16 x4 m3))) else nmv (-1) (fun x5 => (J_X2_letter_16 x5 m))
def LB_X2_number_4 (rec : Int → Int → Mm → Rs) (v1 : Int) (v2 : Int) (m : Mm) : Rs := cll (F_X2_next m) (fun r1 m2 => cll (F_X2_isDigit r1 m2) (fun r3 m4 => if r3 = 0 then grd (isCd (m4 32 1).toNat) (cll (F_X0_add (m4 32 1).toNat 0 v1 m4) (fun r7 m8 => some (0, m8))) else if ¬ v2 = 5 then cll (F_X2_next m4) (fun r10 m11 => nmv (wr ((wr ((wr (10 * v1)) + r10)) - 48)) (fun x12 => stf m11 32 3 (wr ((m11 32 3) + 1)) (fun m13 => nmv (wr (v2 + 1)) (fun x14 => (rec x12 x14 m13))))) else cll (F_X2_fail 2 m4) (fun r15 m16 => some (0, m16))))
def L_X2_number_4 : Nat → Int → Int → Mm → Rs
  | 0, _, _, _ => none
  | n + 1, v1, v2, m => LB_X2_number_4 (L_X2_number_4 n) v1 v2 m
def F_X2_number (m : Mm) : Rs := nmv 0 (fun x1 => nmv 0 (fun x2 => (L_X2_number_4 100000 x1 x2 m)))
def J_X2_sum_38 (f_product : Mm → Rs) (k_6 : Int → Mm → Rs) (v1 : Int) (v2 : Int) (m : Mm) : Rs := stf m 32 3 (wr ((m 32 3) + 1)) (fun m1 => cll (f_product m1) (fun r2 m3 => grd (isCd (m3 32 1).toNat) (cll (F_X0_add (m3 32 1).toNat v2 0 m3) (fun r5 m6 => nmv (wr (v1 + 1)) (fun x7 => (k_6 x7 m6))))))
def LB_X2_sum_6 (f_product : Mm → Rs) (rec : Int → Mm → Rs) (v1 : Int) (m : Mm) : Rs := if 200 ≤ v1 then some (0, m) else if ¬ (m 32 5) = 0 then some (0, m) else cll (F_X2_next m) (fun r3 m4 => nmv r3 (fun x5 => if x5 = 43 then (J_X2_sum_38 f_product rec v1 x5 m4) else if x5 = 45 then (J_X2_sum_38 f_product rec v1 x5 m4) else some (0, m4)))
def L_X2_sum_6 (f_product : Mm → Rs) : Nat → Int → Mm → Rs
  | 0, _, _ => none
  | n + 1, v1, m => LB_X2_sum_6 f_product (L_X2_sum_6 f_product n) v1 m
def O_X2_sum (f_product : Mm → Rs) (m : Mm) : Rs := cll (f_product m) (fun r1 m2 => nmv 0 (fun x3 => (L_X2_sum_6 f_product 100000 x3 m2)))
def J_X2_product_44 (f_factor : Mm → Rs) (k_6 : Int → Mm → Rs) (v1 : Int) (v2 : Int) (m : Mm) : Rs := stf m 32 3 (wr ((m 32 3) + 1)) (fun m1 => cll (f_factor m1) (fun r2 m3 => grd (isCd (m3 32 1).toNat) (cll (F_X0_add (m3 32 1).toNat v2 0 m3) (fun r5 m6 => nmv (wr (v1 + 1)) (fun x7 => (k_6 x7 m6))))))
def LB_X2_product_6 (f_factor : Mm → Rs) (rec : Int → Mm → Rs) (v1 : Int) (m : Mm) : Rs := if 200 ≤ v1 then some (0, m) else if ¬ (m 32 5) = 0 then some (0, m) else cll (F_X2_next m) (fun r3 m4 => nmv r3 (fun x5 => if x5 = 42 then (J_X2_product_44 f_factor rec v1 x5 m4) else if x5 = 47 then (J_X2_product_44 f_factor rec v1 x5 m4) else if x5 = 37 then (J_X2_product_44 f_factor rec v1 x5 m4) else some (0, m4)))
def L_X2_product_6 (f_factor : Mm → Rs) : Nat → Int → Mm → Rs
  | 0, _, _ => none
  | n + 1, v1, m => LB_X2_product_6 f_factor (L_X2_product_6 f_factor n) v1 m
def O_X2_product (f_factor : Mm → Rs) (m : Mm) : Rs := cll (f_factor m) (fun r1 m2 => nmv 0 (fun x3 => (L_X2_product_6 f_factor 100000 x3 m2)))
def O_X2_factor (f_sum : Mm → Rs) (m : Mm) : Rs := if (m 32 5) = 0 then cll (F_X2_next m) (fun r2 m3 => nmv r2 (fun x4 => if ¬ x4 = 91 then cll (F_X2_isDigit x4 m3) (fun r6 m7 => if r6 = 0 then cll (F_X2_letter x4 m7) (fun r9 m10 => some (0, m10)) else cll (F_X2_number m7) (fun r11 m12 => some (0, m12))) else cll (F_X2_enter m3) (fun r13 m14 => cll (f_sum m14) (fun r15 m16 => cll (F_X2_pass 93 m16) (fun r17 m18 => stf m18 32 4 (wr ((m18 32 4) - 1)) (fun m19 => some (0, m19))))))) else some (0, m)
def Gr0 : Nat → Nat → Mm → Rs
  | 0, _, _ => none
  | d + 1, 0, m => O_X2_sum (Gr0 d 1) m
  | d + 1, 1, m => O_X2_product (Gr0 d 2) m
  | d + 1, _ + 2, m => O_X2_factor (Gr0 d 0) m
def F_X2_sum (m : Mm) : Rs := Gr0 60 0 m
def F_X2_product (m : Mm) : Rs := Gr0 60 1 m
def F_X2_factor (m : Mm) : Rs := Gr0 60 2 m
def J_X2_comparison_41 (v1 : Int) (m : Mm) : Rs := stf m 32 3 (wr ((m 32 3) + 1)) (fun m1 => cll (F_X2_sum m1) (fun r2 m3 => grd (isCd (m3 32 1).toNat) (cll (F_X0_add (m3 32 1).toNat v1 0 m3) (fun r5 m6 => some (0, m6)))))
def F_X2_comparison (m : Mm) : Rs := cll (F_X2_sum m) (fun r1 m2 => if (m2 32 5) = 0 then cll (F_X2_next m2) (fun r4 m5 => nmv r4 (fun x6 => if x6 = 60 then (J_X2_comparison_41 x6 m5) else if x6 = 62 then (J_X2_comparison_41 x6 m5) else if x6 = 61 then (J_X2_comparison_41 x6 m5) else cll (F_X2_fail 1 m5) (fun r10 m11 => some (0, m11)))) else some (0, m2))
def O_X2_piece (f_piece : Mm → Rs) (f_group : Mm → Rs) (m : Mm) : Rs := if (m 32 5) = 0 then cll (F_X2_next m) (fun r2 m3 => nmv r2 (fun x4 => if ¬ x4 = 33 then if ¬ x4 = 40 then cll (F_X2_comparison m3) (fun r7 m8 => some (0, m8)) else cll (f_group m3) (fun r9 m10 => some (0, m10)) else cll (F_X2_enter m3) (fun r11 m12 => cll (f_piece m12) (fun r13 m14 => stf m14 32 4 (wr ((m14 32 4) - 1)) (fun m15 => grd (isCd (m15 32 1).toNat) (cll (F_X0_add (m15 32 1).toNat 2 0 m15) (fun r17 m18 => some (0, m18)))))))) else some (0, m)
def O_X2_group (f_condition : Mm → Rs) (m : Mm) : Rs := if (m 32 5) = 0 then cll (F_X2_next m) (fun r2 m3 => if r2 = 40 then cll (F_X2_enter m3) (fun r5 m6 => cll (f_condition m6) (fun r7 m8 => cll (F_X2_pass 41 m8) (fun r9 m10 => stf m10 32 4 (wr ((m10 32 4) - 1)) (fun m11 => some (0, m11))))) else cll (F_X2_fail 1 m3) (fun r12 m13 => some (0, m13))) else some (0, m)
def LB_X2_condition_6 (f_allOf : Mm → Rs) (rec : Int → Mm → Rs) (v1 : Int) (m : Mm) : Rs := if 200 ≤ v1 then some (0, m) else if ¬ (m 32 5) = 0 then some (0, m) else cll (F_X2_next m) (fun r3 m4 => if ¬ r3 = 124 then some (0, m4) else stf m4 32 3 (wr ((m4 32 3) + 1)) (fun m6 => grd (isCd (m6 32 1).toNat) (cll (F_X0_add (m6 32 1).toNat 4 0 m6) (fun r8 m9 => nmv r8 (fun x10 => cll (f_allOf m9) (fun r11 m12 => grd (isCd (m12 32 1).toNat) (cll (F_X0_landHere (m12 32 1).toNat x10 m12) (fun r14 m15 => nmv (wr (v1 + 1)) (fun x16 => (rec x16 m15))))))))))
def L_X2_condition_6 (f_allOf : Mm → Rs) : Nat → Int → Mm → Rs
  | 0, _, _ => none
  | n + 1, v1, m => LB_X2_condition_6 f_allOf (L_X2_condition_6 f_allOf n) v1 m
def O_X2_condition (f_allOf : Mm → Rs) (m : Mm) : Rs := cll (f_allOf m) (fun r1 m2 => nmv 0 (fun x3 => (L_X2_condition_6 f_allOf 100000 x3 m2)))
def LB_X2_allOf_6 (f_piece : Mm → Rs) (rec : Int → Mm → Rs) (v1 : Int) (m : Mm) : Rs := if 200 ≤ v1 then some (0, m) else if ¬ (m 32 5) = 0 then some (0, m) else cll (F_X2_next m) (fun r3 m4 => if ¬ r3 = 38 then some (0, m4) else stf m4 32 3 (wr ((m4 32 3) + 1)) (fun m6 => grd (isCd (m6 32 1).toNat) (cll (F_X0_add (m6 32 1).toNat 3 0 m6) (fun r8 m9 => nmv r8 (fun x10 => cll (f_piece m9) (fun r11 m12 => grd (isCd (m12 32 1).toNat) (cll (F_X0_landHere (m12 32 1).toNat x10 m12) (fun r14 m15 => nmv (wr (v1 + 1)) (fun x16 => (rec x16 m15))))))))))
def L_X2_allOf_6 (f_piece : Mm → Rs) : Nat → Int → Mm → Rs
  | 0, _, _ => none
  | n + 1, v1, m => LB_X2_allOf_6 f_piece (L_X2_allOf_6 f_piece n) v1 m
def O_X2_allOf (f_piece : Mm → Rs) (m : Mm) : Rs := cll (f_piece m) (fun r1 m2 => nmv 0 (fun x3 => (L_X2_allOf_6 f_piece 100000 x3 m2)))
def Gr1 : Nat → Nat → Mm → Rs
  | 0, _, _ => none
  | d + 1, 0, m => O_X2_piece (Gr1 d 0) (Gr1 d 1) m
  | d + 1, 1, m => O_X2_group (Gr1 d 2) m
  | d + 1, 2, m => O_X2_condition (Gr1 d 3) m
  | d + 1, _ + 3, m => O_X2_allOf (Gr1 d 0) m
def F_X2_piece (m : Mm) : Rs := Gr1 60 0 m
def F_X2_group (m : Mm) : Rs := Gr1 60 1 m
def F_X2_condition (m : Mm) : Rs := Gr1 60 2 m
def F_X2_allOf (m : Mm) : Rs := Gr1 60 3 m
def J_X2_clause_23 (v1 : Int) (m : Mm) : Rs := grd (isCd (m 32 1).toNat) (if (m (m 32 1).toNat 6) < 14 then stf m 32 3 (wr ((m 32 3) + 1)) (fun m3 => grd (isCd (m3 32 1).toNat) (cll (F_X0_beginClause (m3 32 1).toNat v1 m3) (fun r5 m6 => cll (F_X2_sum m6) (fun r7 m8 => grd (isCd (m8 32 1).toNat) (cll (F_X0_beginCondition (m8 32 1).toNat m8) (fun r10 m11 => cll (F_X2_group m11) (fun r12 m13 => some (0, m13)))))))) else cll (F_X2_fail 4 m) (fun r14 m15 => some (0, m15)))
def F_X2_clause (m : Mm) : Rs := cll (F_X2_next m) (fun r1 m2 => nmv r1 (fun x3 => if x3 = 109 then (J_X2_clause_23 x3 m2) else if x3 = 114 then (J_X2_clause_23 x3 m2) else cll (F_X2_fail 1 m2) (fun r6 m7 => some (0, m7))))
def J_X2_translate_116 (c2 : Nat) (k_72 : Int → Mm → Rs) (v4 : Int) (m : Mm) : Rs := cll (F_X2_pass 59 m) (fun r1 m2 => nmv (wr (v4 + 1)) (fun x3 => (k_72 x3 m2)))
def J_X2_translate_128 (c2 : Nat) (m : Mm) : Rs := some ((wr ((wr ((-1000) * (m 32 5))) - (m 32 3))), m)
def LB_X2_translate_72 (c2 : Nat) (rec : Int → Mm → Rs) (v4 : Int) (m : Mm) : Rs := if 14 < v4 then (J_X2_translate_128 c2  m) else if ¬ (m 32 5) = 0 then (J_X2_translate_128 c2  m) else cll (F_X2_clause m) (fun r3 m4 => if ¬ (m4 32 5) = 0 then (J_X2_translate_116 c2 rec v4 m4) else if (m4 32 3) < (m4 32 2) then (J_X2_translate_116 c2 rec v4 m4) else grd (isCd (m4 32 1).toNat) (some ((m4 (m4 32 1).toNat 6), m4)))
def L_X2_translate_72 (c2 : Nat) : Nat → Int → Mm → Rs
  | 0, _, _ => none
  | n + 1, v4, m => LB_X2_translate_72 c2 (L_X2_translate_72 c2 n) v4 m
def LB_X2_translate_14 (c2 : Nat) (rec : Int → Mm → Rs) (v4 : Int) (m : Mm) : Rs := if (m 32 2) ≤ v4 then stf m 32 1 ((c2 : Nat) : Int) (fun m2 => grd (isCd (m2 32 1).toNat) (cll (F_X0_clear (m2 32 1).toNat m2) (fun r4 m5 => stf m5 32 3 0 (fun m6 => stf m6 32 4 0 (fun m7 => stf m7 32 5 0 (fun m8 => nmv 0 (fun x9 => (L_X2_translate_72 c2 100000 x9 m8)))))))) else cll (F_X10_byteAt v4 m) (fun r10 m11 => ast m11 33 200 v4 r10 (fun m12 => nmv (wr (v4 + 1)) (fun x13 => (rec x13 m12))))
def L_X2_translate_14 (c2 : Nat) : Nat → Int → Mm → Rs
  | 0, _, _ => none
  | n + 1, v4, m => LB_X2_translate_14 c2 (L_X2_translate_14 c2 n) v4 m
def F_X2_translate (a1 : Int) (c2 : Nat) (m : Mm) : Rs := cll (F_J9_min_7cf53 a1 200 m) (fun r1 m2 => stf m2 32 2 r1 (fun m3 => nmv 0 (fun x4 => (L_X2_translate_14 c2 100000 x4 m3))))
def F_X3_forget (m : Mm) : Rs := stf m 14 5 (-1) (fun m1 => some (0, m1))
def F_X4_breathsFor (a1 : Int) (m : Mm) : Rs := if (m 1 7) ≤ 0 then some (0, m) else dvn (m 1 7) (some ((wr ((a1 : Int).tdiv (m 1 7))), m))
def F_J9_abs_0f7a4 (a1 : Int) (m : Mm) : Rs := if 0 ≤ a1 then some (a1, m) else some ((wr (-a1)), m)
def F_X4_wayBetween (a1 : Int) (a2 : Int) (m : Mm) : Rs := cll (F_X4_has a1 m) (fun r1 m2 => if r1 = 0 then some (0, m2) else cll (F_X4_has a2 m2) (fun r4 m5 => if ¬ r4 = 0 then ald m5 2 8 a1 (fun x7 => ald m5 2 8 a2 (fun x8 => cll (F_J9_abs_0f7a4 (wr (x7 - x8)) m5) (fun r9 m10 => ald m10 3 8 a1 (fun x11 => ald m10 3 8 a2 (fun x12 => cll (F_J9_abs_0f7a4 (wr (x11 - x12)) m10) (fun r13 m14 => some ((wr (r9 + r13)), m14))))))) else some (0, m5)))
def F_X9_breathOf (a1 : Int) (m : Mm) : Rs := if a1 < 0 then some ((-1), m) else if (m 9 4) ≤ a1 then some ((-1), m) else ald m 11 150 a1 (fun x3 => some (x3, m))
def F_X9_whoOf (a1 : Int) (m : Mm) : Rs := if a1 < 0 then some (8, m) else if (m 9 4) ≤ a1 then some (8, m) else ald m 10 150 a1 (fun x3 => some (x3, m))
def F_X3_arrival (a1 : Int) (a2 : Int) (m : Mm) : Rs := cll (F_X9_breathOf a2 m) (fun r1 m2 => cll (F_X9_whoOf a2 m2) (fun r3 m4 => cll (F_X4_wayBetween a1 r3 m4) (fun r5 m6 => cll (F_X4_breathsFor r5 m6) (fun r7 m8 => some ((wr (r1 + r7)), m8)))))
def F_X3_nearer (a1 : Int) (a2 : Int) (a3 : Int) (m : Mm) : Rs := cll (F_X4_wayBetween a1 a2 m) (fun r1 m2 => nmv r1 (fun x3 => cll (F_X4_wayBetween a1 a3 m2) (fun r4 m5 => nmv r4 (fun x6 => if x3 < x6 then some (1, m5) else if ¬ x3 = x6 then some (0, m5) else if a3 ≤ a2 then some (0, m5) else some (1, m5)))))
def LB_X3_place_90 (rec : Int → Int → Int → Int → Mm → Rs) (v1 : Int) (v2 : Int) (v3 : Int) (v4 : Int) (m : Mm) : Rs := if v4 ≤ v3 then ast m 16 150 v3 v1 (fun m2 => ast m2 15 150 v3 v2 (fun m3 => stf m3 14 4 (wr ((m3 14 4) + 1)) (fun m4 => some (0, m4)))) else ald m 16 150 (wr (v4 - 1)) (fun x5 => ast m 16 150 v4 x5 (fun m6 => ald m6 15 150 (wr (v4 - 1)) (fun x7 => ast m6 15 150 v4 x7 (fun m8 => nmv (wr (v4 + (-1))) (fun x9 => (rec v1 v2 v3 x9 m8))))))
def L_X3_place_90 : Nat → Int → Int → Int → Int → Mm → Rs
  | 0, _, _, _, _, _ => none
  | n + 1, v1, v2, v3, v4, m => LB_X3_place_90 (L_X3_place_90 n) v1 v2 v3 v4 m
def J_X3_place_73 (v1 : Int) (v2 : Int) (v3 : Int) (m : Mm) : Rs := if (m 14 4) < 150 then nmv (m 14 4) (fun x2 => (L_X3_place_90 100000 v1 v2 v3 x2 m)) else some (0, m)
def J_X3_place_27 (v1 : Int) (v2 : Int) (v3 : Int) (m : Mm) : Rs := if v3 ≤ 0 then (J_X3_place_73 v1 v2 v3 m) else ald m 16 150 (wr (v3 - 1)) (fun x2 => if ¬ x2 = v1 then (J_X3_place_73 v1 v2 v3 m) else ald m 15 150 (wr (v3 - 1)) (fun x4 => cll (F_X3_nearer (m 14 5) v2 x4 m) (fun r5 m6 => if r5 = 0 then some (0, m6) else ast m6 15 150 (wr (v3 - 1)) v2 (fun m8 => some (0, m8)))))
def LB_X3_place_5 (rec : Int → Int → Int → Mm → Rs) (v1 : Int) (v2 : Int) (v3 : Int) (m : Mm) : Rs := if v3 ≤ 0 then (J_X3_place_27 v1 v2 v3 m) else ald m 16 150 (wr (v3 - 1)) (fun x2 => if x2 ≤ v1 then (J_X3_place_27 v1 v2 v3 m) else nmv (wr (v3 + (-1))) (fun x4 => (rec v1 v2 x4 m)))
def L_X3_place_5 : Nat → Int → Int → Int → Mm → Rs
  | 0, _, _, _, _ => none
  | n + 1, v1, v2, v3, m => LB_X3_place_5 (L_X3_place_5 n) v1 v2 v3 m
def F_X3_place (a1 : Int) (a2 : Int) (m : Mm) : Rs := nmv (m 14 4) (fun x1 => (L_X3_place_5 100000 a1 a2 x1 m))
def F_X4_reaches (a1 : Int) (a2 : Int) (m : Mm) : Rs := cll (F_X4_wayBetween a1 a2 m) (fun r1 m2 => if (m2 1 6) < r1 then some (0, m2) else some (1, m2))
def J_X3_listen_64 (k_21 : Int → Int → Mm → Rs) (v1 : Int) (v2 : Int) (m : Mm) : Rs := nmv (wr (v2 + 1)) (fun x1 => (k_21 v1 x1 m))
def LB_X3_listen_21 (rec : Int → Int → Mm → Rs) (v1 : Int) (v2 : Int) (m : Mm) : Rs := if (m 9 4) ≤ v2 then some (0, m) else cll (F_X9_whoOf v2 m) (fun r2 m3 => nmv r2 (fun x4 => cll (F_X4_reaches v1 x4 m3) (fun r5 m6 => if r5 = 0 then (J_X3_listen_64 rec v1 v2 m6) else cll (F_X3_arrival v1 v2 m6) (fun r8 m9 => cll (F_X3_place r8 x4 m9) (fun r10 m11 => (J_X3_listen_64 rec v1 v2 m11))))))
def L_X3_listen_21 : Nat → Int → Int → Mm → Rs
  | 0, _, _, _ => none
  | n + 1, v1, v2, m => LB_X3_listen_21 (L_X3_listen_21 n) v1 v2 m
def F_X3_listen (a1 : Int) (m : Mm) : Rs := if ¬ (m 14 5) = a1 then stf m 14 5 a1 (fun m2 => stf m2 14 4 0 (fun m3 => nmv 0 (fun x4 => (L_X3_listen_21 100000 a1 x4 m3)))) else some (0, m)
def F_X3_breathOf (a1 : Int) (m : Mm) : Rs := if a1 < 0 then some ((-1), m) else if (m 14 4) ≤ a1 then some ((-1), m) else ald m 16 150 a1 (fun x3 => some (x3, m))
def F_X3_whoOf (a1 : Int) (m : Mm) : Rs := if a1 < 0 then some (8, m) else if (m 14 4) ≤ a1 then some (8, m) else ald m 15 150 a1 (fun x3 => some (x3, m))
def F_X3_gapOf (a1 : Int) (m : Mm) : Rs := if a1 ≤ 0 then some (63, m) else if a1 < (m 14 4) then ald m 16 150 a1 (fun x3 => ald m 16 150 (wr (a1 - 1)) (fun x4 => cll (F_J9_min_7cf53 63 (wr (x3 - x4)) m) (fun r5 m6 => some (r5, m6)))) else some (63, m)
def J_X3_drowned_60 (k_10 : Int → Int → Int → Int → Mm → Rs) (v1 : Int) (v2 : Int) (v3 : Int) (v4 : Int) (m : Mm) : Rs := nmv (wr (v4 + 1)) (fun x1 => (k_10 v1 v2 v3 x1 m))
def LB_X3_drowned_10 (rec : Int → Int → Int → Int → Mm → Rs) (v1 : Int) (v2 : Int) (v3 : Int) (v4 : Int) (m : Mm) : Rs := if (m 9 4) ≤ v4 then some (0, m) else cll (F_X3_arrival v1 v4 m) (fun r2 m3 => if ¬ r2 = v3 then (J_X3_drowned_60 rec v1 v2 v3 v4 m3) else cll (F_X9_whoOf v4 m3) (fun r5 m6 => cll (F_X9_whoOf v2 m6) (fun r7 m8 => cll (F_X3_nearer v1 r5 r7 m8) (fun r9 m10 => if r9 = 0 then (J_X3_drowned_60 rec v1 v2 v3 v4 m10) else some (1, m10)))))
def L_X3_drowned_10 : Nat → Int → Int → Int → Int → Mm → Rs
  | 0, _, _, _, _, _ => none
  | n + 1, v1, v2, v3, v4, m => LB_X3_drowned_10 (L_X3_drowned_10 n) v1 v2 v3 v4 m
def F_X3_drowned (a1 : Int) (a2 : Int) (m : Mm) : Rs := cll (F_X3_arrival a1 a2 m) (fun r1 m2 => nmv r1 (fun x3 => nmv 0 (fun x4 => (L_X3_drowned_10 100000 a1 a2 x3 x4 m2))))
def J_X3_earsOf_46 (k_4 : Int → Int → Int → Mm → Rs) (v1 : Int) (v2 : Int) (v3 : Int) (m : Mm) : Rs := nmv (wr (v3 + 1)) (fun x1 => (k_4 v1 v2 x1 m))
def LB_X3_earsOf_4 (rec : Int → Int → Int → Mm → Rs) (v1 : Int) (v2 : Int) (v3 : Int) (m : Mm) : Rs := if (m 1 5) ≤ v3 then some (v2, m) else cll (F_X9_whoOf v1 m) (fun r2 m3 => cll (F_X4_reaches v3 r2 m3) (fun r4 m5 => if r4 = 0 then (J_X3_earsOf_46 rec v1 v2 v3 m5) else cll (F_X3_drowned v3 v1 m5) (fun r7 m8 => if ¬ r7 = 0 then (J_X3_earsOf_46 rec v1 v2 v3 m8) else nmv (wr (v2 + 1)) (fun x10 => (J_X3_earsOf_46 rec v1 x10 v3 m8)))))
def L_X3_earsOf_4 : Nat → Int → Int → Int → Mm → Rs
  | 0, _, _, _, _ => none
  | n + 1, v1, v2, v3, m => LB_X3_earsOf_4 (L_X3_earsOf_4 n) v1 v2 v3 m
def F_X3_earsOf (a1 : Int) (m : Mm) : Rs := nmv 0 (fun x1 => nmv 0 (fun x2 => (L_X3_earsOf_4 100000 a1 x1 x2 m)))
def F_X4_join (a1 : Int) (a2 : Int) (a3 : Int) (m : Mm) : Rs := if (m 1 5) < 8 then ast m 2 8 (m 1 5) a1 (fun m2 => ast m2 3 8 (m2 1 5) a2 (fun m3 => ast m3 4 8 (m3 1 5) a3 (fun m4 => stf m4 1 5 (wr ((m4 1 5) + 1)) (fun m5 => some ((wr ((m5 1 5) - 1)), m5))))) else some ((-1), m)
def F_X4_hasAll (a1 : Int) (m : Mm) : Rs := if a1 ≤ 0 then some (0, m) else if (ishl 1 (m 1 5)) ≤ a1 then some (0, m) else some (1, m)
def F_X4_thousandthsOf (a1 : Int) (m : Mm) : Rs := cll (F_X4_has a1 m) (fun r1 m2 => if r1 = 0 then some (0, m2) else ald m2 4 8 a1 (fun x4 => some (x4, m2)))
def F_X11_within (a1 : Int) (a2 : Int) (a3 : Int) (m : Mm) : Rs := if a1 < a2 then some (0, m) else if a3 < a1 then some (0, m) else some (1, m)
def LB_X4_takeSentence_50 (rec : Int → Int → Int → Mm → Rs) (v1 : Int) (v3 : Int) (v4 : Int) (m : Mm) : Rs := if v3 ≤ v4 then ast m 5 8 v1 v3 (fun m2 => some (1, m2)) else cll (F_X10_byteAt v4 m) (fun r3 m4 => ast m4 6 32 (wr ((wr (v1 * 4)) + v4)) r3 (fun m5 => nmv (wr (v4 + 1)) (fun x6 => (rec v1 v3 x6 m5))))
def L_X4_takeSentence_50 : Nat → Int → Int → Int → Mm → Rs
  | 0, _, _, _, _ => none
  | n + 1, v1, v3, v4, m => LB_X4_takeSentence_50 (L_X4_takeSentence_50 n) v1 v3 v4 m
def LB_X4_takeSentence_3 (rec : Int → Int → Int → Mm → Rs) (v1 : Int) (v3 : Int) (v4 : Int) (m : Mm) : Rs := if v3 ≤ v4 then cll (F_X4_has v1 m) (fun r2 m3 => if r2 = 0 then some (0, m3) else if v3 ≤ 4 then nmv 0 (fun x6 => (L_X4_takeSentence_50 100000 v1 v3 x6 m3)) else some (0, m3)) else cll (F_X10_byteAt v4 m) (fun r7 m8 => cll (F_X11_within r7 1 31 m8) (fun r9 m10 => if ¬ r9 = 0 then nmv (wr (v4 + 1)) (fun x12 => (rec v1 v3 x12 m10)) else some (0, m10)))
def L_X4_takeSentence_3 : Nat → Int → Int → Int → Mm → Rs
  | 0, _, _, _, _ => none
  | n + 1, v1, v3, v4, m => LB_X4_takeSentence_3 (L_X4_takeSentence_3 n) v1 v3 v4 m
def F_X4_takeSentence (a1 : Int) (a2 : Int) (m : Mm) : Rs := nmv 0 (fun x1 => (L_X4_takeSentence_3 100000 a1 a2 x1 m))
def J_X4_wordsOf_29 (k_4 : Int → Int → Int → Mm → Rs) (v1 : Int) (v2 : Int) (v3 : Int) (m : Mm) : Rs := nmv (wr (v3 + 1)) (fun x1 => (k_4 v1 v2 x1 m))
def LB_X4_wordsOf_4 (rec : Int → Int → Int → Mm → Rs) (v1 : Int) (v2 : Int) (v3 : Int) (m : Mm) : Rs := if (m 1 5) ≤ v3 then some (v2, m) else if (iand (ishr v1 v3) 1) = 0 then (J_X4_wordsOf_29 rec v1 v2 v3 m) else ald m 5 8 v3 (fun x3 => nmv (wr (v2 + x3)) (fun x4 => (J_X4_wordsOf_29 rec v1 x4 v3 m)))
def L_X4_wordsOf_4 : Nat → Int → Int → Int → Mm → Rs
  | 0, _, _, _, _ => none
  | n + 1, v1, v2, v3, m => LB_X4_wordsOf_4 (L_X4_wordsOf_4 n) v1 v2 v3 m
def F_X4_wordsOf (a1 : Int) (m : Mm) : Rs := nmv 0 (fun x1 => nmv 0 (fun x2 => (L_X4_wordsOf_4 100000 a1 x1 x2 m)))
def LB_X5_allSuch_35 (rec : Int → Int → Mm → Rs) (v1 : Int) (v2 : Int) (m : Mm) : Rs := if v1 ≤ v2 then some (1, m) else if 12 ≤ v2 then some (1, m) else ald m 36 12 v2 (fun x3 => cll (F_X11_within x3 0 32 m) (fun r4 m5 => if ¬ r4 = 0 then nmv (wr (v2 + 1)) (fun x7 => (rec v1 x7 m5)) else some (0, m5)))
def L_X5_allSuch_35 : Nat → Int → Int → Mm → Rs
  | 0, _, _, _ => none
  | n + 1, v1, v2, m => LB_X5_allSuch_35 (L_X5_allSuch_35 n) v1 v2 m
def LB_X5_allSuch_2 (rec : Int → Int → Mm → Rs) (v1 : Int) (v2 : Int) (m : Mm) : Rs := if (m 34 10) ≤ v2 then nmv 0 (fun x2 => (L_X5_allSuch_35 100000 v1 x2 m)) else ald m 35 12 v2 (fun x3 => cll (F_X11_within x3 1 63 m) (fun r4 m5 => if ¬ r4 = 0 then nmv (wr (v2 + 1)) (fun x7 => (rec v1 x7 m5)) else some (0, m5)))
def L_X5_allSuch_2 : Nat → Int → Int → Mm → Rs
  | 0, _, _, _ => none
  | n + 1, v1, v2, m => LB_X5_allSuch_2 (L_X5_allSuch_2 n) v1 v2 m
def F_X5_allSuch (a1 : Int) (m : Mm) : Rs := nmv 0 (fun x1 => (L_X5_allSuch_2 100000 a1 x1 m))
def LB_X5_takePairs_12 (rec : Int → Mm → Rs) (v3 : Int) (m : Mm) : Rs := if (m 34 10) ≤ v3 then cll (F_X5_allSuch (m 34 10) m) (fun r2 m3 => some (r2, m3)) else cll (F_X10_byteAt (wr (2 * v3)) m) (fun r4 m5 => ast m5 35 12 v3 r4 (fun m6 => cll (F_X10_byteAt (wr ((wr (2 * v3)) + 1)) m6) (fun r7 m8 => ast m8 36 12 v3 r7 (fun m9 => nmv (wr (v3 + 1)) (fun x10 => (rec x10 m9))))))
def L_X5_takePairs_12 : Nat → Int → Mm → Rs
  | 0, _, _ => none
  | n + 1, v3, m => LB_X5_takePairs_12 (L_X5_takePairs_12 n) v3 m
def F_X5_takePairs (a1 : Int) (m : Mm) : Rs := cll (F_J9_min_7cf53 a1 12 m) (fun r1 m2 => stf m2 34 10 r1 (fun m3 => nmv 0 (fun x4 => (L_X5_takePairs_12 100000 x4 m3))))
def LB_X5_takeGapsThenMeanings_39 (rec : Int → Mm → Rs) (v3 : Int) (m : Mm) : Rs := if (m 34 10) < v3 then cll (F_X5_allSuch (wr ((m 34 10) + 1)) m) (fun r2 m3 => some (r2, m3)) else cll (F_X10_byteAt (wr ((m 34 10) + v3)) m) (fun r4 m5 => ast m5 36 12 v3 r4 (fun m6 => nmv (wr (v3 + 1)) (fun x7 => (rec x7 m6))))
def L_X5_takeGapsThenMeanings_39 : Nat → Int → Mm → Rs
  | 0, _, _ => none
  | n + 1, v3, m => LB_X5_takeGapsThenMeanings_39 (L_X5_takeGapsThenMeanings_39 n) v3 m
def LB_X5_takeGapsThenMeanings_12 (rec : Int → Mm → Rs) (v3 : Int) (m : Mm) : Rs := if (m 34 10) ≤ v3 then nmv 0 (fun x2 => (L_X5_takeGapsThenMeanings_39 100000 x2 m)) else cll (F_X10_byteAt v3 m) (fun r3 m4 => ast m4 35 12 v3 r3 (fun m5 => nmv (wr (v3 + 1)) (fun x6 => (rec x6 m5))))
def L_X5_takeGapsThenMeanings_12 : Nat → Int → Mm → Rs
  | 0, _, _ => none
  | n + 1, v3, m => LB_X5_takeGapsThenMeanings_12 (L_X5_takeGapsThenMeanings_12 n) v3 m
def F_X5_takeGapsThenMeanings (a1 : Int) (m : Mm) : Rs := cll (F_J9_min_7cf53 a1 10 m) (fun r1 m2 => stf m2 34 10 r1 (fun m3 => nmv 0 (fun x4 => (L_X5_takeGapsThenMeanings_12 100000 x4 m3))))
def J_X5_beginBehind_60 (k_35 : Int → Mm → Rs) (v3 : Int) (m : Mm) : Rs := nmv (wr (v3 + 1)) (fun x1 => (k_35 x1 m))
def LB_X5_beginBehind_35 (rec : Int → Mm → Rs) (v3 : Int) (m : Mm) : Rs := if 8 < v3 then some (0, m) else if ¬ v3 = (m 34 12) then grd (isRw (m 34 8).toNat) (ast m (m 34 8).toNat 9 v3 0 (fun m3 => (J_X5_beginBehind_60 rec v3 m3))) else grd (isRw (m 34 8).toNat) (ast m (m 34 8).toNat 9 v3 1 (fun m5 => (J_X5_beginBehind_60 rec v3 m5)))
def L_X5_beginBehind_35 : Nat → Int → Mm → Rs
  | 0, _, _ => none
  | n + 1, v3, m => LB_X5_beginBehind_35 (L_X5_beginBehind_35 n) v3 m
def F_X5_beginBehind (a1 : Int) (m : Mm) : Rs := stf m 34 11 a1 (fun m1 => cll (F_X3_whoOf (wr ((m1 14 4) - 1)) m1) (fun r2 m3 => stf m3 34 12 r2 (fun m4 => cll (F_X3_gapOf (wr ((m4 14 4) - 1)) m4) (fun r5 m6 => stf m6 34 13 r5 (fun m7 => nmv 0 (fun x8 => (L_X5_beginBehind_35 100000 x8 m7)))))))
def F_X7_byEar (a1 : Int) (a2 : Int) (a3 : Int) (a4 : Int) (a5 : Int) (m : Mm) : Rs := cll (F_X4_wayBetween a1 a3 m) (fun r1 m2 => cll (F_X7_set a2 a3 a4 a5 a1 r1 m2) (fun r3 m4 => cll (F_X7_firstHolding 109 31 m4) (fun r5 m6 => some (r5, m6))))
def F_X5_fits (a1 : Int) (a2 : Int) (a3 : Int) (a4 : Int) (a5 : Int) (m : Mm) : Rs := if a1 < 0 then some (0, m) else if 12 ≤ a1 then some (0, m) else cll (F_X4_reaches (m 34 11) a3 m) (fun r3 m4 => if ¬ r3 = 0 then ald m4 36 12 a1 (fun x6 => if x6 = 32 then some (1, m4) else cll (F_X7_byEar (m4 34 11) a2 a3 a4 a5 m4) (fun r8 m9 => ald m9 36 12 a1 (fun x10 => if ¬ r8 = x10 then some (0, m9) else some (1, m9)))) else some (0, m4))
def J_X5_followers_65 (k_26 : Int → Int → Int → Int → Int → Mm → Rs) (v1 : Int) (v2 : Int) (v3 : Int) (v4 : Int) (v5 : Int) (m : Mm) : Rs := nmv (wr (v5 + 1)) (fun x1 => (k_26 v1 v2 v3 v4 x1 m))
def LB_X5_followers_26 (rec : Int → Int → Int → Int → Int → Mm → Rs) (v1 : Int) (v2 : Int) (v3 : Int) (v4 : Int) (v5 : Int) (m : Mm) : Rs := if (m 1 5) ≤ v5 then some (v4, m) else ald m 35 12 v1 (fun x2 => cll (F_X5_fits v1 x2 v5 v2 v3 m) (fun r3 m4 => if r3 = 0 then (J_X5_followers_65 rec v1 v2 v3 v4 v5 m4) else nmv (ior v4 (ishl 1 v5)) (fun x6 => (J_X5_followers_65 rec v1 v2 v3 x6 v5 m4))))
def L_X5_followers_26 : Nat → Int → Int → Int → Int → Int → Mm → Rs
  | 0, _, _, _, _, _, _ => none
  | n + 1, v1, v2, v3, v4, v5, m => LB_X5_followers_26 (L_X5_followers_26 n) v1 v2 v3 v4 v5 m
def J_X5_followers_20 (v1 : Int) (v2 : Int) (v3 : Int) (m : Mm) : Rs := nmv 0 (fun x1 => nmv 0 (fun x2 => (L_X5_followers_26 100000 v1 v2 v3 x1 x2 m)))
def F_X5_followers (a1 : Int) (a2 : Int) (m : Mm) : Rs := if ¬ a1 = 0 then ald m 35 12 (wr (a1 - 1)) (fun x2 => nmv x2 (fun x3 => (J_X5_followers_20 a1 a2 x3 m))) else nmv (m 34 13) (fun x4 => (J_X5_followers_20 a1 a2 x4 m))
def LB_X5_goOn_117 (k_61 : Int → Int → Mm → Rs) (rec : Int → Int → Int → Int → Mm → Rs) (v1 : Int) (v3 : Int) (v4 : Int) (v5 : Int) (m : Mm) : Rs := if 8 ≤ v5 then nmv (wr (v3 + 1)) (fun x2 => (k_61 v1 x2 m)) else grd (isRw (m 34 8).toNat) (ald m (m 34 8).toNat 9 v5 (fun x3 => grd (isRw (m 34 9).toNat) (ald m (m 34 9).toNat 9 v3 (fun x5 => grd (isRw (m 34 8).toNat) (ast m (m 34 8).toNat 9 v5 (wl (x3 + (wl ((iand (ishr v4 v5) 1) * x5)))) (fun m7 => nmv (wr (v5 + 1)) (fun x9 => (rec v1 v3 v4 x9 m7))))))))
def L_X5_goOn_117 (k_61 : Int → Int → Mm → Rs) : Nat → Int → Int → Int → Int → Mm → Rs
  | 0, _, _, _, _, _ => none
  | n + 1, v1, v3, v4, v5, m => LB_X5_goOn_117 k_61 (L_X5_goOn_117 k_61 n) v1 v3 v4 v5 m
def J_X5_goOn_90 (k_61 : Int → Int → Mm → Rs) (v1 : Int) (v3 : Int) (v4 : Int) (m : Mm) : Rs := ast m 37 108 (wr ((wr (v1 * 9)) + v3)) v4 (fun m1 => ald m1 38 12 v1 (fun x2 => ast m1 38 12 v1 (ior x2 v4) (fun m3 => nmv 0 (fun x4 => (L_X5_goOn_117 k_61 100000 v1 v3 v4 x4 m3)))))
def LB_X5_goOn_61 (rec : Int → Int → Mm → Rs) (v1 : Int) (v3 : Int) (m : Mm) : Rs := if 8 < v3 then some (0, m) else grd (isRw (m 34 9).toNat) (ald m (m 34 9).toNat 9 v3 (fun x2 => if ¬ (lcmp x2 0) = 0 then cll (F_X5_followers v1 v3 m) (fun r5 m6 => nmv r5 (fun x7 => (J_X5_goOn_90 rec v1 v3 x7 m6))) else nmv 0 (fun x8 => (J_X5_goOn_90 rec v1 v3 x8 m))))
def L_X5_goOn_61 : Nat → Int → Int → Mm → Rs
  | 0, _, _, _ => none
  | n + 1, v1, v3, m => LB_X5_goOn_61 (L_X5_goOn_61 n) v1 v3 m
def LB_X5_goOn_33 (rec : Int → Int → Mm → Rs) (v1 : Int) (v3 : Int) (m : Mm) : Rs := if 8 < v3 then ast m 38 12 v1 0 (fun m2 => nmv 0 (fun x3 => (L_X5_goOn_61 100000 v1 x3 m2))) else grd (isRw (m 34 8).toNat) (ast m (m 34 8).toNat 9 v3 0 (fun m4 => nmv (wr (v3 + 1)) (fun x6 => (rec v1 x6 m4))))
def L_X5_goOn_33 : Nat → Int → Int → Mm → Rs
  | 0, _, _, _ => none
  | n + 1, v1, v3, m => LB_X5_goOn_33 (L_X5_goOn_33 n) v1 v3 m
def F_X5_goOn (a1 : Int) (m : Mm) : Rs := if a1 < 0 then some (0, m) else if a1 < (m 34 10) then stf m 34 8 ((((m 34 9).toNat) : Nat) : Int) (fun m3 => stf m3 34 9 ((((m 34 8).toNat) : Nat) : Int) (fun m4 => nmv 0 (fun x5 => (L_X5_goOn_33 100000 a1 x5 m4)))) else some (0, m)
def LB_X5_howManyRows_4 (rec : Int → Int → Mm → Rs) (v1 : Int) (v3 : Int) (m : Mm) : Rs := if 8 ≤ v3 then some (v1, m) else grd (isRw (m 34 8).toNat) (ald m (m 34 8).toNat 9 v3 (fun x2 => nmv (wl (v1 + x2)) (fun x4 => nmv (wr (v3 + 1)) (fun x5 => (rec x4 x5 m)))))
def L_X5_howManyRows_4 : Nat → Int → Int → Mm → Rs
  | 0, _, _, _ => none
  | n + 1, v1, v3, m => LB_X5_howManyRows_4 (L_X5_howManyRows_4 n) v1 v3 m
def F_X5_howManyRows (m : Mm) : Rs := nmv 0 (fun x1 => nmv 0 (fun x2 => (L_X5_howManyRows_4 100000 x1 x2 m)))
def J_X5_keepWhatGoesOn_81 (k_7 : Int → Mm → Rs) (k_13 : Int → Int → Mm → Rs) (v1 : Int) (v2 : Int) (m : Mm) : Rs := nmv (wr (v2 + 1)) (fun x1 => (k_13 v1 x1 m))
def J_X5_keepWhatGoesOn_38 (k_7 : Int → Mm → Rs) (k_13 : Int → Int → Mm → Rs) (v1 : Int) (v2 : Int) (v3 : Int) (m : Mm) : Rs := if v3 = 0 then (J_X5_keepWhatGoesOn_81 k_7 k_13 v1 v2 m) else ald m 37 108 (wr ((wr ((wr (v1 + 1)) * 9)) + v2)) (fun x2 => ald m 38 12 (wr (v1 + 1)) (fun x3 => if ¬ (iand x2 x3) = 0 then (J_X5_keepWhatGoesOn_81 k_7 k_13 v1 v2 m) else ald m 38 12 v1 (fun x5 => ast m 38 12 v1 (iand x5 (ixor (ishl 1 v2) (-1))) (fun m6 => (J_X5_keepWhatGoesOn_81 k_7 k_13 v1 v2 m6)))))
def LB_X5_keepWhatGoesOn_13 (k_7 : Int → Mm → Rs) (rec : Int → Int → Mm → Rs) (v1 : Int) (v2 : Int) (m : Mm) : Rs := if 8 ≤ v2 then nmv (wr (v1 + (-1))) (fun x2 => (k_7 x2 m)) else ald m 38 12 v1 (fun x3 => if (iand (ishr x3 v2) 1) = 0 then nmv 0 (fun x5 => (J_X5_keepWhatGoesOn_38 k_7 rec v1 v2 x5 m)) else nmv 1 (fun x6 => (J_X5_keepWhatGoesOn_38 k_7 rec v1 v2 x6 m)))
def L_X5_keepWhatGoesOn_13 (k_7 : Int → Mm → Rs) : Nat → Int → Int → Mm → Rs
  | 0, _, _, _ => none
  | n + 1, v1, v2, m => LB_X5_keepWhatGoesOn_13 k_7 (L_X5_keepWhatGoesOn_13 k_7 n) v1 v2 m
def LB_X5_keepWhatGoesOn_7 (rec : Int → Mm → Rs) (v1 : Int) (m : Mm) : Rs := if v1 < 0 then some (0, m) else nmv 0 (fun x2 => (L_X5_keepWhatGoesOn_13 rec 100000 v1 x2 m))
def L_X5_keepWhatGoesOn_7 : Nat → Int → Mm → Rs
  | 0, _, _ => none
  | n + 1, v1, m => LB_X5_keepWhatGoesOn_7 (L_X5_keepWhatGoesOn_7 n) v1 m
def F_X5_keepWhatGoesOn (m : Mm) : Rs := nmv (wr ((m 34 10) - 2)) (fun x1 => (L_X5_keepWhatGoesOn_7 100000 x1 m))
def F_X5_whoMay (a1 : Int) (m : Mm) : Rs := if a1 < 0 then some (0, m) else if (m 34 10) ≤ a1 then some (0, m) else ald m 38 12 a1 (fun x3 => some (x3, m))
def F_X5_firstMissed (a1 : Int) (m : Mm) : Rs := if a1 < 0 then some ((-1), m) else if 3 ≤ a1 then some ((-1), m) else ald m 39 3 a1 (fun x3 => some (x3, m))
def J_X5_judgeRest_82 (k_29 : Int → Int → Mm → Rs) (v1 : Int) (v2 : Int) (m : Mm) : Rs := nmv (wr (v2 + (-1))) (fun x1 => (k_29 v1 x1 m))
def LB_X5_judgeRest_29 (rec : Int → Int → Mm → Rs) (v1 : Int) (v2 : Int) (m : Mm) : Rs := if v2 < 2 then some (0, m) else ald m 40 12 (wr (v2 + 1)) (fun x2 => if x2 = 0 then ast m 40 12 v2 0 (fun m4 => (J_X5_judgeRest_82 rec v1 v2 m4)) else ald m 35 12 v2 (fun x5 => ald m 35 12 (wr (v2 - 1)) (fun x6 => cll (F_X5_fits (wr (v2 + 1)) x5 v1 v1 x6 m) (fun r7 m8 => if r7 = 0 then ast m8 40 12 v2 0 (fun m10 => (J_X5_judgeRest_82 rec v1 v2 m10)) else ast m8 40 12 v2 1 (fun m11 => (J_X5_judgeRest_82 rec v1 v2 m11))))))
def L_X5_judgeRest_29 : Nat → Int → Int → Mm → Rs
  | 0, _, _, _ => none
  | n + 1, v1, v2, m => LB_X5_judgeRest_29 (L_X5_judgeRest_29 n) v1 v2 m
def F_X5_judgeRest (a1 : Int) (m : Mm) : Rs := ast m 40 12 (wr ((m 34 10) + 1)) 1 (fun m1 => ast m1 40 12 (m1 34 10) 1 (fun m2 => nmv (wr ((m2 34 10) - 1)) (fun x3 => (L_X5_judgeRest_29 100000 a1 x3 m2))))
def J_X5_note_28 (m : Mm) : Rs := stf m 34 14 (wr ((m 34 14) + 1)) (fun m1 => some (0, m1))
def F_X5_note (a1 : Int) (a2 : Int) (a3 : Int) (m : Mm) : Rs := if ¬ (m 34 14) = 0 then (J_X5_note_28  m) else ast m 39 3 0 a1 (fun m2 => ast m2 39 3 1 a2 (fun m3 => ast m3 39 3 2 a3 (fun m4 => (J_X5_note_28  m4))))
def J_X5_missWithin_125 (k_3 : Int → Int → Int → Int → Int → Mm → Rs) (k_67 : Int → Int → Int → Int → Int → Int → Int → Int → Mm → Rs) (v1 : Int) (v2 : Int) (v3 : Int) (v4 : Int) (v5 : Int) (v6 : Int) (v7 : Int) (v8 : Int) (m : Mm) : Rs := nmv (wr (v8 + 1)) (fun x1 => (k_67 v1 v2 v3 v4 v5 v6 v7 x1 m))
def J_X5_missWithin_131 (k_3 : Int → Int → Int → Int → Int → Mm → Rs) (v1 : Int) (v2 : Int) (v3 : Int) (v4 : Int) (v5 : Int) (m : Mm) : Rs := nmv (wr (v5 + 1)) (fun x1 => (k_3 v1 v2 v3 v4 x1 m))
def LB_X5_missWithin_67 (k_3 : Int → Int → Int → Int → Int → Mm → Rs) (rec : Int → Int → Int → Int → Int → Int → Int → Int → Mm → Rs) (v1 : Int) (v2 : Int) (v3 : Int) (v4 : Int) (v5 : Int) (v6 : Int) (v7 : Int) (v8 : Int) (m : Mm) : Rs := if v7 = 0 then (J_X5_missWithin_131 k_3 v1 v2 v3 v4 v5 m) else if (m 1 5) ≤ v8 then (J_X5_missWithin_131 k_3 v1 v2 v3 v4 v5 m) else cll (F_X5_fits v1 v5 v8 v3 v4 m) (fun r3 m4 => if r3 = 0 then (J_X5_missWithin_125 k_3 rec v1 v2 v3 v4 v5 v6 v7 v8 m4) else cll (F_X5_fits (wr (v1 + 1)) v6 v2 v8 v5 m4) (fun r6 m7 => if r6 = 0 then (J_X5_missWithin_125 k_3 rec v1 v2 v3 v4 v5 v6 v7 v8 m7) else cll (F_X5_note v1 v5 v8 m7) (fun r9 m10 => (J_X5_missWithin_125 k_3 rec v1 v2 v3 v4 v5 v6 v7 v8 m10))))
def L_X5_missWithin_67 (k_3 : Int → Int → Int → Int → Int → Mm → Rs) : Nat → Int → Int → Int → Int → Int → Int → Int → Int → Mm → Rs
  | 0, _, _, _, _, _, _, _, _, _ => none
  | n + 1, v1, v2, v3, v4, v5, v6, v7, v8, m => LB_X5_missWithin_67 k_3 (L_X5_missWithin_67 k_3 n) v1 v2 v3 v4 v5 v6 v7 v8 m
def J_X5_missWithin_64 (k_3 : Int → Int → Int → Int → Int → Mm → Rs) (v1 : Int) (v2 : Int) (v3 : Int) (v4 : Int) (v5 : Int) (v6 : Int) (v7 : Int) (m : Mm) : Rs := nmv 0 (fun x1 => (L_X5_missWithin_67 k_3 100000 v1 v2 v3 v4 v5 v6 v7 x1 m))
def J_X5_missWithin_57 (k_3 : Int → Int → Int → Int → Int → Mm → Rs) (v1 : Int) (v2 : Int) (v3 : Int) (v4 : Int) (v5 : Int) (v6 : Int) (m : Mm) : Rs := nmv 1 (fun x1 => (J_X5_missWithin_64 k_3 v1 v2 v3 v4 v5 v6 x1 m))
def LB_X5_missWithin_3 (rec : Int → Int → Int → Int → Int → Mm → Rs) (v1 : Int) (v2 : Int) (v3 : Int) (v4 : Int) (v5 : Int) (m : Mm) : Rs := ald m 35 12 v1 (fun x1 => if x1 ≤ v5 then some (0, m) else ald m 35 12 v1 (fun x3 => nmv (wr (x3 - v5)) (fun x4 => if (m 34 10) ≤ (wr (v1 + 1)) then (J_X5_missWithin_57 rec v1 v2 v3 v4 v5 x4 m) else ald m 35 12 (wr (v1 + 1)) (fun x6 => cll (F_X5_fits (wr (v1 + 2)) x6 v2 v2 x4 m) (fun r7 m8 => if r7 = 0 then nmv 0 (fun x10 => (J_X5_missWithin_64 rec v1 v2 v3 v4 v5 x4 x10 m8)) else (J_X5_missWithin_57 rec v1 v2 v3 v4 v5 x4 m8))))))
def L_X5_missWithin_3 : Nat → Int → Int → Int → Int → Int → Mm → Rs
  | 0, _, _, _, _, _, _ => none
  | n + 1, v1, v2, v3, v4, v5, m => LB_X5_missWithin_3 (L_X5_missWithin_3 n) v1 v2 v3 v4 v5 m
def F_X5_missWithin (a1 : Int) (a2 : Int) (a3 : Int) (a4 : Int) (m : Mm) : Rs := nmv 1 (fun x1 => (L_X5_missWithin_3 100000 a1 a2 a3 a4 x1 m))
def J_X5_waysToMiss_53 (k_23 : Int → Int → Int → Int → Mm → Rs) (v1 : Int) (v2 : Int) (v3 : Int) (v4 : Int) (m : Mm) : Rs := ald m 35 12 v4 (fun x1 => cll (F_X5_fits v4 x1 v1 v2 v3 m) (fun r2 m3 => if ¬ r2 = 0 then nmv v1 (fun x5 => ald m3 35 12 v4 (fun x6 => nmv x6 (fun x7 => nmv (wr (v4 + 1)) (fun x8 => (k_23 v1 x5 x7 x8 m3))))) else some ((m3 34 14), m3)))
def LB_X5_waysToMiss_23 (rec : Int → Int → Int → Int → Mm → Rs) (v1 : Int) (v2 : Int) (v3 : Int) (v4 : Int) (m : Mm) : Rs := if (m 34 10) ≤ v4 then some ((m 34 14), m) else ald m 40 12 (wr (v4 + 2)) (fun x2 => if x2 = 0 then (J_X5_waysToMiss_53 rec v1 v2 v3 v4 m) else cll (F_X5_missWithin v4 v1 v2 v3 m) (fun r4 m5 => (J_X5_waysToMiss_53 rec v1 v2 v3 v4 m5)))
def L_X5_waysToMiss_23 : Nat → Int → Int → Int → Int → Mm → Rs
  | 0, _, _, _, _, _ => none
  | n + 1, v1, v2, v3, v4, m => LB_X5_waysToMiss_23 (L_X5_waysToMiss_23 n) v1 v2 v3 v4 m
def F_X5_waysToMiss (a1 : Int) (m : Mm) : Rs := stf m 34 14 0 (fun m1 => cll (F_X5_judgeRest a1 m1) (fun r2 m3 => nmv (m3 34 12) (fun x4 => nmv (m3 34 13) (fun x5 => nmv 0 (fun x6 => (L_X5_waysToMiss_23 100000 a1 x4 x5 x6 m3))))))
def LB_X6_begin_2 (rec : Int → Int → Mm → Rs) (v1 : Int) (v2 : Int) (m : Mm) : Rs := if 8 ≤ v2 then cll (F_X4_wordsOf v1 m) (fun r2 m3 => stf m3 52 3 r2 (fun m4 => stf m4 52 4 0 (fun m5 => stf m5 52 5 0 (fun m6 => stf m6 52 6 0 (fun m7 => stf m7 52 7 8 (fun m8 => stf m8 52 8 63 (fun m9 => some (0, m9)))))))) else ast m 53 8 v2 0 (fun m10 => nmv (wr (v2 + 1)) (fun x11 => (rec v1 x11 m10)))
def L_X6_begin_2 : Nat → Int → Int → Mm → Rs
  | 0, _, _, _ => none
  | n + 1, v1, v2, m => LB_X6_begin_2 (L_X6_begin_2 n) v1 v2 m
def F_X6_begin (a1 : Int) (m : Mm) : Rs := nmv 0 (fun x1 => (L_X6_begin_2 100000 a1 x1 m))
def J_X7_wish_77 (m : Mm) : Rs := cll (F_X7_firstHolding 114 1000 m) (fun r1 m2 => some (r1, m2))
def J_X7_wish_31 (v1 : Int) (v2 : Int) (v3 : Int) (v4 : Int) (v5 : Int) (v6 : Int) (v7 : Int) (m : Mm) : Rs := cll (F_X7_set v1 v2 v3 v4 v2 0 m) (fun r1 m2 => ast m2 18 10 7 v5 (fun m3 => ast m3 18 10 8 v6 (fun m4 => if v7 = 0 then ast m4 18 10 9 0 (fun m6 => (J_X7_wish_77  m6)) else ast m4 18 10 9 1 (fun m7 => (J_X7_wish_77  m7)))))
def J_X7_wish_28 (v1 : Int) (v2 : Int) (v3 : Int) (v4 : Int) (v5 : Int) (v6 : Int) (m : Mm) : Rs := nmv 0 (fun x1 => (J_X7_wish_31 v1 v2 v3 v4 v5 v6 x1 m))
def F_X7_wish (a1 : Int) (a2 : Int) (a3 : Int) (a4 : Int) (a5 : Int) (a6 : Int) (m : Mm) : Rs := grd (isCd (m 17 3).toNat) (if (m (m 17 3).toNat 7) = 0 then (J_X7_wish_28 a1 a2 a3 a4 a5 a6 m) else cll (F_X7_inCrowd a1 a2 a3 a4 m) (fun r3 m4 => if ¬ r3 = a6 then (J_X7_wish_28 a1 a2 a3 a4 a5 a6 m4) else nmv 1 (fun x6 => (J_X7_wish_31 a1 a2 a3 a4 a5 a6 x6 m4))))
def J_X6_mostEager_105 (k_8 : Int → Int → Int → Int → Int → Mm → Rs) (v1 : Int) (v2 : Int) (v3 : Int) (v4 : Int) (v5 : Int) (m : Mm) : Rs := nmv (wr (v5 + 1)) (fun x1 => (k_8 v1 v2 v3 v4 x1 m))
def LB_X6_mostEager_8 (rec : Int → Int → Int → Int → Int → Mm → Rs) (v1 : Int) (v2 : Int) (v3 : Int) (v4 : Int) (v5 : Int) (m : Mm) : Rs := if (m 1 5) ≤ v5 then some (v3, m) else cll (F_X4_wordsBy v5 m) (fun r2 m3 => ald m3 53 8 v5 (fun x4 => nmv (wr (r2 - x4)) (fun x5 => if (iand (ishr v1 v5) 1) = 0 then (J_X6_mostEager_105 rec v1 v2 v3 v4 v5 m3) else if x5 ≤ 0 then (J_X6_mostEager_105 rec v1 v2 v3 v4 v5 m3) else ald m3 53 8 v5 (fun x8 => cll (F_X4_wordOf v5 x8 m3) (fun r9 m10 => cll (F_X7_wish v2 v5 (m3 52 7) (m3 52 8) x5 r9 m10) (fun r11 m12 => nmv r11 (fun x13 => if x13 ≤ v4 then (J_X6_mostEager_105 rec v1 v2 v3 v4 v5 m12) else nmv x13 (fun x15 => nmv v5 (fun x16 => (J_X6_mostEager_105 rec v1 v2 x16 x15 v5 m12))))))))))
def L_X6_mostEager_8 : Nat → Int → Int → Int → Int → Int → Mm → Rs
  | 0, _, _, _, _, _, _ => none
  | n + 1, v1, v2, v3, v4, v5, m => LB_X6_mostEager_8 (L_X6_mostEager_8 n) v1 v2 v3 v4 v5 m
def F_X6_mostEager (a1 : Int) (a2 : Int) (m : Mm) : Rs := nmv (-1) (fun x1 => nmv 0 (fun x2 => nmv 0 (fun x3 => (L_X6_mostEager_8 100000 a1 a2 x1 x2 x3 m))))
def J_X6_speak_79 (v1 : Int) (v2 : Int) (m : Mm) : Rs := stf m 52 7 v1 (fun m1 => stf m1 52 8 v2 (fun m2 => some (0, m2)))
def F_X6_speak (a1 : Int) (a2 : Int) (a3 : Int) (m : Mm) : Rs := stf m 52 5 (wr ((m 52 5) + 1)) (fun m1 => cll (F_X7_inCrowd a2 a1 (m1 52 7) (m1 52 8) m1) (fun r2 m3 => ald m3 53 8 a1 (fun x4 => cll (F_X4_wordOf a1 x4 m3) (fun r5 m6 => if ¬ r2 = r5 then (J_X6_speak_79 a1 a2 m6) else ald m6 53 8 a1 (fun x8 => ast m6 53 8 a1 (wr (x8 + 1)) (fun m9 => stf m9 52 4 (wr ((m9 52 4) + 1)) (fun m10 => stf m10 52 3 (wr ((m10 52 3) - 1)) (fun m11 => stf m11 52 6 a3 (fun m12 => (J_X6_speak_79 a1 a2 m12))))))))))
def J_X6_play_85 (k_10 : Int → Int → Int → Int → Mm → Rs) (v1 : Int) (v2 : Int) (v3 : Int) (v4 : Int) (m : Mm) : Rs := nmv (wr (v4 + 1)) (fun x1 => (k_10 v1 v2 v3 x1 m))
def J_X6_play_46 (k_10 : Int → Int → Int → Int → Mm → Rs) (v1 : Int) (v2 : Int) (v3 : Int) (v4 : Int) (v5 : Int) (m : Mm) : Rs := cll (F_X6_mostEager v1 v5 m) (fun r1 m2 => nmv r1 (fun x3 => if x3 = (-1) then if ¬ v5 = 63 then (J_X6_play_85 k_10 v1 v2 v3 v4 m2) else some (0, m2) else cll (F_X6_speak x3 v5 v4 m2) (fun r6 m7 => nmv v4 (fun x8 => (J_X6_play_85 k_10 v1 v2 x8 v4 m7)))))
def LB_X6_play_10 (rec : Int → Int → Int → Int → Mm → Rs) (v1 : Int) (v2 : Int) (v3 : Int) (v4 : Int) (m : Mm) : Rs := if v2 ≤ v4 then some (0, m) else if (m 52 3) ≤ 0 then some (0, m) else if ¬ (m 52 5) = 0 then cll (F_J9_min_7cf53 63 (wr (v4 - v3)) m) (fun r4 m5 => nmv r4 (fun x6 => (J_X6_play_46 rec v1 v2 v3 v4 x6 m5))) else nmv 63 (fun x7 => (J_X6_play_46 rec v1 v2 v3 v4 x7 m))
def L_X6_play_10 : Nat → Int → Int → Int → Int → Mm → Rs
  | 0, _, _, _, _, _ => none
  | n + 1, v1, v2, v3, v4, m => LB_X6_play_10 (L_X6_play_10 n) v1 v2 v3 v4 m
def F_X6_play (a1 : Int) (a2 : Int) (m : Mm) : Rs := cll (F_X6_begin a1 m) (fun r1 m2 => nmv 0 (fun x3 => nmv 0 (fun x4 => (L_X6_play_10 100000 a1 a2 x3 x4 m2))))
def F_X7_clauses (m : Mm) : Rs := grd (isCd (m 17 3).toNat) (some ((m (m 17 3).toNat 6), m))
def F_X7_takeSpare (m : Mm) : Rs := stf m 17 3 ((((m 17 4).toNat) : Nat) : Int) (fun m1 => stf m1 17 4 ((((m 17 3).toNat) : Nat) : Int) (fun m2 => some (0, m2)))
def J_X8_leastGap_54 (k_15 : Int → Int → Int → Int → Int → Int → Mm → Rs) (v1 : Int) (v2 : Int) (v3 : Int) (v4 : Int) (v5 : Int) (v6 : Int) (m : Mm) : Rs := nmv (wr (v6 + 1)) (fun x1 => (k_15 v1 v2 v3 v4 v5 x1 m))
def J_X8_leastGap_51 (k_15 : Int → Int → Int → Int → Int → Int → Mm → Rs) (v1 : Int) (v2 : Int) (v3 : Int) (v4 : Int) (v5 : Int) (v6 : Int) (m : Mm) : Rs := nmv (wr (v5 + 1)) (fun x1 => (J_X8_leastGap_54 k_15 v1 v2 v3 v4 x1 v6 m))
def LB_X8_leastGap_15 (rec : Int → Int → Int → Int → Int → Int → Mm → Rs) (v1 : Int) (v2 : Int) (v3 : Int) (v4 : Int) (v5 : Int) (v6 : Int) (m : Mm) : Rs := if v1 < v6 then some ((wr (1 + (wr (v2 * v5)))), m) else cll (F_X10_byteAt (wr (v6 - 1)) m) (fun r2 m3 => nmv r2 (fun x4 => if v4 < x4 then (J_X8_leastGap_51 rec v1 v2 v3 v4 v5 v6 m3) else if ¬ x4 = v4 then (J_X8_leastGap_54 rec v1 v2 v3 v4 v5 v6 m3) else if v3 ≤ v6 then (J_X8_leastGap_54 rec v1 v2 v3 v4 v5 v6 m3) else (J_X8_leastGap_51 rec v1 v2 v3 v4 v5 v6 m3)))
def L_X8_leastGap_15 : Nat → Int → Int → Int → Int → Int → Int → Mm → Rs
  | 0, _, _, _, _, _, _, _ => none
  | n + 1, v1, v2, v3, v4, v5, v6, m => LB_X8_leastGap_15 (L_X8_leastGap_15 n) v1 v2 v3 v4 v5 v6 m
def F_X8_leastGap (a1 : Int) (a2 : Int) (a3 : Int) (m : Mm) : Rs := cll (F_X10_byteAt (wr (a3 - 1)) m) (fun r1 m2 => nmv r1 (fun x3 => nmv 0 (fun x4 => nmv 1 (fun x5 => (L_X8_leastGap_15 100000 a1 a2 a3 x3 x4 x5 m2)))))
def LB_X8_leastSum_5 (rec : Int → Int → Int → Int → Mm → Rs) (v1 : Int) (v2 : Int) (v3 : Int) (v4 : Int) (m : Mm) : Rs := if v1 < v4 then some (v3, m) else cll (F_X10_byteAt (wr (v4 - 1)) m) (fun r2 m3 => cll (F_X8_leastGap v1 v2 v4 m3) (fun r4 m5 => nmv (wr (v3 + (wr (r2 * r4)))) (fun x6 => nmv (wr (v4 + 1)) (fun x7 => (rec v1 v2 x6 x7 m5)))))
def L_X8_leastSum_5 : Nat → Int → Int → Int → Int → Mm → Rs
  | 0, _, _, _, _, _ => none
  | n + 1, v1, v2, v3, v4, m => LB_X8_leastSum_5 (L_X8_leastSum_5 n) v1 v2 v3 v4 m
def F_X8_leastSum (a1 : Int) (a2 : Int) (m : Mm) : Rs := nmv 0 (fun x1 => nmv 1 (fun x2 => (L_X8_leastSum_5 100000 a1 a2 x1 x2 m)))
def LB_X8_meaningOf_2 (rec : Int → Int → Int → Mm → Rs) (v1 : Int) (v2 : Int) (v3 : Int) (m : Mm) : Rs := if v1 < v3 then some (0, m) else cll (F_X10_byteAt (wr (v3 - 1)) m) (fun r2 m3 => if ¬ r2 = v2 then nmv (wr (v3 + 1)) (fun x5 => (rec v1 v2 x5 m3)) else some (v3, m3))
def L_X8_meaningOf_2 : Nat → Int → Int → Int → Mm → Rs
  | 0, _, _, _, _ => none
  | n + 1, v1, v2, v3, m => LB_X8_meaningOf_2 (L_X8_meaningOf_2 n) v1 v2 v3 m
def F_X8_meaningOf (a1 : Int) (a2 : Int) (m : Mm) : Rs := nmv 1 (fun x1 => (L_X8_meaningOf_2 100000 a1 a2 x1 m))
def LB_X8_areGaps_2 (rec : Int → Int → Mm → Rs) (v1 : Int) (v2 : Int) (m : Mm) : Rs := if v1 < v2 then some (1, m) else cll (F_X10_byteAt (wr (v2 - 1)) m) (fun r2 m3 => nmv r2 (fun x4 => cll (F_X11_within x4 1 63 m3) (fun r5 m6 => if r5 = 0 then some (0, m6) else cll (F_X8_meaningOf v1 x4 m6) (fun r8 m9 => if r8 = v2 then nmv (wr (v2 + 1)) (fun x11 => (rec v1 x11 m9)) else some (0, m9)))))
def L_X8_areGaps_2 : Nat → Int → Int → Mm → Rs
  | 0, _, _, _ => none
  | n + 1, v1, v2, m => LB_X8_areGaps_2 (L_X8_areGaps_2 n) v1 v2 m
def F_X8_areGaps (a1 : Int) (m : Mm) : Rs := nmv 1 (fun x1 => (L_X8_areGaps_2 100000 a1 x1 m))
def F_X8_shifted (a1 : Int) (a2 : Int) (a3 : Int) (m : Mm) : Rs := cll (F_X10_byteAt (wr (a2 - 1)) m) (fun r1 m2 => cll (F_X8_meaningOf a1 (wr (r1 + a3)) m2) (fun r3 m4 => some (r3, m4)))
def LB_X8_firstShifted_2 (rec : Int → Int → Int → Mm → Rs) (v1 : Int) (v2 : Int) (v3 : Int) (m : Mm) : Rs := if v1 < v3 then some (0, m) else cll (F_X8_shifted v1 v3 v2 m) (fun r2 m3 => if r2 = 0 then nmv (wr (v3 + 1)) (fun x5 => (rec v1 v2 x5 m3)) else some (v3, m3))
def L_X8_firstShifted_2 : Nat → Int → Int → Int → Mm → Rs
  | 0, _, _, _, _ => none
  | n + 1, v1, v2, v3, m => LB_X8_firstShifted_2 (L_X8_firstShifted_2 n) v1 v2 v3 m
def F_X8_firstShifted (a1 : Int) (a2 : Int) (m : Mm) : Rs := nmv 1 (fun x1 => (L_X8_firstShifted_2 100000 a1 a2 x1 m))
def J_X8_howManyShifted_30 (k_5 : Int → Int → Int → Int → Mm → Rs) (v1 : Int) (v2 : Int) (v3 : Int) (v4 : Int) (m : Mm) : Rs := nmv (wr (v4 + 1)) (fun x1 => (k_5 v1 v2 v3 x1 m))
def LB_X8_howManyShifted_5 (rec : Int → Int → Int → Int → Mm → Rs) (v1 : Int) (v2 : Int) (v3 : Int) (v4 : Int) (m : Mm) : Rs := if v1 < v4 then some (v3, m) else cll (F_X8_shifted v1 v4 v2 m) (fun r2 m3 => if r2 = 0 then nmv (wr (v3 + 0)) (fun x5 => (J_X8_howManyShifted_30 rec v1 v2 x5 v4 m3)) else nmv (wr (v3 + 1)) (fun x6 => (J_X8_howManyShifted_30 rec v1 v2 x6 v4 m3)))
def L_X8_howManyShifted_5 : Nat → Int → Int → Int → Int → Mm → Rs
  | 0, _, _, _, _, _ => none
  | n + 1, v1, v2, v3, v4, m => LB_X8_howManyShifted_5 (L_X8_howManyShifted_5 n) v1 v2 v3 v4 m
def F_X8_howManyShifted (a1 : Int) (a2 : Int) (m : Mm) : Rs := nmv 0 (fun x1 => nmv 1 (fun x2 => (L_X8_howManyShifted_5 100000 a1 a2 x1 x2 m)))
def F_X8_howManyAlike (a1 : Int) (m : Mm) : Rs := cll (F_X8_howManyShifted a1 1 m) (fun r1 m2 => cll (F_X8_howManyShifted a1 (-1) m2) (fun r3 m4 => some ((wr (r1 * r3)), m4)))
def F_X8_firstAlike (a1 : Int) (a2 : Int) (m : Mm) : Rs := cll (F_X8_firstShifted a1 1 m) (fun r1 m2 => nmv r1 (fun x3 => cll (F_X8_firstShifted a1 (-1) m2) (fun r4 m5 => nmv r4 (fun x6 => if x3 = 0 then some ((-3), m5) else if ¬ x6 = 0 then if a2 = 0 then some (x3, m5) else if a2 = 1 then some (x6, m5) else if a2 = 2 then cll (F_X8_shifted a1 x3 1 m5) (fun r12 m13 => some (r12, m13)) else cll (F_X8_shifted a1 x6 (-1) m5) (fun r14 m15 => some (r14, m15)) else some ((-3), m5)))))
def F_X9_add (a1 : Int) (a2 : Int) (m : Mm) : Rs := if 150 ≤ (m 9 4) then some (0, m) else if 9999 < a2 then some (0, m) else cll (F_X9_breathOf (wr ((m 9 4) - 1)) m) (fun r3 m4 => if r3 ≤ a2 then ast m4 10 150 (m4 9 4) a1 (fun m6 => ast m6 11 150 (m6 9 4) a2 (fun m7 => stf m7 9 4 (wr ((m7 9 4) + 1)) (fun m8 => some (1, m8)))) else some (0, m4))
def J_X9_goOn_95 (k_22 : Int → Int → Int → Int → Mm → Rs) (v1 : Int) (v3 : Int) (v4 : Int) (v5 : Int) (m : Mm) : Rs := nmv (wr (v5 + 1)) (fun x1 => (k_22 v1 v3 v4 x1 m))
def LB_X9_goOn_22 (rec : Int → Int → Int → Int → Mm → Rs) (v1 : Int) (v3 : Int) (v4 : Int) (v5 : Int) (m : Mm) : Rs := if v1 ≤ v5 then some ((wr ((m 9 4) - v4)), m) else stf m 9 5 (iand (wr ((wr (25173 * (m 9 5))) + 13849)) 65535) (fun m2 => nmv (iand (m2 9 5) 7) (fun x3 => cll (F_X4_has x3 m2) (fun r4 m5 => if r4 = 0 then (J_X9_goOn_95 rec v1 v3 v4 v5 m5) else dvn 1000 (cll (F_X4_thousandthsOf x3 m5) (fun r8 m9 => if r8 ≤ (wr ((ishr (m5 9 5) 3).tmod 1000)) then (J_X9_goOn_95 rec v1 v3 v4 v5 m9) else cll (F_X9_add x3 (wr (v3 + v5)) m9) (fun r11 m12 => (J_X9_goOn_95 rec v1 v3 v4 v5 m12)))))))
def L_X9_goOn_22 : Nat → Int → Int → Int → Int → Mm → Rs
  | 0, _, _, _, _, _ => none
  | n + 1, v1, v3, v4, v5, m => LB_X9_goOn_22 (L_X9_goOn_22 n) v1 v3 v4 v5 m
def F_X9_goOn (a1 : Int) (m : Mm) : Rs := cll (F_X9_breathOf (wr ((m 9 4) - 1)) m) (fun r1 m2 => nmv (wr (r1 + 1)) (fun x3 => nmv (m2 9 4) (fun x4 => nmv 0 (fun x5 => (L_X9_goOn_22 100000 a1 x3 x4 x5 m2)))))
def F_X9_store (m : Mm) : Rs := cpy m 10 12 150 (fun m1 => cpy m1 11 13 150 (fun m2 => stf m2 9 6 (m2 9 4) (fun m3 => stf m3 9 7 (m3 9 5) (fun m4 => some (0, m4)))))
def F_X9_restore (m : Mm) : Rs := if ¬ (m 9 6) = (-1) then cpy m 12 10 150 (fun m2 => cpy m2 13 11 150 (fun m3 => stf m3 9 4 (m3 9 6) (fun m4 => stf m4 9 5 (m4 9 7) (fun m5 => some (1, m5))))) else some (0, m)
def LB_X10_putNumber_3 (rec : Int → Int → Mm → Rs) (v1 : Int) (v2 : Int) (m : Mm) : Rs := if v2 < 0 then some (0, m) else if 220 ≤ (m 7 1) then some (0, m) else ast m 8 220 (m 7 1) (iand (iushr v1 v2) 255) (fun m3 => stf m3 7 1 (wr ((m3 7 1) + 1)) (fun m4 => nmv (wr (v2 + (-8))) (fun x5 => (rec v1 x5 m4))))
def L_X10_putNumber_3 : Nat → Int → Int → Mm → Rs
  | 0, _, _, _ => none
  | n + 1, v1, v2, m => LB_X10_putNumber_3 (L_X10_putNumber_3 n) v1 v2 m
def F_X10_putNumber (a1 : Int) (m : Mm) : Rs := nmv 24 (fun x1 => (L_X10_putNumber_3 100000 a1 x1 m))
def F_X10_put (a1 : Int) (a2 : Int) (a3 : Int) (a4 : Int) (a5 : Int) (m : Mm) : Rs := if (wr ((m 7 1) + 20)) ≤ 220 then cll (F_X10_putNumber a1 m) (fun r2 m3 => cll (F_X10_putNumber a2 m3) (fun r4 m5 => cll (F_X10_putNumber a3 m5) (fun r6 m7 => cll (F_X10_putNumber a4 m7) (fun r8 m9 => cll (F_X10_putNumber a5 m9) (fun r10 m11 => some ((m11 7 1), m11)))))) else some ((-1), m)
def F_X10_has (a1 : Int) (m : Mm) : Rs := if (m 7 1) < a1 then some (0, m) else some (1, m)
def F_X10_numberAt (a1 : Int) (m : Mm) : Rs := nmv (wr (4 * a1)) (fun x1 => cll (F_X10_byteAt x1 m) (fun r2 m3 => cll (F_X10_byteAt (wr (x1 + 1)) m3) (fun r4 m5 => cll (F_X10_byteAt (wr (x1 + 2)) m5) (fun r6 m7 => cll (F_X10_byteAt (wr (x1 + 3)) m7) (fun r8 m9 => some ((ior (ior (ior (ishl r2 24) (ishl r4 16)) (ishl r6 8)) r8), m9))))))
def F_X10_empty (m : Mm) : Rs := stf m 7 1 0 (fun m1 => some (0, m1))
def J_X11_mouth_29 (v1 : Int) (v2 : Int) (v3 : Int) (v4 : Int) (m : Mm) : Rs := if v4 = 0 then some ((-1), m) else cll (F_X11_within v3 0 1000 m) (fun r2 m3 => if ¬ r2 = 0 then cll (F_X4_join v1 v2 v3 m3) (fun r5 m6 => some (r5, m6)) else some ((-1), m3))
def J_X11_mouth_26 (v1 : Int) (v2 : Int) (v3 : Int) (m : Mm) : Rs := nmv 0 (fun x1 => (J_X11_mouth_29 v1 v2 v3 x1 m))
def F_X11_mouth (a1 : Int) (a2 : Int) (a3 : Int) (m : Mm) : Rs := cll (F_X11_within a1 (-50) 50 m) (fun r1 m2 => if r1 = 0 then (J_X11_mouth_26 a1 a2 a3 m2) else cll (F_X11_within a2 (-50) 50 m2) (fun r4 m5 => if r4 = 0 then (J_X11_mouth_26 a1 a2 a3 m5) else nmv 1 (fun x7 => (J_X11_mouth_29 a1 a2 a3 x7 m5))))
def F_X11_air (a1 : Int) (a2 : Int) (m : Mm) : Rs := cll (F_X11_within a1 0 200 m) (fun r1 m2 => if r1 = 0 then some (0, m2) else cll (F_X11_within a2 1 100 m2) (fun r4 m5 => if ¬ r4 = 0 then stf m5 1 6 a1 (fun m7 => stf m7 1 7 a2 (fun m8 => cll (F_X3_forget m8) (fun r9 m10 => some (1, m10)))) else some (0, m5)))
def F_X11_feed (a1 : Int) (a2 : Int) (a3 : Int) (a4 : Int) (a5 : Int) (m : Mm) : Rs := cll (F_X10_put a1 a2 a3 a4 a5 m) (fun r1 m2 => some (r1, m2))
def F_X11_tongue (a1 : Int) (m : Mm) : Rs := cll (F_X11_within a1 1 200 m) (fun r1 m2 => if r1 = 0 then some ((-1), m2) else cll (F_X10_has a1 m2) (fun r4 m5 => if ¬ r4 = 0 then grd (isCd (m5 17 4).toNat) (cll (F_X2_translate a1 (m5 17 4).toNat m5) (fun r8 m9 => nmv r8 (fun x10 => cll (F_X10_empty m9) (fun r11 m12 => if x10 ≤ 0 then some (x10, m12) else cll (F_X7_takeSpare m12) (fun r14 m15 => cll (F_X1_forget m15) (fun r16 m17 => some (x10, m17))))))) else some ((-1), m5)))
def F_X11_sentence (a1 : Int) (a2 : Int) (m : Mm) : Rs := cll (F_X4_has a1 m) (fun r1 m2 => if r1 = 0 then some ((-1), m2) else cll (F_X11_within a2 0 4 m2) (fun r4 m5 => if r4 = 0 then some ((-1), m5) else cll (F_X10_has a2 m5) (fun r7 m8 => if ¬ r7 = 0 then cll (F_X4_takeSentence a1 a2 m8) (fun r10 m11 => nmv r10 (fun x12 => cll (F_X10_empty m11) (fun r13 m14 => if ¬ x12 = 0 then cll (F_X1_forget m14) (fun r16 m17 => some (a2, m17)) else some ((-2), m14)))) else some ((-1), m8))))
def F_X11_say (a1 : Int) (a2 : Int) (m : Mm) : Rs := cll (F_X4_has a1 m) (fun r1 m2 => if r1 = 0 then some ((-1), m2) else cll (F_X11_within a2 0 9999 m2) (fun r4 m5 => if r4 = 0 then some ((-1), m5) else cll (F_X9_add a1 a2 m5) (fun r7 m8 => if ¬ r7 = 0 then cll (F_X3_forget m8) (fun r10 m11 => some ((m11 9 4), m11)) else some ((-1), m8))))
def F_X11_heard (a1 : Int) (m : Mm) : Rs := cll (F_X4_has a1 m) (fun r1 m2 => if ¬ r1 = 0 then cll (F_X3_listen a1 m2) (fun r4 m5 => some ((m5 14 4), m5)) else some ((-1), m2))
def F_X11_meaningOf (a1 : Int) (a2 : Int) (m : Mm) : Rs := cll (F_X3_gapOf a2 m) (fun r1 m2 => cll (F_X3_whoOf a2 m2) (fun r3 m4 => cll (F_X3_whoOf (wr (a2 - 1)) m4) (fun r5 m6 => cll (F_X3_gapOf (wr (a2 - 1)) m6) (fun r7 m8 => cll (F_X7_byEar a1 r1 r3 r5 r7 m8) (fun r9 m10 => some (r9, m10))))))
def F_X11_hearing (a1 : Int) (a2 : Int) (a3 : Int) (m : Mm) : Rs := cll (F_X4_has a1 m) (fun r1 m2 => if ¬ r1 = 0 then cll (F_X3_listen a1 m2) (fun r4 m5 => cll (F_X11_within a2 0 (wr ((m5 14 4) - 1)) m5) (fun r6 m7 => if ¬ r6 = 0 then if a3 = 0 then cll (F_X3_breathOf a2 m7) (fun r10 m11 => some (r10, m11)) else if a3 = 1 then cll (F_X3_whoOf a2 m7) (fun r13 m14 => some (r13, m14)) else if a3 = 2 then cll (F_X3_gapOf a2 m7) (fun r16 m17 => some (r16, m17)) else if a3 = 3 then cll (F_X11_meaningOf a1 a2 m7) (fun r19 m20 => some (r19, m20)) else some ((-1), m7) else some ((-1), m7))) else some ((-1), m2))
def F_X11_way (a1 : Int) (a2 : Int) (m : Mm) : Rs := cll (F_X4_has a1 m) (fun r1 m2 => if r1 = 0 then some ((-1), m2) else cll (F_X4_has a2 m2) (fun r4 m5 => if ¬ r4 = 0 then cll (F_X4_wayBetween a1 a2 m5) (fun r7 m8 => some (r7, m8)) else some ((-1), m5)))
def F_X11_meaning (a1 : Int) (a2 : Int) (a3 : Int) (a4 : Int) (a5 : Int) (m : Mm) : Rs := cll (F_X4_has a1 m) (fun r1 m2 => if r1 = 0 then some ((-1), m2) else cll (F_X4_has a3 m2) (fun r4 m5 => if ¬ r4 = 0 then cll (F_X11_within a2 1 63 m5) (fun r7 m8 => if r7 = 0 then some ((-1), m8) else cll (F_X11_within a4 0 8 m8) (fun r10 m11 => if r10 = 0 then some ((-1), m11) else cll (F_X11_within a5 0 63 m11) (fun r13 m14 => if ¬ r13 = 0 then cll (F_X7_byEar a1 a2 a3 a4 a5 m14) (fun r16 m17 => some (r16, m17)) else some ((-1), m14)))) else some ((-1), m5)))
def LB_X11_read_102 (rec : Int → Int → Int → Mm → Rs) (v2 : Int) (v3 : Int) (v5 : Int) (m : Mm) : Rs := if v2 ≤ v5 then cll (F_X5_keepWhatGoesOn m) (fun r2 m3 => if ¬ v3 = (-1) then cll (F_X5_whoMay v3 m3) (fun r5 m6 => some (r5, m6)) else cll (F_X5_howManyRows m3) (fun r7 m8 => some (r7, m8))) else cll (F_X5_goOn v5 m) (fun r9 m10 => nmv (wr (v5 + 1)) (fun x11 => (rec v2 v3 x11 m10)))
def L_X11_read_102 : Nat → Int → Int → Int → Mm → Rs
  | 0, _, _, _, _ => none
  | n + 1, v2, v3, v5, m => LB_X11_read_102 (L_X11_read_102 n) v2 v3 v5 m
def F_X11_read (a1 : Int) (a2 : Int) (a3 : Int) (m : Mm) : Rs := cll (F_X4_has a1 m) (fun r1 m2 => if r1 = 0 then some ((-1), m2) else cll (F_X11_within a2 1 12 m2) (fun r4 m5 => if r4 = 0 then some ((-1), m5) else cll (F_X11_within a3 (-1) (wr (a2 - 1)) m5) (fun r7 m8 => if r7 = 0 then some ((-1), m8) else cll (F_X10_has (wr (2 * a2)) m8) (fun r10 m11 => if ¬ r10 = 0 then cll (F_X5_takePairs a2 m11) (fun r13 m14 => nmv r13 (fun x15 => cll (F_X10_empty m14) (fun r16 m17 => if ¬ x15 = 0 then cll (F_X3_listen a1 m17) (fun r19 m20 => cll (F_X5_beginBehind a1 m20) (fun r21 m22 => nmv 0 (fun x23 => (L_X11_read_102 100000 a2 a3 x23 m22)))) else some ((-2), m17)))) else some ((-1), m11)))))
def F_X11_missed (a1 : Int) (a2 : Int) (a3 : Int) (a4 : Int) (m : Mm) : Rs := cll (F_X4_has a1 m) (fun r1 m2 => if r1 = 0 then some ((-1), m2) else cll (F_X4_has a2 m2) (fun r4 m5 => if r4 = 0 then some ((-1), m5) else cll (F_X4_reaches a1 a2 m5) (fun r7 m8 => if ¬ r7 = 0 then cll (F_X11_within a3 1 10 m8) (fun r10 m11 => if r10 = 0 then some ((-1), m11) else cll (F_X11_within a4 (-1) 2 m11) (fun r13 m14 => if r13 = 0 then some ((-1), m14) else cll (F_X10_has (wr ((wr (2 * a3)) + 1)) m14) (fun r16 m17 => if ¬ r16 = 0 then cll (F_X5_takeGapsThenMeanings a3 m17) (fun r19 m20 => nmv r19 (fun x21 => cll (F_X10_empty m20) (fun r22 m23 => if ¬ x21 = 0 then cll (F_X3_listen a1 m23) (fun r25 m26 => cll (F_X5_beginBehind a1 m26) (fun r27 m28 => cll (F_X5_waysToMiss a2 m28) (fun r29 m30 => nmv r29 (fun x31 => if ¬ a4 = (-1) then if ¬ x31 = 0 then cll (F_X5_firstMissed a4 m30) (fun r34 m35 => some (r34, m35)) else some ((-3), m30) else some (x31, m30))))) else some ((-2), m23)))) else some ((-1), m17)))) else some ((-1), m8))))
def F_J6_bitCount_0f7a4 (a1 : Int) (m : Mm) : Rs := nmv (wr (a1 - (iand (iushr a1 1) 1431655765))) (fun x1 => nmv (wr ((iand x1 858993459) + (iand (iushr x1 2) 858993459))) (fun x2 => nmv (iand (wr (x2 + (iushr x2 4))) 252645135) (fun x3 => nmv (wr (x3 + (iushr x3 8))) (fun x4 => nmv (wr (x4 + (iushr x4 16))) (fun x5 => some ((iand x5 63), m))))))
def J_X11_soonest_126 (v2 : Int) (v4 : Int) (m : Mm) : Rs := cll (F_X1_canBe m) (fun r1 m2 => if ¬ r1 = 0 then if ¬ v2 = (-1) then if v4 = 0 then cll (F_X1_gapOf (wr (v2 - 200)) m2) (fun r6 m7 => some (r6, m7)) else cll (F_X1_speakerOf (wr (v2 - 100)) m2) (fun r8 m9 => some (r8, m9)) else some ((m2 43 14), m2) else some ((-2), m2))
def J_X11_soonest_79 (kc ks : Nat) (v1 : Int) (v2 : Int) (v4 : Int) (m : Mm) : Rs := cll (F_X1_knows v1 m) (fun r1 m2 => if ¬ r1 = 0 then grd (kc = 0 ∧ ks = 0) ((J_X11_soonest_126 v2 v4 m2)) else cll (F_X1_choose kc ks v1 m2) (fun r4 m5 => cll (F_X1_askGaps m5) (fun r6 m7 => cll (F_X1_findLeast m7) (fun r8 m9 => cll (F_X1_findSpeakers m9) (fun r10 m11 => cll (F_X1_findGaps m11) (fun r12 m13 => (J_X11_soonest_126 v2 v4 m13)))))))
def F_X11_soonest (kc ks : Nat) (a1 : Int) (a2 : Int) (m : Mm) : Rs := cll (F_X4_hasAll a1 m) (fun r1 m2 => if r1 = 0 then grd (kc = 0) (some ((-3), m2)) else cll (F_J6_bitCount_0f7a4 a1 m2) (fun r4 m5 => if r4 ≤ 4 then cll (F_X4_wordsOf a1 m5) (fun r7 m8 => nmv r7 (fun x9 => cll (F_X11_within a2 100 (wr ((wr (100 + x9)) - 1)) m8) (fun r10 m11 => nmv r10 (fun x12 => cll (F_X11_within a2 200 (wr ((wr (200 + x9)) - 1)) m11) (fun r13 m14 => nmv r13 (fun x15 => if a2 = (-1) then (J_X11_soonest_79 kc ks a1 a2 x12 m14) else if ¬ x12 = 0 then (J_X11_soonest_79 kc ks a1 a2 x12 m14) else if ¬ x15 = 0 then (J_X11_soonest_79 kc ks a1 a2 x12 m14) else grd (kc = 0) (some ((-3), m14)))))))) else grd (kc = 0) (some ((-3), m5))))
def F_X11_byRules (a1 : Int) (a2 : Int) (a3 : Int) (m : Mm) : Rs := cll (F_X4_hasAll a1 m) (fun r1 m2 => if r1 = 0 then some ((-1), m2) else cll (F_X11_within a2 1 400 m2) (fun r4 m5 => if r4 = 0 then some ((-1), m5) else cll (F_X11_within a3 0 2 m5) (fun r7 m8 => if ¬ r7 = 0 then cll (F_X6_play a1 a2 m8) (fun r10 m11 => if ¬ a3 = 1 then if ¬ a3 = 2 then if (m11 52 3) ≤ 0 then some ((m11 52 6), m11) else some ((-2), m11) else some ((m11 52 5), m11) else some ((m11 52 4), m11)) else some ((-1), m8))))
def J_X11_table_77 (v4 : Int) (m : Mm) : Rs := cll (F_X10_empty m) (fun r1 m2 => some (v4, m2))
def J_X11_table_48 (v1 : Int) (v2 : Int) (v3 : Int) (m : Mm) : Rs := if ¬ v3 = (-1) then cll (F_X8_leastGap v1 v2 v3 m) (fun r2 m3 => nmv r2 (fun x4 => (J_X11_table_77 x4 m3))) else cll (F_X8_leastSum v1 v2 m) (fun r5 m6 => nmv r5 (fun x7 => (J_X11_table_77 x7 m6)))
def F_X11_table (a1 : Int) (a2 : Int) (a3 : Int) (m : Mm) : Rs := cll (F_X11_within a1 1 12 m) (fun r1 m2 => if r1 = 0 then some ((-1), m2) else cll (F_X11_within a2 1 5 m2) (fun r4 m5 => if r4 = 0 then some ((-1), m5) else cll (F_X10_has a1 m5) (fun r7 m8 => if ¬ r7 = 0 then if a3 = (-1) then (J_X11_table_48 a1 a2 a3 m8) else cll (F_X11_within a3 1 a1 m8) (fun r11 m12 => if ¬ r11 = 0 then (J_X11_table_48 a1 a2 a3 m12) else some ((-1), m12)) else some ((-1), m8))))
def J_X11_alike_72 (v3 : Int) (m : Mm) : Rs := cll (F_X10_empty m) (fun r1 m2 => some (v3, m2))
def F_X11_alike (a1 : Int) (a2 : Int) (m : Mm) : Rs := cll (F_X11_within a1 1 12 m) (fun r1 m2 => if r1 = 0 then some ((-1), m2) else cll (F_X11_within a2 0 4 m2) (fun r4 m5 => if r4 = 0 then some ((-1), m5) else cll (F_X10_has a1 m5) (fun r7 m8 => if ¬ r7 = 0 then nmv (-2) (fun x10 => cll (F_X8_areGaps a1 m8) (fun r11 m12 => if r11 = 0 then (J_X11_alike_72 x10 m12) else if ¬ a2 = 4 then cll (F_X8_firstAlike a1 a2 m12) (fun r15 m16 => nmv r15 (fun x17 => (J_X11_alike_72 x17 m16))) else cll (F_X8_howManyAlike a1 m12) (fun r18 m19 => nmv r18 (fun x20 => (J_X11_alike_72 x20 m19))))) else some ((-1), m8))))
def F_X11_seed (a1 : Int) (m : Mm) : Rs := cll (F_X11_within a1 0 65535 m) (fun r1 m2 => if ¬ r1 = 0 then stf m2 9 5 a1 (fun m4 => some (1, m4)) else some (0, m2))
def F_X11_draw (a1 : Int) (m : Mm) : Rs := cll (F_X11_within a1 1 200 m) (fun r1 m2 => if ¬ r1 = 0 then cll (F_X3_forget m2) (fun r4 m5 => cll (F_X9_goOn a1 m5) (fun r6 m7 => some (r6, m7))) else some ((-1), m2))
def F_X11_keep (m : Mm) : Rs := cll (F_X9_store m) (fun r1 m2 => some ((m2 9 4), m2))
def F_X11_undo (m : Mm) : Rs := cll (F_X3_forget m) (fun r1 m2 => cll (F_X9_restore m2) (fun r3 m4 => some (r3, m4)))
def F_X11_quiet (m : Mm) : Rs := nmv (m 9 4) (fun x1 => stf m 9 4 0 (fun m2 => cll (F_X3_forget m2) (fun r3 m4 => some (x1, m4))))
def F_X11_said (a1 : Int) (a2 : Int) (m : Mm) : Rs := cll (F_X11_within a1 0 (wr ((m 9 4) - 1)) m) (fun r1 m2 => if ¬ r1 = 0 then if a2 = 0 then cll (F_X9_whoOf a1 m2) (fun r5 m6 => some (r5, m6)) else if a2 = 1 then cll (F_X9_breathOf a1 m2) (fun r8 m9 => some (r8, m9)) else if a2 = 2 then cll (F_X3_earsOf a1 m2) (fun r11 m12 => some (r11, m12)) else some ((-1), m2) else some ((-1), m2))
def LB_X11_firstWrong_2 (rec : Int → Int → Int → Mm → Rs) (v1 : Int) (v2 : Int) (v3 : Int) (m : Mm) : Rs := if v2 ≤ v3 then if (m 14 4) ≤ v2 then some ((-1), m) else some (v2, m) else if (m 14 4) ≤ v3 then some (v3, m) else cll (F_X10_numberAt v3 m) (fun r4 m5 => cll (F_X11_meaningOf v1 v3 m5) (fun r6 m7 => if r4 = r6 then nmv (wr (v3 + 1)) (fun x9 => (rec v1 v2 x9 m7)) else some (v3, m7)))
def L_X11_firstWrong_2 : Nat → Int → Int → Int → Mm → Rs
  | 0, _, _, _, _ => none
  | n + 1, v1, v2, v3, m => LB_X11_firstWrong_2 (L_X11_firstWrong_2 n) v1 v2 v3 m
def F_X11_firstWrong (a1 : Int) (a2 : Int) (m : Mm) : Rs := nmv 0 (fun x1 => (L_X11_firstWrong_2 100000 a1 a2 x1 m))
def F_X11_check (a1 : Int) (a2 : Int) (m : Mm) : Rs := cll (F_X4_has a1 m) (fun r1 m2 => if r1 = 0 then some ((-2), m2) else cll (F_X11_within a2 0 55 m2) (fun r4 m5 => if r4 = 0 then some ((-2), m5) else cll (F_X10_has (wr (4 * a2)) m5) (fun r7 m8 => if ¬ r7 = 0 then cll (F_X3_listen a1 m8) (fun r10 m11 => cll (F_X11_firstWrong a1 a2 m11) (fun r12 m13 => nmv r12 (fun x14 => cll (F_X10_empty m13) (fun r15 m16 => some (x14, m16))))) else some ((-2), m8))))
def F_X11_countWords (a1 : Int) (m : Mm) : Rs := cll (F_X4_has (wr (a1 - 10)) m) (fun r1 m2 => if r1 = 0 then nmv (wr (a1 - 20)) (fun x4 => if a1 < 20 then some ((-1), m2) else dvn 4 (cll (F_X4_has (wr ((x4 : Int).tdiv 4)) m2) (fun r7 m8 => if ¬ r7 = 0 then dvn 4 (dvn 4 (cll (F_X4_wordOf (wr ((x4 : Int).tdiv 4)) (wr ((x4 : Int).tmod 4)) m8) (fun r12 m13 => nmv r12 (fun x14 => if ¬ x14 = 0 then some (x14, m13) else some ((-1), m13))))) else some ((-1), m8)))) else cll (F_X4_wordsBy (wr (a1 - 10)) m2) (fun r16 m17 => some (r16, m17)))
def F_X11_count (a1 : Int) (m : Mm) : Rs := if a1 = 0 then some ((m 1 5), m) else if a1 = 1 then some ((m 9 4), m) else if a1 = 2 then cll (F_X7_clauses m) (fun r4 m5 => some (r4, m5)) else if a1 = 3 then some ((m 7 1), m) else if a1 = 4 then some ((m 9 5), m) else if a1 = 5 then some ((m 1 6), m) else if a1 = 6 then some ((m 1 7), m) else cll (F_X11_countWords a1 m) (fun r10 m11 => some (r10, m11))
def F_X12_lies (a1 : Int) (a2 : Int) (a3 : Int) (m : Mm) : Rs := if (lcmp a1 a2) < 0 then some (0, m) else if 0 < (lcmp a1 a3) then some (0, m) else some (1, m)
def F_X12_has (a1 : Int) (a2 : Int) (m : Mm) : Rs := if ¬ (iand (ishr a1 a2) 1) = 1 then some (0, m) else some (1, m)
def F_X12_isMouth (a1 : Int) (m : Mm) : Rs := cll (F_X12_lies a1 0 (wr ((m 54 2) - 1)) m) (fun r1 m2 => some (r1, m2))
def F_X12_mouth (a1 : Int) (a2 : Int) (a3 : Int) (m : Mm) : Rs := if (m 54 2) = 8 then some ((-1), m) else cll (F_X12_lies a1 (-50) 50 m) (fun r2 m3 => if r2 = 0 then some ((-1), m3) else cll (F_X12_lies a2 (-50) 50 m3) (fun r5 m6 => if r5 = 0 then some ((-1), m6) else cll (F_X12_lies a3 0 1000 m6) (fun r8 m9 => if ¬ r8 = 0 then ast m9 56 8 (m9 54 2) a1 (fun m11 => ast m11 57 8 (m11 54 2) a2 (fun m12 => ast m12 58 8 (m12 54 2) a3 (fun m13 => stf m13 54 2 (wr ((m13 54 2) + 1)) (fun m14 => some ((wr ((m14 54 2) - 1)), m14))))) else some ((-1), m9))))
def F_X12_air (a1 : Int) (a2 : Int) (m : Mm) : Rs := cll (F_X12_lies a1 0 200 m) (fun r1 m2 => if r1 = 0 then some (0, m2) else cll (F_X12_lies a2 1 100 m2) (fun r4 m5 => if ¬ r4 = 0 then stf m5 54 3 a1 (fun m7 => stf m7 54 4 a2 (fun m8 => some (1, m8))) else some (0, m5)))
def LB_X12_push_3 (rec : Int → Int → Mm → Rs) (v1 : Int) (v2 : Int) (m : Mm) : Rs := if v2 < 0 then some (0, m) else ast m 55 220 (m 54 1) (i2b (ishr v1 v2)) (fun m2 => stf m2 54 1 (wr ((m2 54 1) + 1)) (fun m3 => nmv (wr (v2 + (-8))) (fun x4 => (rec v1 x4 m3))))
def L_X12_push_3 : Nat → Int → Int → Mm → Rs
  | 0, _, _, _ => none
  | n + 1, v1, v2, m => LB_X12_push_3 (L_X12_push_3 n) v1 v2 m
def F_X12_push (a1 : Int) (m : Mm) : Rs := nmv 24 (fun x1 => (L_X12_push_3 100000 a1 x1 m))
def F_X12_feed (a1 : Int) (a2 : Int) (a3 : Int) (a4 : Int) (a5 : Int) (m : Mm) : Rs := if (wr ((m 54 1) + 20)) ≤ 220 then cll (F_X12_push a1 m) (fun r2 m3 => cll (F_X12_push a2 m3) (fun r4 m5 => cll (F_X12_push a3 m5) (fun r6 m7 => cll (F_X12_push a4 m7) (fun r8 m9 => cll (F_X12_push a5 m9) (fun r10 m11 => some ((m11 54 1), m11)))))) else some ((-1), m)
def F_X12_byteAt (a1 : Int) (m : Mm) : Rs := ald m 55 220 a1 (fun x1 => some ((iand x1 255), m))
def F_X12_here (m : Mm) : Rs := if (m 54 28) ≤ (m 54 27) then some (0, m) else ald m 55 220 (m 54 27) (fun x2 => some ((iand x2 255), m))
def F_X12_wrongs (a1 : Int) (a2 : Int) (m : Mm) : Rs := if 0 ≤ (m 54 29) then stf m 54 29 (wr ((wr ((-1000) * a1)) - a2)) (fun m2 => some (0, m2)) else stf m 54 29 (m 54 29) (fun m3 => some (0, m3))
def F_X12_isGood (m : Mm) : Rs := if ¬ (m 54 29) = 0 then some (0, m) else some (1, m)
def F_X12_emit (a1 : Int) (a2 : Int) (m : Mm) : Rs := cll (F_X12_isGood m) (fun r1 m2 => if ¬ r1 = 0 then ast m2 73 200 (m2 54 31) a1 (fun m4 => ast m4 74 200 (m4 54 31) a2 (fun m5 => stf m5 54 31 (wr ((m5 54 31) + 1)) (fun m6 => some (0, m6)))) else some (0, m2))
def F_X12_top (m : Mm) : Rs := if (m 54 33) ≤ 0 then some (0, m) else ald m 75 240 (wr ((m 54 33) - 1)) (fun x2 => some (x2, m))
def F_X12_puts (a1 : Int) (m : Mm) : Rs := ast m 75 240 (m 54 33) a1 (fun m1 => stf m1 54 33 (wr ((m1 54 33) + 1)) (fun m2 => stf m2 54 27 (wr ((m2 54 27) + 1)) (fun m3 => some (0, m3))))
def J_X12_opens_18 (m : Mm) : Rs := stf m 54 32 (wr ((m 54 32) + 1)) (fun m1 => cll (F_X12_here m1) (fun r2 m3 => cll (F_X12_puts r2 m3) (fun r4 m5 => some (0, m5))))
def F_X12_opens (m : Mm) : Rs := if ¬ (m 54 32) = 6 then (J_X12_opens_18  m) else cll (F_X12_wrongs 5 (m 54 27) m) (fun r2 m3 => (J_X12_opens_18  m3))
def F_X12_seesDigit (m : Mm) : Rs := cll (F_X12_here m) (fun r1 m2 => cll (F_X12_lies r1 48 57 m2) (fun r3 m4 => some (r3, m4)))
def J_X12_reads_40 (k_7 : Int → Int → Mm → Rs) (v1 : Int) (v2 : Int) (m : Mm) : Rs := cll (F_X12_here m) (fun r1 m2 => nmv (wr ((wr ((wr (10 * v2)) + r1)) - 48)) (fun x3 => stf m2 54 27 (wr ((m2 54 27) + 1)) (fun m4 => (k_7 v1 x3 m4))))
def LB_X12_reads_7 (rec : Int → Int → Mm → Rs) (v1 : Int) (v2 : Int) (m : Mm) : Rs := cll (F_X12_isGood m) (fun r1 m2 => if r1 = 0 then some (v2, m2) else cll (F_X12_seesDigit m2) (fun r4 m5 => if r4 = 0 then some (v2, m5) else if ¬ (m5 54 27) = (wr (v1 + 5)) then (J_X12_reads_40 rec v1 v2 m5) else cll (F_X12_wrongs 2 (m5 54 27) m5) (fun r8 m9 => (J_X12_reads_40 rec v1 v2 m9))))
def L_X12_reads_7 : Nat → Int → Int → Mm → Rs
  | 0, _, _, _ => none
  | n + 1, v1, v2, m => LB_X12_reads_7 (L_X12_reads_7 n) v1 v2 m
def F_X12_reads (m : Mm) : Rs := nmv (m 54 27) (fun x1 => nmv 0 (fun x2 => (L_X12_reads_7 100000 x1 x2 m)))
def F_X12_isTimes (a1 : Int) (m : Mm) : Rs := if a1 = 42 then some (1, m) else if a1 = 47 then some (1, m) else if ¬ a1 = 37 then some (0, m) else some (1, m)
def F_X12_isPlus (a1 : Int) (m : Mm) : Rs := if a1 = 43 then some (1, m) else if ¬ a1 = 45 then some (0, m) else some (1, m)
def F_X12_isSign (a1 : Int) (m : Mm) : Rs := if a1 = 60 then some (1, m) else if a1 = 62 then some (1, m) else if ¬ a1 = 61 then some (0, m) else some (1, m)
def F_X12_isValue (a1 : Int) (m : Mm) : Rs := if a1 = 103 then some (1, m) else if a1 = 119 then some (1, m) else if a1 = 108 then some (1, m) else if a1 = 112 then some (1, m) else if a1 = 115 then some (1, m) else if a1 = 100 then some (1, m) else if a1 = 101 then some (1, m) else if a1 = 107 then some (1, m) else if a1 = 97 then some (1, m) else if ¬ a1 = 102 then some (0, m) else some (1, m)
def J_X12_sums_24 (k_0 : Int → Mm → Rs) (v1 : Int) (m : Mm) : Rs := cll (F_X12_top m) (fun r1 m2 => cll (F_X12_emit r1 0 m2) (fun r3 m4 => stf m4 54 33 (wr ((m4 54 33) - 1)) (fun m5 => (k_0 v1 m5))))
def LB_X12_sums_0 (rec : Int → Mm → Rs) (v1 : Int) (m : Mm) : Rs := cll (F_X12_top m) (fun r1 m2 => cll (F_X12_isTimes r1 m2) (fun r3 m4 => if ¬ r3 = 0 then (J_X12_sums_24 rec v1 m4) else if v1 = 0 then some (0, m4) else cll (F_X12_top m4) (fun r7 m8 => cll (F_X12_isPlus r7 m8) (fun r9 m10 => if r9 = 0 then some (0, m10) else (J_X12_sums_24 rec v1 m10)))))
def L_X12_sums_0 : Nat → Int → Mm → Rs
  | 0, _, _ => none
  | n + 1, v1, m => LB_X12_sums_0 (L_X12_sums_0 n) v1 m
def F_X12_sums (a1 : Int) (m : Mm) : Rs := (L_X12_sums_0 100000 a1 m)
def J_X12_joins_22 (k_0 : Int → Mm → Rs) (v1 : Int) (m : Mm) : Rs := cll (F_X12_top m) (fun r1 m2 => cll (F_X12_emit r1 0 m2) (fun r3 m4 => stf m4 54 33 (wr ((m4 54 33) - 1)) (fun m5 => (k_0 v1 m5))))
def LB_X12_joins_0 (rec : Int → Mm → Rs) (v1 : Int) (m : Mm) : Rs := cll (F_X12_top m) (fun r1 m2 => if r1 = 38 then (J_X12_joins_22 rec v1 m2) else if v1 = 0 then some (0, m2) else cll (F_X12_top m2) (fun r5 m6 => if ¬ r5 = 124 then some (0, m6) else (J_X12_joins_22 rec v1 m6)))
def L_X12_joins_0 : Nat → Int → Mm → Rs
  | 0, _, _ => none
  | n + 1, v1, m => LB_X12_joins_0 (L_X12_joins_0 n) v1 m
def F_X12_joins (a1 : Int) (m : Mm) : Rs := (L_X12_joins_0 100000 a1 m)
def LB_X12_ends_0 (rec : Mm → Rs) (m : Mm) : Rs := cll (F_X12_top m) (fun r1 m2 => if ¬ r1 = 33 then some (0, m2) else cll (F_X12_emit 2 0 m2) (fun r4 m5 => stf m5 54 33 (wr ((m5 54 33) - 1)) (fun m6 => stf m6 54 32 (wr ((m6 54 32) - 1)) (fun m7 => (rec m7)))))
def L_X12_ends_0 : Nat → Mm → Rs
  | 0, _ => none
  | n + 1, m => LB_X12_ends_0 (L_X12_ends_0 n)  m
def F_X12_ends (m : Mm) : Rs := (L_X12_ends_0 100000  m)
def J_X12_factor_23 (m : Mm) : Rs := cll (F_X12_isGood m) (fun r1 m2 => if ¬ r1 = 0 then cll (F_X12_seesDigit m2) (fun r4 m5 => if r4 = 0 then cll (F_X12_here m5) (fun r7 m8 => cll (F_X12_isValue r7 m8) (fun r9 m10 => if r9 = 0 then cll (F_X12_wrongs 1 (m10 54 27) m10) (fun r12 m13 => some (0, m13)) else cll (F_X12_here m10) (fun r14 m15 => cll (F_X12_emit 1 r14 m15) (fun r16 m17 => stf m17 54 27 (wr ((m17 54 27) + 1)) (fun m18 => some (0, m18)))))) else cll (F_X12_reads m5) (fun r19 m20 => cll (F_X12_emit 0 r19 m20) (fun r21 m22 => some (0, m22)))) else some (0, m2))
def LB_X12_factor_0 (rec : Mm → Rs) (m : Mm) : Rs := cll (F_X12_isGood m) (fun r1 m2 => if r1 = 0 then (J_X12_factor_23  m2) else cll (F_X12_here m2) (fun r4 m5 => if ¬ r4 = 91 then (J_X12_factor_23  m5) else cll (F_X12_opens m5) (fun r7 m8 => (rec m8))))
def L_X12_factor_0 : Nat → Mm → Rs
  | 0, _ => none
  | n + 1, m => LB_X12_factor_0 (L_X12_factor_0 n)  m
def F_X12_factor (m : Mm) : Rs := (L_X12_factor_0 100000  m)
def J_X12_stays_19 (v1 : Int) (m : Mm) : Rs := cll (F_X12_isPlus v1 m) (fun r1 m2 => cll (F_X12_sums r1 m2) (fun r3 m4 => cll (F_X12_puts v1 m4) (fun r5 m6 => some (1, m6))))
def F_X12_stays (m : Mm) : Rs := cll (F_X12_here m) (fun r1 m2 => nmv r1 (fun x3 => cll (F_X12_isTimes x3 m2) (fun r4 m5 => if ¬ r4 = 0 then (J_X12_stays_19 x3 m5) else cll (F_X12_isPlus x3 m5) (fun r7 m8 => if r7 = 0 then cll (F_X12_sums 1 m8) (fun r10 m11 => if x3 = 93 then cll (F_X12_top m11) (fun r13 m14 => if r13 = 91 then stf m14 54 33 (wr ((m14 54 33) - 1)) (fun m16 => stf m16 54 32 (wr ((m16 54 32) - 1)) (fun m17 => stf m17 54 27 (wr ((m17 54 27) + 1)) (fun m18 => stf m18 54 35 1 (fun m19 => some (1, m19))))) else cll (F_X12_wrongs 1 (m14 54 27) m14) (fun r20 m21 => some (0, m21))) else some (0, m11)) else (J_X12_stays_19 x3 m8)))))
def J_X12_value_54 (k_7 : Int → Mm → Rs) (v1 : Int) (m : Mm) : Rs := (k_7 v1 m)
def J_X12_value_52 (k_7 : Int → Mm → Rs) (m : Mm) : Rs := nmv 0 (fun x1 => (J_X12_value_54 k_7 x1 m))
def J_X12_value_29 (k_7 : Int → Mm → Rs) (m : Mm) : Rs := stf m 54 35 0 (fun m1 => cll (F_X12_isGood m1) (fun r2 m3 => if r2 = 0 then (J_X12_value_52 k_7  m3) else cll (F_X12_stays m3) (fun r5 m6 => if r5 = 0 then (J_X12_value_52 k_7  m6) else nmv 1 (fun x8 => (J_X12_value_54 k_7 x8 m6)))))
def J_X12_value_57 (m : Mm) : Rs := cll (F_X12_isGood m) (fun r1 m2 => if r1 = 0 then some (0, m2) else cll (F_X12_top m2) (fun r4 m5 => if ¬ r4 = 91 then some (0, m5) else cll (F_X12_wrongs 1 (m5 54 27) m5) (fun r7 m8 => some (0, m8))))
def LB_X12_value_7 (rec : Int → Mm → Rs) (v1 : Int) (m : Mm) : Rs := if v1 = 0 then (J_X12_value_57  m) else cll (F_X12_isGood m) (fun r2 m3 => if r2 = 0 then (J_X12_value_57  m3) else if ¬ (m3 54 35) = 0 then (J_X12_value_29 rec  m3) else cll (F_X12_factor m3) (fun r6 m7 => (J_X12_value_29 rec  m7)))
def L_X12_value_7 : Nat → Int → Mm → Rs
  | 0, _, _ => none
  | n + 1, v1, m => LB_X12_value_7 (L_X12_value_7 n) v1 m
def F_X12_value (m : Mm) : Rs := nmv 1 (fun x1 => stf m 54 35 0 (fun m2 => (L_X12_value_7 100000 x1 m2)))
def J_X12_pieceOfC_25 (k_0 : Mm → Rs) (m : Mm) : Rs := cll (F_X12_opens m) (fun r1 m2 => (k_0 m2))
def J_X12_pieceOfC_43 (m : Mm) : Rs := cll (F_X12_isGood m) (fun r1 m2 => if ¬ r1 = 0 then cll (F_X12_here m2) (fun r4 m5 => nmv r4 (fun x6 => cll (F_X12_isSign x6 m5) (fun r7 m8 => if ¬ r7 = 0 then cll (F_X12_puts x6 m8) (fun r10 m11 => cll (F_X12_value m11) (fun r12 m13 => cll (F_X12_isGood m13) (fun r14 m15 => if ¬ r14 = 0 then cll (F_X12_top m15) (fun r17 m18 => cll (F_X12_emit r17 0 m18) (fun r19 m20 => stf m20 54 33 (wr ((m20 54 33) - 1)) (fun m21 => cll (F_X12_ends m21) (fun r22 m23 => some (0, m23))))) else some (0, m15)))) else cll (F_X12_wrongs 1 (m8 54 27) m8) (fun r24 m25 => some (0, m25))))) else some (0, m2))
def J_X12_pieceOfC_32 (m : Mm) : Rs := cll (F_X12_isGood m) (fun r1 m2 => if r1 = 0 then (J_X12_pieceOfC_43  m2) else cll (F_X12_value m2) (fun r4 m5 => (J_X12_pieceOfC_43  m5)))
def LB_X12_pieceOfC_0 (rec : Mm → Rs) (m : Mm) : Rs := cll (F_X12_isGood m) (fun r1 m2 => if r1 = 0 then (J_X12_pieceOfC_32  m2) else cll (F_X12_here m2) (fun r4 m5 => if r4 = 33 then (J_X12_pieceOfC_25 rec  m5) else cll (F_X12_here m5) (fun r7 m8 => if ¬ r7 = 40 then (J_X12_pieceOfC_32  m8) else (J_X12_pieceOfC_25 rec  m8))))
def L_X12_pieceOfC_0 : Nat → Mm → Rs
  | 0, _ => none
  | n + 1, m => LB_X12_pieceOfC_0 (L_X12_pieceOfC_0 n)  m
def F_X12_pieceOfC (m : Mm) : Rs := (L_X12_pieceOfC_0 100000  m)
def J_X12_goesBehind_32 (v1 : Int) (m : Mm) : Rs := cll (F_X12_puts v1 m) (fun r1 m2 => some (1, m2))
def J_X12_goesBehind_17 (v1 : Int) (m : Mm) : Rs := if ¬ v1 = 124 then cll (F_X12_joins 0 m) (fun r2 m3 => (J_X12_goesBehind_32 v1 m3)) else cll (F_X12_joins 1 m) (fun r4 m5 => (J_X12_goesBehind_32 v1 m5))
def J_X12_goesBehind_107 (m : Mm) : Rs := if ¬ (m 54 34) = 0 then some (0, m) else cll (F_X12_ends m) (fun r2 m3 => some (0, m3))
def F_X12_goesBehind (m : Mm) : Rs := cll (F_X12_here m) (fun r1 m2 => nmv r1 (fun x3 => if x3 = 38 then (J_X12_goesBehind_17 x3 m2) else if ¬ x3 = 124 then if x3 = 41 then cll (F_X12_joins 1 m2) (fun r7 m8 => stf m8 54 33 (wr ((m8 54 33) - 1)) (fun m9 => stf m9 54 32 (wr ((m9 54 32) - 1)) (fun m10 => stf m10 54 27 (wr ((m10 54 27) + 1)) (fun m11 => if ¬ (m11 54 33) = 0 then stf m11 54 34 0 (fun m13 => (J_X12_goesBehind_107  m13)) else stf m11 54 34 1 (fun m14 => (J_X12_goesBehind_107  m14)))))) else cll (F_X12_wrongs 1 (m2 54 27) m2) (fun r15 m16 => some (0, m16)) else (J_X12_goesBehind_17 x3 m2)))
def J_X12_condition_59 (k_37 : Int → Mm → Rs) (v1 : Int) (m : Mm) : Rs := cll (F_X12_isGood m) (fun r1 m2 => if r1 = 0 then (k_37 v1 m2) else cll (F_X12_goesBehind m2) (fun r4 m5 => nmv r4 (fun x6 => (k_37 x6 m5))))
def LB_X12_condition_37 (rec : Int → Mm → Rs) (v1 : Int) (m : Mm) : Rs := cll (F_X12_isGood m) (fun r1 m2 => if r1 = 0 then some (0, m2) else if ¬ (m2 54 34) = 0 then some (0, m2) else if v1 = 0 then (J_X12_condition_59 rec v1 m2) else cll (F_X12_pieceOfC m2) (fun r6 m7 => (J_X12_condition_59 rec v1 m7)))
def L_X12_condition_37 : Nat → Int → Mm → Rs
  | 0, _, _ => none
  | n + 1, v1, m => LB_X12_condition_37 (L_X12_condition_37 n) v1 m
def J_X12_condition_23 (m : Mm) : Rs := cll (F_X12_isGood m) (fun r1 m2 => if ¬ r1 = 0 then cll (F_X12_opens m2) (fun r4 m5 => nmv 1 (fun x6 => (L_X12_condition_37 100000 x6 m5))) else some (0, m2))
def F_X12_condition (m : Mm) : Rs := stf m 54 34 0 (fun m1 => cll (F_X12_here m1) (fun r2 m3 => if r2 = 40 then (J_X12_condition_23  m3) else cll (F_X12_wrongs 1 (m3 54 27) m3) (fun r5 m6 => (J_X12_condition_23  m6))))
def J_X12_clause_126 (m : Mm) : Rs := ast m 72 14 (m 54 30) (m 54 31) (fun m1 => stf m1 54 30 (wr ((m1 54 30) + 1)) (fun m2 => some (0, m2)))
def J_X12_clause_47 (v1 : Int) (m : Mm) : Rs := cll (F_X12_isGood m) (fun r1 m2 => if ¬ r1 = 0 then ast m2 69 14 (m2 54 30) v1 (fun m4 => ast m4 70 14 (m4 54 30) (m4 54 31) (fun m5 => stf m5 54 27 (wr ((m5 54 27) + 1)) (fun m6 => stf m6 54 33 0 (fun m7 => stf m7 54 32 0 (fun m8 => cll (F_X12_value m8) (fun r9 m10 => ast m10 71 14 (m10 54 30) (m10 54 31) (fun m11 => cll (F_X12_isGood m11) (fun r12 m13 => if r12 = 0 then (J_X12_clause_126  m13) else cll (F_X12_condition m13) (fun r15 m16 => (J_X12_clause_126  m16)))))))))) else some (0, m2))
def J_X12_clause_29 (v1 : Int) (m : Mm) : Rs := if ¬ (m 54 30) = 14 then (J_X12_clause_47 v1 m) else cll (F_X12_wrongs 4 (m 54 27) m) (fun r2 m3 => (J_X12_clause_47 v1 m3))
def F_X12_clause (m : Mm) : Rs := cll (F_X12_here m) (fun r1 m2 => nmv r1 (fun x3 => if x3 = 109 then (J_X12_clause_29 x3 m2) else if x3 = 114 then (J_X12_clause_29 x3 m2) else cll (F_X12_wrongs 1 (m2 54 27) m2) (fun r6 m7 => (J_X12_clause_47 x3 m7))))
def J_X12_tongue_115 (k_54 : Int → Mm → Rs) (v2 : Int) (m : Mm) : Rs := stf m 54 27 (wr ((m 54 27) + 1)) (fun m1 => (k_54 v2 m1))
def J_X12_tongue_93 (k_54 : Int → Mm → Rs) (v2 : Int) (m : Mm) : Rs := if v2 = 0 then (k_54 v2 m) else cll (F_X12_here m) (fun r2 m3 => if r2 = 59 then (J_X12_tongue_115 k_54 v2 m3) else cll (F_X12_wrongs 1 (m3 54 27) m3) (fun r5 m6 => (J_X12_tongue_115 k_54 v2 m6)))
def J_X12_tongue_91 (k_54 : Int → Mm → Rs) (m : Mm) : Rs := nmv 0 (fun x1 => (J_X12_tongue_93 k_54 x1 m))
def LB_X12_tongue_206 (rec : Int → Mm → Rs) (v3 : Int) (m : Mm) : Rs := if (m 54 31) ≤ v3 then stf m 54 14 (m 54 30) (fun m2 => some ((m2 54 14), m2)) else ald m 73 200 v3 (fun x3 => ast m 67 200 v3 x3 (fun m4 => ald m4 74 200 v3 (fun x5 => ast m4 68 200 v3 x5 (fun m6 => nmv (wr (v3 + 1)) (fun x7 => (rec x7 m6))))))
def L_X12_tongue_206 : Nat → Int → Mm → Rs
  | 0, _, _ => none
  | n + 1, v3, m => LB_X12_tongue_206 (L_X12_tongue_206 n) v3 m
def LB_X12_tongue_142 (rec : Int → Mm → Rs) (v3 : Int) (m : Mm) : Rs := if (m 54 30) ≤ v3 then nmv 0 (fun x2 => (L_X12_tongue_206 100000 x2 m)) else ald m 69 14 v3 (fun x3 => ast m 63 14 v3 x3 (fun m4 => ald m4 70 14 v3 (fun x5 => ast m4 64 14 v3 x5 (fun m6 => ald m6 71 14 v3 (fun x7 => ast m6 65 14 v3 x7 (fun m8 => ald m8 72 14 v3 (fun x9 => ast m8 66 14 v3 x9 (fun m10 => nmv (wr (v3 + 1)) (fun x11 => (rec x11 m10))))))))))
def L_X12_tongue_142 : Nat → Int → Mm → Rs
  | 0, _, _ => none
  | n + 1, v3, m => LB_X12_tongue_142 (L_X12_tongue_142 n) v3 m
def J_X12_tongue_128 (m : Mm) : Rs := if 0 ≤ (m 54 29) then nmv 0 (fun x2 => (L_X12_tongue_142 100000 x2 m)) else some ((m 54 29), m)
def LB_X12_tongue_54 (rec : Int → Mm → Rs) (v2 : Int) (m : Mm) : Rs := if v2 = 0 then (J_X12_tongue_128  m) else cll (F_X12_isGood m) (fun r2 m3 => if r2 = 0 then (J_X12_tongue_128  m3) else cll (F_X12_clause m3) (fun r5 m6 => cll (F_X12_isGood m6) (fun r7 m8 => if r7 = 0 then (J_X12_tongue_91 rec  m8) else if (m8 54 28) ≤ (m8 54 27) then (J_X12_tongue_91 rec  m8) else nmv 1 (fun x11 => (J_X12_tongue_93 rec x11 m8)))))
def L_X12_tongue_54 : Nat → Int → Mm → Rs
  | 0, _, _ => none
  | n + 1, v2, m => LB_X12_tongue_54 (L_X12_tongue_54 n) v2 m
def F_X12_tongue (a1 : Int) (m : Mm) : Rs := cll (F_X12_lies a1 1 200 m) (fun r1 m2 => if r1 = 0 then some ((-1), m2) else if a1 ≤ (m2 54 1) then stf m2 54 1 0 (fun m5 => stf m5 54 27 0 (fun m6 => stf m6 54 28 a1 (fun m7 => stf m7 54 29 0 (fun m8 => stf m8 54 30 0 (fun m9 => stf m9 54 31 0 (fun m10 => nmv 1 (fun x11 => (L_X12_tongue_54 100000 x11 m10)))))))) else some ((-1), m2))
def F_X12_valueOf (a1 : Int) (m : Mm) : Rs := if a1 = 97 then some ((m 54 44), m) else if a1 = 100 then some ((m 54 41), m) else if a1 = 101 then some ((m 54 42), m) else if a1 = 103 then some ((m 54 37), m) else if a1 = 107 then some ((m 54 43), m) else if a1 = 108 then some ((m 54 39), m) else if a1 = 112 then some ((m 54 40), m) else if a1 = 115 then if ¬ (m 54 38) = (m 54 39) then some (0, m) else some (1, m) else if a1 = 119 then some ((m 54 38), m) else some ((m 54 45), m)
def F_X12_worked (a1 : Int) (a2 : Int) (a3 : Int) (m : Mm) : Rs := if a1 = 37 then if ¬ a3 = 0 then dvn a3 (some ((wr ((a2 : Int).tmod a3)), m)) else some (0, m) else if a1 = 42 then some ((wr (a2 * a3)), m) else if a1 = 43 then some ((wr (a2 + a3)), m) else if a1 = 45 then some ((wr (a2 - a3)), m) else if a1 = 47 then if ¬ a3 = 0 then dvn a3 (some ((wr ((a2 : Int).tdiv a3)), m)) else some (0, m) else if a1 = 60 then if a3 ≤ a2 then some (0, m) else some (1, m) else if a1 = 62 then if a2 ≤ a3 then some (0, m) else some (1, m) else if ¬ a2 = a3 then some (0, m) else some (1, m)
def J_X12_does_46 (v2 : Int) (v3 : Int) (m : Mm) : Rs := ald m 76 240 v3 (fun x1 => ast m 76 240 v2 x1 (fun m2 => ald m2 77 240 v3 (fun x3 => ast m2 77 240 v2 x3 (fun m4 => some (0, m4)))))
def J_X12_does_16 (v1 : Int) (v2 : Int) (v3 : Int) (m : Mm) : Rs := ald m 77 240 v2 (fun x1 => if ¬ x1 = 0 then some (0, m) else ald m 76 240 v2 (fun x3 => if ¬ v1 = 38 then if x3 = 0 then (J_X12_does_46 v2 v3 m) else some (0, m) else if x3 = 1 then (J_X12_does_46 v2 v3 m) else some (0, m)))
def J_X12_does_121 (v1 : Int) (v2 : Int) (v3 : Int) (m : Mm) : Rs := ald m 76 240 v2 (fun x1 => ald m 76 240 v3 (fun x2 => cll (F_X12_worked v1 x1 x2 m) (fun r3 m4 => ast m4 76 240 v2 r3 (fun m5 => some (0, m5)))))
def F_X12_does (a1 : Int) (a2 : Int) (m : Mm) : Rs := nmv (wr (a2 + 1)) (fun x1 => if a1 = 38 then (J_X12_does_16 a1 a2 x1 m) else if ¬ a1 = 124 then ald m 77 240 a2 (fun x4 => if ¬ x4 = 0 then ast m 77 240 a2 1 (fun m6 => (J_X12_does_121 a1 a2 x1 m6)) else ald m 77 240 x1 (fun x7 => if ¬ x7 = 0 then ast m 77 240 a2 1 (fun m9 => (J_X12_does_121 a1 a2 x1 m9)) else if a1 = 47 then ald m 76 240 x1 (fun x11 => if ¬ x11 = 0 then ast m 77 240 a2 0 (fun m13 => (J_X12_does_121 a1 a2 x1 m13)) else ast m 77 240 a2 1 (fun m14 => (J_X12_does_121 a1 a2 x1 m14))) else if ¬ a1 = 37 then ast m 77 240 a2 0 (fun m16 => (J_X12_does_121 a1 a2 x1 m16)) else ald m 76 240 x1 (fun x17 => if ¬ x17 = 0 then ast m 77 240 a2 0 (fun m19 => (J_X12_does_121 a1 a2 x1 m19)) else ast m 77 240 a2 1 (fun m20 => (J_X12_does_121 a1 a2 x1 m20))))) else (J_X12_does_16 a1 a2 x1 m))
def J_X12_works_121 (k_5 : Int → Int → Int → Mm → Rs) (v2 : Int) (v3 : Int) (v4 : Int) (m : Mm) : Rs := nmv (wr (v4 + 1)) (fun x1 => (k_5 v2 v3 x1 m))
def J_X12_works_118 (k_5 : Int → Int → Int → Mm → Rs) (v2 : Int) (v3 : Int) (v4 : Int) (m : Mm) : Rs := nmv (wr (v3 + 1)) (fun x1 => (J_X12_works_121 k_5 v2 x1 v4 m))
def LB_X12_works_5 (rec : Int → Int → Int → Mm → Rs) (v2 : Int) (v3 : Int) (v4 : Int) (m : Mm) : Rs := if v2 ≤ v4 then some (0, m) else ald m 67 200 v4 (fun x2 => if x2 ≤ 2 then ald m 67 200 v4 (fun x4 => if ¬ x4 = 2 then ast m 77 240 v3 0 (fun m6 => ald m6 67 200 v4 (fun x7 => if ¬ x7 = 0 then ald m6 68 200 v4 (fun x9 => cll (F_X12_valueOf x9 m6) (fun r10 m11 => ast m11 76 240 v3 r10 (fun m12 => (J_X12_works_118 rec v2 v3 v4 m12)))) else ald m6 68 200 v4 (fun x13 => ast m6 76 240 v3 x13 (fun m14 => (J_X12_works_118 rec v2 v3 v4 m14))))) else ald m 76 240 (wr (v3 - 1)) (fun x15 => ast m 76 240 (wr (v3 - 1)) (wr (1 - x15)) (fun m16 => (J_X12_works_121 rec v2 v3 v4 m16)))) else nmv (wr (v3 + (-1))) (fun x17 => ald m 67 200 v4 (fun x18 => cll (F_X12_does x18 (wr (x17 - 1)) m) (fun r19 m20 => (J_X12_works_121 rec v2 x17 v4 m20)))))
def L_X12_works_5 : Nat → Int → Int → Int → Mm → Rs
  | 0, _, _, _, _ => none
  | n + 1, v2, v3, v4, m => LB_X12_works_5 (L_X12_works_5 n) v2 v3 v4 m
def F_X12_works (a1 : Int) (a2 : Int) (m : Mm) : Rs := nmv 0 (fun x1 => nmv a1 (fun x2 => (L_X12_works_5 100000 a2 x1 x2 m)))
def J_X12_tells_98 (v2 : Int) (v4 : Int) (m : Mm) : Rs := if 0 ≤ v4 then if v4 ≤ v2 then some (v4, m) else some (v2, m) else some (0, m)
def J_X12_tells_120 (k_2 : Int → Int → Int → Mm → Rs) (v1 : Int) (v2 : Int) (v3 : Int) (m : Mm) : Rs := nmv (wr (v3 + 1)) (fun x1 => (k_2 v1 v2 x1 m))
def LB_X12_tells_2 (rec : Int → Int → Int → Mm → Rs) (v1 : Int) (v2 : Int) (v3 : Int) (m : Mm) : Rs := if (m 54 14) ≤ v3 then some (0, m) else ald m 63 14 v3 (fun x2 => if x2 = v1 then ald m 65 14 v3 (fun x4 => ald m 66 14 v3 (fun x5 => cll (F_X12_works x4 x5 m) (fun r6 m7 => ald m7 77 240 0 (fun x8 => if ¬ x8 = 0 then (J_X12_tells_120 rec v1 v2 v3 m7) else ald m7 76 240 0 (fun x10 => if x10 = 1 then ald m7 64 14 v3 (fun x12 => ald m7 65 14 v3 (fun x13 => cll (F_X12_works x12 x13 m7) (fun r14 m15 => ald m15 77 240 0 (fun x16 => if x16 = 0 then ald m15 76 240 0 (fun x18 => nmv x18 (fun x19 => (J_X12_tells_98 v2 x19 m15))) else nmv 0 (fun x20 => (J_X12_tells_98 v2 x20 m15)))))) else (J_X12_tells_120 rec v1 v2 v3 m7)))))) else (J_X12_tells_120 rec v1 v2 v3 m))
def L_X12_tells_2 : Nat → Int → Int → Int → Mm → Rs
  | 0, _, _, _, _ => none
  | n + 1, v1, v2, v3, m => LB_X12_tells_2 (L_X12_tells_2 n) v1 v2 v3 m
def F_X12_tells (a1 : Int) (a2 : Int) (m : Mm) : Rs := nmv 0 (fun x1 => (L_X12_tells_2 100000 a1 a2 x1 m))
def F_X12_means (a1 : Int) (a2 : Int) (a3 : Int) (a4 : Int) (a5 : Int) (a6 : Int) (m : Mm) : Rs := stf m 54 42 a1 (fun m1 => stf m1 54 37 a2 (fun m2 => stf m2 54 38 a3 (fun m3 => stf m3 54 39 a4 (fun m4 => stf m4 54 40 a5 (fun m5 => stf m5 54 41 a6 (fun m6 => stf m6 54 43 0 (fun m7 => stf m7 54 44 0 (fun m8 => stf m8 54 45 0 (fun m9 => cll (F_X12_tells 109 31 m9) (fun r10 m11 => some (r10, m11)))))))))))
def LB_X12_sentence_69 (rec : Int → Int → Int → Mm → Rs) (v1 : Int) (v2 : Int) (v3 : Int) (m : Mm) : Rs := if v2 ≤ v3 then ast m 59 8 v1 v2 (fun m2 => some (v2, m2)) else cll (F_X12_byteAt v3 m) (fun r3 m4 => ast m4 60 32 (wr ((wr (4 * v1)) + v3)) r3 (fun m5 => nmv (wr (v3 + 1)) (fun x6 => (rec v1 v2 x6 m5))))
def L_X12_sentence_69 : Nat → Int → Int → Int → Mm → Rs
  | 0, _, _, _, _ => none
  | n + 1, v1, v2, v3, m => LB_X12_sentence_69 (L_X12_sentence_69 n) v1 v2 v3 m
def LB_X12_sentence_37 (rec : Int → Int → Int → Mm → Rs) (v1 : Int) (v2 : Int) (v3 : Int) (m : Mm) : Rs := if v2 ≤ v3 then nmv 0 (fun x2 => (L_X12_sentence_69 100000 v1 v2 x2 m)) else cll (F_X12_byteAt v3 m) (fun r3 m4 => cll (F_X12_lies r3 1 31 m4) (fun r5 m6 => if ¬ r5 = 0 then nmv (wr (v3 + 1)) (fun x8 => (rec v1 v2 x8 m6)) else some ((-2), m6)))
def L_X12_sentence_37 : Nat → Int → Int → Int → Mm → Rs
  | 0, _, _, _, _ => none
  | n + 1, v1, v2, v3, m => LB_X12_sentence_37 (L_X12_sentence_37 n) v1 v2 v3 m
def F_X12_sentence (a1 : Int) (a2 : Int) (m : Mm) : Rs := cll (F_X12_isMouth a1 m) (fun r1 m2 => if r1 = 0 then some ((-1), m2) else cll (F_X12_lies a2 0 4 m2) (fun r4 m5 => if r4 = 0 then some ((-1), m5) else if a2 ≤ (m5 54 1) then stf m5 54 1 0 (fun m8 => nmv 0 (fun x9 => (L_X12_sentence_37 100000 a1 a2 x9 m8))) else some ((-1), m5)))
def J_X12_say_42 (v1 : Int) (v2 : Int) (m : Mm) : Rs := if ¬ (m 54 5) = 150 then ast m 61 150 (m 54 5) v1 (fun m2 => ast m2 62 150 (m2 54 5) v2 (fun m3 => stf m3 54 5 (wr ((m3 54 5) + 1)) (fun m4 => some ((m4 54 5), m4)))) else some ((-1), m)
def F_X12_say (a1 : Int) (a2 : Int) (m : Mm) : Rs := cll (F_X12_isMouth a1 m) (fun r1 m2 => if r1 = 0 then some ((-1), m2) else if ¬ (m2 54 5) = 0 then ald m2 62 150 (wr ((m2 54 5) - 1)) (fun x5 => cll (F_X12_lies a2 x5 9999 m2) (fun r6 m7 => if r6 = 0 then some ((-1), m7) else (J_X12_say_42 a1 a2 m7))) else cll (F_X12_lies a2 0 9999 m2) (fun r9 m10 => if r9 = 0 then some ((-1), m10) else (J_X12_say_42 a1 a2 m10)))
def F_X12_size (a1 : Int) (m : Mm) : Rs := if 0 ≤ a1 then some (a1, m) else some ((wr (-a1)), m)
def F_X12_wayOf (a1 : Int) (a2 : Int) (m : Mm) : Rs := ald m 56 8 a1 (fun x1 => ald m 56 8 a2 (fun x2 => cll (F_X12_size (wr (x1 - x2)) m) (fun r3 m4 => ald m4 57 8 a1 (fun x5 => ald m4 57 8 a2 (fun x6 => cll (F_X12_size (wr (x5 - x6)) m4) (fun r7 m8 => some ((wr (r3 + r7)), m8)))))))
def F_X12_way (a1 : Int) (a2 : Int) (m : Mm) : Rs := cll (F_X12_isMouth a1 m) (fun r1 m2 => if r1 = 0 then some ((-1), m2) else cll (F_X12_isMouth a2 m2) (fun r4 m5 => if r4 = 0 then some ((-1), m5) else cll (F_X12_wayOf a1 a2 m5) (fun r7 m8 => some (r7, m8))))
def F_X12_isNear (a1 : Int) (a2 : Int) (m : Mm) : Rs := cll (F_X12_wayOf a1 a2 m) (fun r1 m2 => if (m2 54 3) < r1 then some (0, m2) else some (1, m2))
def F_X12_isBefore (a1 : Int) (a2 : Int) (a3 : Int) (m : Mm) : Rs := cll (F_X12_wayOf a1 a2 m) (fun r1 m2 => nmv r1 (fun x3 => cll (F_X12_wayOf a1 a3 m2) (fun r4 m5 => nmv r4 (fun x6 => if x3 < x6 then some (1, m5) else if ¬ x3 = x6 then some (0, m5) else if a3 ≤ a2 then some (0, m5) else some (1, m5)))))
def LB_X12_comes_110 (rec : Int → Int → Int → Int → Mm → Rs) (v3 : Int) (v4 : Int) (v5 : Int) (v6 : Int) (m : Mm) : Rs := if v6 ≤ v5 then ast m 78 150 v5 v4 (fun m2 => ast m2 79 150 v5 v3 (fun m3 => stf m3 54 48 (wr ((m3 54 48) + 1)) (fun m4 => some (0, m4)))) else ald m 78 150 (wr (v6 - 1)) (fun x5 => ast m 78 150 v6 x5 (fun m6 => ald m6 79 150 (wr (v6 - 1)) (fun x7 => ast m6 79 150 v6 x7 (fun m8 => nmv (wr (v6 + (-1))) (fun x9 => (rec v3 v4 v5 x9 m8))))))
def L_X12_comes_110 : Nat → Int → Int → Int → Int → Mm → Rs
  | 0, _, _, _, _, _ => none
  | n + 1, v3, v4, v5, v6, m => LB_X12_comes_110 (L_X12_comes_110 n) v3 v4 v5 v6 m
def J_X12_comes_104 (v3 : Int) (v4 : Int) (v5 : Int) (m : Mm) : Rs := nmv (m 54 48) (fun x1 => (L_X12_comes_110 100000 v3 v4 v5 x1 m))
def J_X12_comes_57 (v1 : Int) (v3 : Int) (v4 : Int) (v5 : Int) (m : Mm) : Rs := if (m 54 48) ≤ v5 then (J_X12_comes_104 v3 v4 v5 m) else ald m 78 150 v5 (fun x2 => if ¬ x2 = v4 then (J_X12_comes_104 v3 v4 v5 m) else ald m 79 150 v5 (fun x4 => cll (F_X12_isBefore v1 v3 x4 m) (fun r5 m6 => if ¬ r5 = 0 then ast m6 79 150 v5 v3 (fun m8 => some (0, m8)) else some (0, m6))))
def LB_X12_comes_30 (rec : Int → Int → Int → Int → Mm → Rs) (v1 : Int) (v3 : Int) (v4 : Int) (v5 : Int) (m : Mm) : Rs := if (m 54 48) ≤ v5 then (J_X12_comes_57 v1 v3 v4 v5 m) else ald m 78 150 v5 (fun x2 => if v4 ≤ x2 then (J_X12_comes_57 v1 v3 v4 v5 m) else nmv (wr (v5 + 1)) (fun x4 => (rec v1 v3 v4 x4 m)))
def L_X12_comes_30 : Nat → Int → Int → Int → Int → Mm → Rs
  | 0, _, _, _, _, _ => none
  | n + 1, v1, v3, v4, v5, m => LB_X12_comes_30 (L_X12_comes_30 n) v1 v3 v4 v5 m
def F_X12_comes (a1 : Int) (a2 : Int) (m : Mm) : Rs := ald m 61 150 a2 (fun x1 => nmv x1 (fun x2 => ald m 62 150 a2 (fun x3 => cll (F_X12_wayOf a1 x2 m) (fun r4 m5 => dvn (m5 54 4) (nmv (wr (x3 + (wr ((r4 : Int).tdiv (m5 54 4))))) (fun x7 => nmv 0 (fun x8 => (L_X12_comes_30 100000 a1 x2 x7 x8 m5))))))))
def J_X12_laysHearings_35 (k_7 : Int → Int → Mm → Rs) (v1 : Int) (v2 : Int) (m : Mm) : Rs := nmv (wr (v2 + 1)) (fun x1 => (k_7 v1 x1 m))
def LB_X12_laysHearings_7 (rec : Int → Int → Mm → Rs) (v1 : Int) (v2 : Int) (m : Mm) : Rs := if (m 54 5) ≤ v2 then some (0, m) else ald m 61 150 v2 (fun x2 => cll (F_X12_isNear v1 x2 m) (fun r3 m4 => if r3 = 0 then (J_X12_laysHearings_35 rec v1 v2 m4) else cll (F_X12_comes v1 v2 m4) (fun r6 m7 => (J_X12_laysHearings_35 rec v1 v2 m7))))
def L_X12_laysHearings_7 : Nat → Int → Int → Mm → Rs
  | 0, _, _, _ => none
  | n + 1, v1, v2, m => LB_X12_laysHearings_7 (L_X12_laysHearings_7 n) v1 v2 m
def F_X12_laysHearings (a1 : Int) (m : Mm) : Rs := stf m 54 48 0 (fun m1 => nmv 0 (fun x2 => (L_X12_laysHearings_7 100000 a1 x2 m1)))
def F_X12_gapAt (a1 : Int) (m : Mm) : Rs := if ¬ a1 = 0 then ald m 78 150 a1 (fun x2 => ald m 78 150 (wr (a1 - 1)) (fun x3 => nmv (wr (x2 - x3)) (fun x4 => if x4 ≤ 63 then some (x4, m) else some (63, m)))) else some (63, m)
def F_X12_meaningAt (a1 : Int) (a2 : Int) (m : Mm) : Rs := cll (F_X12_gapAt a2 m) (fun r1 m2 => ald m2 79 150 a2 (fun x3 => if ¬ a2 = 0 then ald m2 79 150 (wr (a2 - 1)) (fun x5 => if ¬ a2 = 0 then cll (F_X12_gapAt (wr (a2 - 1)) m2) (fun r7 m8 => ald m8 79 150 a2 (fun x9 => cll (F_X12_wayOf a1 x9 m8) (fun r10 m11 => cll (F_X12_means a1 r1 x3 x5 r7 r10 m11) (fun r12 m13 => some (r12, m13))))) else ald m2 79 150 a2 (fun x14 => cll (F_X12_wayOf a1 x14 m2) (fun r15 m16 => cll (F_X12_means a1 r1 x3 x5 63 r15 m16) (fun r17 m18 => some (r17, m18))))) else if ¬ a2 = 0 then cll (F_X12_gapAt (wr (a2 - 1)) m2) (fun r20 m21 => ald m21 79 150 a2 (fun x22 => cll (F_X12_wayOf a1 x22 m21) (fun r23 m24 => cll (F_X12_means a1 r1 x3 8 r20 r23 m24) (fun r25 m26 => some (r25, m26))))) else ald m2 79 150 a2 (fun x27 => cll (F_X12_wayOf a1 x27 m2) (fun r28 m29 => cll (F_X12_means a1 r1 x3 8 63 r28 m29) (fun r30 m31 => some (r30, m31))))))
def F_X12_heard (a1 : Int) (m : Mm) : Rs := cll (F_X12_isMouth a1 m) (fun r1 m2 => if ¬ r1 = 0 then cll (F_X12_laysHearings a1 m2) (fun r4 m5 => some ((m5 54 48), m5)) else some ((-1), m2))
def F_X12_hearing (a1 : Int) (a2 : Int) (a3 : Int) (m : Mm) : Rs := cll (F_X12_isMouth a1 m) (fun r1 m2 => if r1 = 0 then some ((-1), m2) else cll (F_X12_lies a3 0 3 m2) (fun r4 m5 => if ¬ r4 = 0 then cll (F_X12_laysHearings a1 m5) (fun r7 m8 => cll (F_X12_lies a2 0 (wr ((m8 54 48) - 1)) m8) (fun r9 m10 => if ¬ r9 = 0 then if ¬ a3 = 0 then if ¬ a3 = 1 then if ¬ a3 = 2 then cll (F_X12_meaningAt a1 a2 m10) (fun r15 m16 => some (r15, m16)) else cll (F_X12_gapAt a2 m10) (fun r17 m18 => some (r17, m18)) else ald m10 79 150 a2 (fun x19 => some (x19, m10)) else ald m10 78 150 a2 (fun x20 => some (x20, m10)) else some ((-1), m10))) else some ((-1), m5)))
def F_X12_meaning (a1 : Int) (a2 : Int) (a3 : Int) (a4 : Int) (a5 : Int) (m : Mm) : Rs := cll (F_X12_isMouth a1 m) (fun r1 m2 => if r1 = 0 then some ((-1), m2) else cll (F_X12_lies a2 1 63 m2) (fun r4 m5 => if r4 = 0 then some ((-1), m5) else cll (F_X12_isMouth a3 m5) (fun r7 m8 => if r7 = 0 then some ((-1), m8) else cll (F_X12_lies a4 0 8 m8) (fun r10 m11 => if r10 = 0 then some ((-1), m11) else cll (F_X12_lies a5 0 63 m11) (fun r13 m14 => if ¬ r13 = 0 then cll (F_X12_wayOf a1 a3 m14) (fun r16 m17 => cll (F_X12_means a1 a2 a3 a4 a5 r16 m17) (fun r18 m19 => some (r18, m19))) else some ((-1), m14))))))
def J_X12_said_149 (k_60 : Int → Int → Int → Mm → Rs) (k_104 : Int → Int → Int → Int → Int → Mm → Rs) (v1 : Int) (v3 : Int) (v4 : Int) (v5 : Int) (v6 : Int) (m : Mm) : Rs := nmv (wr (v6 + 1)) (fun x1 => (k_104 v1 v3 v4 v5 x1 m))
def LB_X12_said_104 (k_60 : Int → Int → Int → Mm → Rs) (rec : Int → Int → Int → Int → Int → Mm → Rs) (v1 : Int) (v3 : Int) (v4 : Int) (v5 : Int) (v6 : Int) (m : Mm) : Rs := if (m 54 48) ≤ v6 then nmv (wr (v4 + 1)) (fun x2 => (k_60 v1 v3 x2 m)) else ald m 79 150 v6 (fun x3 => ald m 61 150 v1 (fun x4 => if ¬ x3 = x4 then nmv (wr (v3 + 0)) (fun x6 => (J_X12_said_149 k_60 rec v1 x6 v4 v5 v6 m)) else ald m 78 150 v6 (fun x7 => if ¬ x7 = v5 then nmv (wr (v3 + 0)) (fun x9 => (J_X12_said_149 k_60 rec v1 x9 v4 v5 v6 m)) else nmv (wr (v3 + 1)) (fun x10 => (J_X12_said_149 k_60 rec v1 x10 v4 v5 v6 m)))))
def L_X12_said_104 (k_60 : Int → Int → Int → Mm → Rs) : Nat → Int → Int → Int → Int → Int → Mm → Rs
  | 0, _, _, _, _, _, _ => none
  | n + 1, v1, v3, v4, v5, v6, m => LB_X12_said_104 k_60 (L_X12_said_104 k_60 n) v1 v3 v4 v5 v6 m
def LB_X12_said_60 (rec : Int → Int → Int → Mm → Rs) (v1 : Int) (v3 : Int) (v4 : Int) (m : Mm) : Rs := if (m 54 2) ≤ v4 then some (v3, m) else cll (F_X12_laysHearings v4 m) (fun r2 m3 => ald m3 62 150 v1 (fun x4 => ald m3 61 150 v1 (fun x5 => cll (F_X12_wayOf v4 x5 m3) (fun r6 m7 => dvn (m7 54 4) (nmv (wr (x4 + (wr ((r6 : Int).tdiv (m7 54 4))))) (fun x9 => nmv 0 (fun x10 => (L_X12_said_104 rec 100000 v1 v3 v4 x9 x10 m7))))))))
def L_X12_said_60 : Nat → Int → Int → Int → Mm → Rs
  | 0, _, _, _, _ => none
  | n + 1, v1, v3, v4, m => LB_X12_said_60 (L_X12_said_60 n) v1 v3 v4 m
def F_X12_said (a1 : Int) (a2 : Int) (m : Mm) : Rs := cll (F_X12_lies a1 0 (wr ((m 54 5) - 1)) m) (fun r1 m2 => if r1 = 0 then some ((-1), m2) else cll (F_X12_lies a2 0 2 m2) (fun r4 m5 => if ¬ r4 = 0 then if 2 ≤ a2 then nmv 0 (fun x8 => nmv 0 (fun x9 => (L_X12_said_60 100000 a1 x8 x9 m5))) else if ¬ a2 = 0 then ald m5 62 150 a1 (fun x11 => some (x11, m5)) else ald m5 61 150 a1 (fun x12 => some (x12, m5)) else some ((-1), m5)))
def J_X12_laysLast_32 (m : Mm) : Rs := if ¬ (m 54 48) = 0 then cll (F_X12_gapAt (wr ((m 54 48) - 1)) m) (fun r2 m3 => stf m3 54 56 r2 (fun m4 => some (0, m4))) else stf m 54 56 63 (fun m5 => some (0, m5))
def F_X12_laysLast (a1 : Int) (m : Mm) : Rs := cll (F_X12_laysHearings a1 m) (fun r1 m2 => if ¬ (m2 54 48) = 0 then ald m2 79 150 (wr ((m2 54 48) - 1)) (fun x4 => stf m2 54 55 x4 (fun m5 => (J_X12_laysLast_32  m5))) else stf m2 54 55 8 (fun m6 => (J_X12_laysLast_32  m6)))
def F_X12_isAs (a1 : Int) (a2 : Int) (m : Mm) : Rs := if a1 = 32 then some (1, m) else if ¬ a1 = a2 then some (0, m) else some (1, m)
def F_X12_fits (a1 : Int) (a2 : Int) (a3 : Int) (a4 : Int) (m : Mm) : Rs := cll (F_X12_isNear a1 a3 m) (fun r1 m2 => if r1 = 0 then some (0, m2) else ald m2 81 13 a2 (fun x4 => ald m2 80 13 a2 (fun x5 => if ¬ a2 = 0 then ald m2 80 13 (wr (a2 - 1)) (fun x7 => cll (F_X12_wayOf a1 a3 m2) (fun r8 m9 => cll (F_X12_means a1 x5 a3 a4 x7 r8 m9) (fun r10 m11 => cll (F_X12_isAs x4 r10 m11) (fun r12 m13 => if r12 = 0 then some (0, m13) else some (1, m13))))) else cll (F_X12_wayOf a1 a3 m2) (fun r15 m16 => cll (F_X12_means a1 x5 a3 a4 (m2 54 56) r15 m16) (fun r17 m18 => cll (F_X12_isAs x4 r17 m18) (fun r19 m20 => if r19 = 0 then some (0, m20) else some (1, m20)))))))
def J_X12_read_298 (k_206 : Int → Int → Int → Int → Mm → Rs) (k_215 : Int → Int → Int → Int → Int → Mm → Rs) (k_225 : Int → Int → Int → Int → Int → Int → Mm → Rs) (v1 : Int) (v2 : Int) (v3 : Int) (v4 : Int) (v5 : Int) (v6 : Int) (m : Mm) : Rs := nmv (wr (v6 + 1)) (fun x1 => (k_225 v1 v2 v3 v4 v5 x1 m))
def J_X12_read_304 (k_206 : Int → Int → Int → Int → Mm → Rs) (k_215 : Int → Int → Int → Int → Int → Mm → Rs) (v1 : Int) (v2 : Int) (v3 : Int) (v4 : Int) (v5 : Int) (m : Mm) : Rs := nmv (wr (v5 + 1)) (fun x1 => (k_215 v1 v2 v3 v4 x1 m))
def LB_X12_read_225 (k_206 : Int → Int → Int → Int → Mm → Rs) (k_215 : Int → Int → Int → Int → Int → Mm → Rs) (rec : Int → Int → Int → Int → Int → Int → Mm → Rs) (v1 : Int) (v2 : Int) (v3 : Int) (v4 : Int) (v5 : Int) (v6 : Int) (m : Mm) : Rs := if (m 54 2) ≤ v6 then (J_X12_read_304 k_206 k_215 v1 v2 v3 v4 v5 m) else ald m 82 126 (wr ((wr (9 * v4)) + v5)) (fun x2 => if (lcmp x2 0) ≤ 0 then (J_X12_read_304 k_206 k_215 v1 v2 v3 v4 v5 m) else cll (F_X12_fits v1 v4 v6 v5 m) (fun r4 m5 => if r4 = 0 then (J_X12_read_298 k_206 k_215 rec v1 v2 v3 v4 v5 v6 m5) else ald m5 82 126 (wr ((wr ((wr (9 * v4)) + 9)) + v6)) (fun x7 => ald m5 82 126 (wr ((wr (9 * v4)) + v5)) (fun x8 => ast m5 82 126 (wr ((wr ((wr (9 * v4)) + 9)) + v6)) (wl (x7 + x8)) (fun m9 => (J_X12_read_298 k_206 k_215 rec v1 v2 v3 v4 v5 v6 m9))))))
def L_X12_read_225 (k_206 : Int → Int → Int → Int → Mm → Rs) (k_215 : Int → Int → Int → Int → Int → Mm → Rs) : Nat → Int → Int → Int → Int → Int → Int → Mm → Rs
  | 0, _, _, _, _, _, _, _ => none
  | n + 1, v1, v2, v3, v4, v5, v6, m => LB_X12_read_225 k_206 k_215 (L_X12_read_225 k_206 k_215 n) v1 v2 v3 v4 v5 v6 m
def LB_X12_read_215 (k_206 : Int → Int → Int → Int → Mm → Rs) (rec : Int → Int → Int → Int → Int → Mm → Rs) (v1 : Int) (v2 : Int) (v3 : Int) (v4 : Int) (v5 : Int) (m : Mm) : Rs := if 8 < v5 then nmv (wr (v4 + 1)) (fun x2 => (k_206 v1 v2 v3 x2 m)) else nmv 0 (fun x3 => (L_X12_read_225 k_206 rec 100000 v1 v2 v3 v4 v5 x3 m))
def L_X12_read_215 (k_206 : Int → Int → Int → Int → Mm → Rs) : Nat → Int → Int → Int → Int → Int → Mm → Rs
  | 0, _, _, _, _, _, _ => none
  | n + 1, v1, v2, v3, v4, v5, m => LB_X12_read_215 k_206 (L_X12_read_215 k_206 n) v1 v2 v3 v4 v5 m
def J_X12_read_423 (k_350 : Int → Int → Int → Mm → Rs) (k_358 : Int → Int → Int → Int → Mm → Rs) (k_368 : Int → Int → Int → Int → Int → Mm → Rs) (v1 : Int) (v3 : Int) (v4 : Int) (v5 : Int) (v6 : Int) (m : Mm) : Rs := nmv (wr (v6 + 1)) (fun x1 => (k_368 v1 v3 v4 v5 x1 m))
def LB_X12_read_368 (k_350 : Int → Int → Int → Mm → Rs) (k_358 : Int → Int → Int → Int → Mm → Rs) (rec : Int → Int → Int → Int → Int → Mm → Rs) (v1 : Int) (v3 : Int) (v4 : Int) (v5 : Int) (v6 : Int) (m : Mm) : Rs := if (m 54 2) ≤ v6 then nmv (wr (v5 + 1)) (fun x2 => (k_358 v1 v3 v4 x2 m)) else cll (F_X12_fits v1 v4 v6 v5 m) (fun r3 m4 => if r3 = 0 then (J_X12_read_423 k_350 k_358 rec v1 v3 v4 v5 v6 m4) else ald m4 83 126 (wr ((wr (9 * v4)) + v5)) (fun x6 => ald m4 83 126 (wr ((wr ((wr (9 * v4)) + 9)) + v6)) (fun x7 => ast m4 83 126 (wr ((wr (9 * v4)) + v5)) (wl (x6 + x7)) (fun m8 => (J_X12_read_423 k_350 k_358 rec v1 v3 v4 v5 v6 m8)))))
def L_X12_read_368 (k_350 : Int → Int → Int → Mm → Rs) (k_358 : Int → Int → Int → Int → Mm → Rs) : Nat → Int → Int → Int → Int → Int → Mm → Rs
  | 0, _, _, _, _, _, _ => none
  | n + 1, v1, v3, v4, v5, v6, m => LB_X12_read_368 k_350 k_358 (L_X12_read_368 k_350 k_358 n) v1 v3 v4 v5 v6 m
def LB_X12_read_358 (k_350 : Int → Int → Int → Mm → Rs) (rec : Int → Int → Int → Int → Mm → Rs) (v1 : Int) (v3 : Int) (v4 : Int) (v5 : Int) (m : Mm) : Rs := if 8 < v5 then nmv (wr (v4 + (-1))) (fun x2 => (k_350 v1 v3 x2 m)) else nmv 0 (fun x3 => (L_X12_read_368 k_350 rec 100000 v1 v3 v4 v5 x3 m))
def L_X12_read_358 (k_350 : Int → Int → Int → Mm → Rs) : Nat → Int → Int → Int → Int → Mm → Rs
  | 0, _, _, _, _, _ => none
  | n + 1, v1, v3, v4, v5, m => LB_X12_read_358 k_350 (L_X12_read_358 k_350 n) v1 v3 v4 v5 m
def J_X12_read_520 (k_462 : Int → Int → Int → Mm → Rs) (v3 : Int) (v4 : Int) (v6 : Int) (m : Mm) : Rs := nmv (wr (v6 + 1)) (fun x1 => (k_462 v3 v4 x1 m))
def LB_X12_read_462 (rec : Int → Int → Int → Mm → Rs) (v3 : Int) (v4 : Int) (v6 : Int) (m : Mm) : Rs := if (m 54 2) ≤ v6 then some (v4, m) else ald m 82 126 (wr ((wr ((wr (9 * v3)) + 9)) + v6)) (fun x2 => if (lcmp x2 0) ≤ 0 then (J_X12_read_520 rec v3 v4 v6 m) else ald m 83 126 (wr ((wr ((wr (9 * v3)) + 9)) + v6)) (fun x4 => if (lcmp x4 0) ≤ 0 then (J_X12_read_520 rec v3 v4 v6 m) else nmv (lor v4 (lshl 1 v6)) (fun x6 => (J_X12_read_520 rec v3 x6 v6 m))))
def L_X12_read_462 : Nat → Int → Int → Int → Mm → Rs
  | 0, _, _, _, _ => none
  | n + 1, v3, v4, v6, m => LB_X12_read_462 (L_X12_read_462 n) v3 v4 v6 m
def LB_X12_read_350 (rec : Int → Int → Int → Mm → Rs) (v1 : Int) (v3 : Int) (v4 : Int) (m : Mm) : Rs := if v4 < 0 then if ¬ v3 = (-1) then nmv 0 (fun x3 => nmv 0 (fun x4 => (L_X12_read_462 100000 v3 x3 x4 m))) else ald m 83 126 (m 54 55) (fun x5 => some (x5, m)) else nmv 0 (fun x6 => (L_X12_read_358 rec 100000 v1 v3 v4 x6 m))
def L_X12_read_350 : Nat → Int → Int → Int → Mm → Rs
  | 0, _, _, _, _ => none
  | n + 1, v1, v3, v4, m => LB_X12_read_350 (L_X12_read_350 n) v1 v3 v4 m
def LB_X12_read_319 (rec : Int → Int → Int → Int → Mm → Rs) (v1 : Int) (v2 : Int) (v3 : Int) (v4 : Int) (m : Mm) : Rs := if 9 ≤ v4 then nmv (wr (v2 - 1)) (fun x2 => (L_X12_read_350 100000 v1 v3 x2 m)) else ast m 83 126 (wr ((wr (9 * v2)) + v4)) 1 (fun m3 => nmv (wr (v4 + 1)) (fun x4 => (rec v1 v2 v3 x4 m3)))
def L_X12_read_319 : Nat → Int → Int → Int → Int → Mm → Rs
  | 0, _, _, _, _, _ => none
  | n + 1, v1, v2, v3, v4, m => LB_X12_read_319 (L_X12_read_319 n) v1 v2 v3 v4 m
def LB_X12_read_206 (rec : Int → Int → Int → Int → Mm → Rs) (v1 : Int) (v2 : Int) (v3 : Int) (v4 : Int) (m : Mm) : Rs := if v2 ≤ v4 then nmv 0 (fun x2 => (L_X12_read_319 100000 v1 v2 v3 x2 m)) else nmv 0 (fun x3 => (L_X12_read_215 rec 100000 v1 v2 v3 v4 x3 m))
def L_X12_read_206 : Nat → Int → Int → Int → Int → Mm → Rs
  | 0, _, _, _, _, _ => none
  | n + 1, v1, v2, v3, v4, m => LB_X12_read_206 (L_X12_read_206 n) v1 v2 v3 v4 m
def LB_X12_read_164 (rec : Int → Int → Int → Int → Mm → Rs) (v1 : Int) (v2 : Int) (v3 : Int) (v4 : Int) (m : Mm) : Rs := if 126 ≤ v4 then ast m 82 126 (m 54 55) 1 (fun m2 => nmv 0 (fun x3 => (L_X12_read_206 100000 v1 v2 v3 x3 m2))) else ast m 82 126 v4 0 (fun m4 => ast m4 83 126 v4 0 (fun m5 => nmv (wr (v4 + 1)) (fun x6 => (rec v1 v2 v3 x6 m5))))
def L_X12_read_164 : Nat → Int → Int → Int → Int → Mm → Rs
  | 0, _, _, _, _, _ => none
  | n + 1, v1, v2, v3, v4, m => LB_X12_read_164 (L_X12_read_164 n) v1 v2 v3 v4 m
def LB_X12_read_104 (rec : Int → Int → Int → Int → Mm → Rs) (v1 : Int) (v2 : Int) (v3 : Int) (v4 : Int) (m : Mm) : Rs := if v2 ≤ v4 then cll (F_X12_laysLast v1 m) (fun r2 m3 => nmv 0 (fun x4 => (L_X12_read_164 100000 v1 v2 v3 x4 m3))) else ald m 80 13 v4 (fun x5 => cll (F_X12_lies x5 1 63 m) (fun r6 m7 => if r6 = 0 then some ((-2), m7) else ald m7 81 13 v4 (fun x9 => cll (F_X12_lies x9 0 32 m7) (fun r10 m11 => if ¬ r10 = 0 then nmv (wr (v4 + 1)) (fun x13 => (rec v1 v2 v3 x13 m11)) else some ((-2), m11)))))
def L_X12_read_104 : Nat → Int → Int → Int → Int → Mm → Rs
  | 0, _, _, _, _, _ => none
  | n + 1, v1, v2, v3, v4, m => LB_X12_read_104 (L_X12_read_104 n) v1 v2 v3 v4 m
def LB_X12_read_57 (rec : Int → Int → Int → Int → Mm → Rs) (v1 : Int) (v2 : Int) (v3 : Int) (v4 : Int) (m : Mm) : Rs := if v2 ≤ v4 then nmv 0 (fun x2 => (L_X12_read_104 100000 v1 v2 v3 x2 m)) else cll (F_X12_byteAt (wr (2 * v4)) m) (fun r3 m4 => ast m4 80 13 v4 r3 (fun m5 => cll (F_X12_byteAt (wr ((wr (2 * v4)) + 1)) m5) (fun r6 m7 => ast m7 81 13 v4 r6 (fun m8 => nmv (wr (v4 + 1)) (fun x9 => (rec v1 v2 v3 x9 m8))))))
def L_X12_read_57 : Nat → Int → Int → Int → Int → Mm → Rs
  | 0, _, _, _, _, _ => none
  | n + 1, v1, v2, v3, v4, m => LB_X12_read_57 (L_X12_read_57 n) v1 v2 v3 v4 m
def F_X12_read (a1 : Int) (a2 : Int) (a3 : Int) (m : Mm) : Rs := cll (F_X12_isMouth a1 m) (fun r1 m2 => if r1 = 0 then some ((-1), m2) else cll (F_X12_lies a2 1 12 m2) (fun r4 m5 => if r4 = 0 then some ((-1), m5) else cll (F_X12_lies a3 (-1) (wr (a2 - 1)) m5) (fun r7 m8 => if r7 = 0 then some ((-1), m8) else if (wr (2 * a2)) ≤ (m8 54 1) then stf m8 54 1 0 (fun m11 => nmv 0 (fun x12 => (L_X12_read_57 100000 a1 a2 a3 x12 m11))) else some ((-1), m8))))
def J_X12_isMissed_98 (k_15 : Int → Int → Int → Int → Int → Int → Int → Int → Int → Mm → Rs) (v1 : Int) (v2 : Int) (v3 : Int) (v4 : Int) (v5 : Int) (v6 : Int) (v7 : Int) (v8 : Int) (v9 : Int) (v10 : Int) (v11 : Int) (m : Mm) : Rs := ald m 81 13 v9 (fun x1 => cll (F_X12_wayOf v1 v11 m) (fun r2 m3 => cll (F_X12_means v1 v10 v11 v7 v8 r2 m3) (fun r4 m5 => cll (F_X12_isAs x1 r4 m5) (fun r6 m7 => if ¬ r6 = 0 then nmv v11 (fun x9 => nmv v10 (fun x10 => nmv (wr (v9 + 1)) (fun x11 => (k_15 v1 v2 v3 v4 v5 v6 x9 x10 x11 m7)))) else some (0, m7)))))
def J_X12_isMissed_83 (k_15 : Int → Int → Int → Int → Int → Int → Int → Int → Int → Mm → Rs) (v1 : Int) (v2 : Int) (v3 : Int) (v4 : Int) (v5 : Int) (v6 : Int) (v7 : Int) (v8 : Int) (v9 : Int) (v10 : Int) (m : Mm) : Rs := if ¬ v9 = v4 then nmv v2 (fun x2 => (J_X12_isMissed_98 k_15 v1 v2 v3 v4 v5 v6 v7 v8 v9 v10 x2 m)) else nmv v6 (fun x3 => (J_X12_isMissed_98 k_15 v1 v2 v3 v4 v5 v6 v7 v8 v9 v10 x3 m))
def LB_X12_isMissed_15 (rec : Int → Int → Int → Int → Int → Int → Int → Int → Int → Mm → Rs) (v1 : Int) (v2 : Int) (v3 : Int) (v4 : Int) (v5 : Int) (v6 : Int) (v7 : Int) (v8 : Int) (v9 : Int) (m : Mm) : Rs := if v3 < v9 then some (1, m) else if v4 ≤ v9 then if ¬ v9 = v4 then if ¬ v9 = (wr (v4 + 1)) then ald m 80 13 (wr (v9 - 1)) (fun x5 => nmv x5 (fun x6 => (J_X12_isMissed_83 rec v1 v2 v3 v4 v5 v6 v7 v8 v9 x6 m))) else ald m 80 13 v4 (fun x7 => nmv (wr (x7 - v5)) (fun x8 => (J_X12_isMissed_83 rec v1 v2 v3 v4 v5 v6 v7 v8 v9 x8 m))) else nmv v5 (fun x9 => (J_X12_isMissed_83 rec v1 v2 v3 v4 v5 v6 v7 v8 v9 x9 m)) else ald m 80 13 v9 (fun x10 => nmv x10 (fun x11 => (J_X12_isMissed_83 rec v1 v2 v3 v4 v5 v6 v7 v8 v9 x11 m)))
def L_X12_isMissed_15 : Nat → Int → Int → Int → Int → Int → Int → Int → Int → Int → Mm → Rs
  | 0, _, _, _, _, _, _, _, _, _, _ => none
  | n + 1, v1, v2, v3, v4, v5, v6, v7, v8, v9, m => LB_X12_isMissed_15 (L_X12_isMissed_15 n) v1 v2 v3 v4 v5 v6 v7 v8 v9 m
def F_X12_isMissed (a1 : Int) (a2 : Int) (a3 : Int) (a4 : Int) (a5 : Int) (a6 : Int) (m : Mm) : Rs := nmv (m 54 55) (fun x1 => nmv (m 54 56) (fun x2 => nmv 0 (fun x3 => (L_X12_isMissed_15 100000 a1 a2 a3 a4 a5 a6 x1 x2 x3 m))))
def J_X12_missed_311 (k_216 : Int → Int → Int → Int → Int → Int → Int → Mm → Rs) (k_225 : Int → Int → Int → Int → Int → Int → Int → Int → Mm → Rs) (k_240 : Int → Int → Int → Int → Int → Int → Int → Int → Int → Mm → Rs) (v1 : Int) (v2 : Int) (v3 : Int) (v4 : Int) (v5 : Int) (v6 : Int) (v7 : Int) (v8 : Int) (v9 : Int) (m : Mm) : Rs := nmv (wr (v9 + 1)) (fun x1 => (k_240 v1 v2 v3 v4 v5 v6 v7 v8 x1 m))
def J_X12_missed_308 (k_216 : Int → Int → Int → Int → Int → Int → Int → Mm → Rs) (k_225 : Int → Int → Int → Int → Int → Int → Int → Int → Mm → Rs) (k_240 : Int → Int → Int → Int → Int → Int → Int → Int → Int → Mm → Rs) (v1 : Int) (v2 : Int) (v3 : Int) (v4 : Int) (v5 : Int) (v6 : Int) (v7 : Int) (v8 : Int) (v9 : Int) (m : Mm) : Rs := nmv (wr (v5 + 1)) (fun x1 => (J_X12_missed_311 k_216 k_225 k_240 v1 v2 v3 v4 x1 v6 v7 v8 v9 m))
def LB_X12_missed_240 (k_216 : Int → Int → Int → Int → Int → Int → Int → Mm → Rs) (k_225 : Int → Int → Int → Int → Int → Int → Int → Int → Mm → Rs) (rec : Int → Int → Int → Int → Int → Int → Int → Int → Int → Mm → Rs) (v1 : Int) (v2 : Int) (v3 : Int) (v4 : Int) (v5 : Int) (v6 : Int) (v7 : Int) (v8 : Int) (v9 : Int) (m : Mm) : Rs := if (m 54 2) ≤ v9 then nmv (wr (v8 + 1)) (fun x2 => (k_225 v1 v2 v3 v4 v5 v6 v7 x2 m)) else cll (F_X12_isNear v1 v9 m) (fun r3 m4 => if r3 = 0 then (J_X12_missed_311 k_216 k_225 rec v1 v2 v3 v4 v5 v6 v7 v8 v9 m4) else cll (F_X12_isMissed v1 v2 v3 v7 v8 v9 m4) (fun r6 m7 => if ¬ r6 = 0 then if ¬ v5 = 0 then (J_X12_missed_308 k_216 k_225 rec v1 v2 v3 v4 v5 v6 v7 v8 v9 m7) else if ¬ v4 = 0 then if ¬ v4 = 1 then nmv v9 (fun x12 => (J_X12_missed_308 k_216 k_225 rec v1 v2 v3 v4 v5 x12 v7 v8 v9 m7)) else nmv v8 (fun x13 => (J_X12_missed_308 k_216 k_225 rec v1 v2 v3 v4 v5 x13 v7 v8 v9 m7)) else nmv v7 (fun x14 => (J_X12_missed_308 k_216 k_225 rec v1 v2 v3 v4 v5 x14 v7 v8 v9 m7)) else (J_X12_missed_311 k_216 k_225 rec v1 v2 v3 v4 v5 v6 v7 v8 v9 m7)))
def L_X12_missed_240 (k_216 : Int → Int → Int → Int → Int → Int → Int → Mm → Rs) (k_225 : Int → Int → Int → Int → Int → Int → Int → Int → Mm → Rs) : Nat → Int → Int → Int → Int → Int → Int → Int → Int → Int → Mm → Rs
  | 0, _, _, _, _, _, _, _, _, _, _ => none
  | n + 1, v1, v2, v3, v4, v5, v6, v7, v8, v9, m => LB_X12_missed_240 k_216 k_225 (L_X12_missed_240 k_216 k_225 n) v1 v2 v3 v4 v5 v6 v7 v8 v9 m
def LB_X12_missed_225 (k_216 : Int → Int → Int → Int → Int → Int → Int → Mm → Rs) (rec : Int → Int → Int → Int → Int → Int → Int → Int → Mm → Rs) (v1 : Int) (v2 : Int) (v3 : Int) (v4 : Int) (v5 : Int) (v6 : Int) (v7 : Int) (v8 : Int) (m : Mm) : Rs := ald m 80 13 v7 (fun x1 => if x1 ≤ v8 then nmv (wr (v7 + 1)) (fun x3 => (k_216 v1 v2 v3 v4 v5 v6 x3 m)) else nmv 0 (fun x4 => (L_X12_missed_240 k_216 rec 100000 v1 v2 v3 v4 v5 v6 v7 v8 x4 m)))
def L_X12_missed_225 (k_216 : Int → Int → Int → Int → Int → Int → Int → Mm → Rs) : Nat → Int → Int → Int → Int → Int → Int → Int → Int → Mm → Rs
  | 0, _, _, _, _, _, _, _, _, _ => none
  | n + 1, v1, v2, v3, v4, v5, v6, v7, v8, m => LB_X12_missed_225 k_216 (L_X12_missed_225 k_216 n) v1 v2 v3 v4 v5 v6 v7 v8 m
def LB_X12_missed_216 (rec : Int → Int → Int → Int → Int → Int → Int → Mm → Rs) (v1 : Int) (v2 : Int) (v3 : Int) (v4 : Int) (v5 : Int) (v6 : Int) (v7 : Int) (m : Mm) : Rs := if v3 ≤ v7 then if ¬ v4 = (-1) then some (v6, m) else some (v5, m) else nmv 1 (fun x3 => (L_X12_missed_225 rec 100000 v1 v2 v3 v4 v5 v6 v7 x3 m))
def L_X12_missed_216 : Nat → Int → Int → Int → Int → Int → Int → Int → Mm → Rs
  | 0, _, _, _, _, _, _, _, _ => none
  | n + 1, v1, v2, v3, v4, v5, v6, v7, m => LB_X12_missed_216 (L_X12_missed_216 n) v1 v2 v3 v4 v5 v6 v7 m
def LB_X12_missed_168 (rec : Int → Int → Int → Int → Int → Mm → Rs) (v1 : Int) (v2 : Int) (v3 : Int) (v4 : Int) (v5 : Int) (m : Mm) : Rs := if v3 < v5 then cll (F_X12_laysLast v1 m) (fun r2 m3 => nmv 0 (fun x4 => nmv (-3) (fun x5 => nmv 0 (fun x6 => (L_X12_missed_216 100000 v1 v2 v3 v4 x4 x5 x6 m3))))) else ald m 81 13 v5 (fun x7 => cll (F_X12_lies x7 0 32 m) (fun r8 m9 => if ¬ r8 = 0 then nmv (wr (v5 + 1)) (fun x11 => (rec v1 v2 v3 v4 x11 m9)) else some ((-2), m9)))
def L_X12_missed_168 : Nat → Int → Int → Int → Int → Int → Mm → Rs
  | 0, _, _, _, _, _, _ => none
  | n + 1, v1, v2, v3, v4, v5, m => LB_X12_missed_168 (L_X12_missed_168 n) v1 v2 v3 v4 v5 m
def LB_X12_missed_132 (rec : Int → Int → Int → Int → Int → Mm → Rs) (v1 : Int) (v2 : Int) (v3 : Int) (v4 : Int) (v5 : Int) (m : Mm) : Rs := if v3 ≤ v5 then nmv 0 (fun x2 => (L_X12_missed_168 100000 v1 v2 v3 v4 x2 m)) else ald m 80 13 v5 (fun x3 => cll (F_X12_lies x3 1 63 m) (fun r4 m5 => if ¬ r4 = 0 then nmv (wr (v5 + 1)) (fun x7 => (rec v1 v2 v3 v4 x7 m5)) else some ((-2), m5)))
def L_X12_missed_132 : Nat → Int → Int → Int → Int → Int → Mm → Rs
  | 0, _, _, _, _, _, _ => none
  | n + 1, v1, v2, v3, v4, v5, m => LB_X12_missed_132 (L_X12_missed_132 n) v1 v2 v3 v4 v5 m
def LB_X12_missed_102 (rec : Int → Int → Int → Int → Int → Mm → Rs) (v1 : Int) (v2 : Int) (v3 : Int) (v4 : Int) (v5 : Int) (m : Mm) : Rs := if v3 < v5 then nmv 0 (fun x2 => (L_X12_missed_132 100000 v1 v2 v3 v4 x2 m)) else cll (F_X12_byteAt (wr (v3 + v5)) m) (fun r3 m4 => ast m4 81 13 v5 r3 (fun m5 => nmv (wr (v5 + 1)) (fun x6 => (rec v1 v2 v3 v4 x6 m5))))
def L_X12_missed_102 : Nat → Int → Int → Int → Int → Int → Mm → Rs
  | 0, _, _, _, _, _, _ => none
  | n + 1, v1, v2, v3, v4, v5, m => LB_X12_missed_102 (L_X12_missed_102 n) v1 v2 v3 v4 v5 m
def LB_X12_missed_74 (rec : Int → Int → Int → Int → Int → Mm → Rs) (v1 : Int) (v2 : Int) (v3 : Int) (v4 : Int) (v5 : Int) (m : Mm) : Rs := if v3 ≤ v5 then nmv 0 (fun x2 => (L_X12_missed_102 100000 v1 v2 v3 v4 x2 m)) else cll (F_X12_byteAt v5 m) (fun r3 m4 => ast m4 80 13 v5 r3 (fun m5 => nmv (wr (v5 + 1)) (fun x6 => (rec v1 v2 v3 v4 x6 m5))))
def L_X12_missed_74 : Nat → Int → Int → Int → Int → Int → Mm → Rs
  | 0, _, _, _, _, _, _ => none
  | n + 1, v1, v2, v3, v4, v5, m => LB_X12_missed_74 (L_X12_missed_74 n) v1 v2 v3 v4 v5 m
def F_X12_missed (a1 : Int) (a2 : Int) (a3 : Int) (a4 : Int) (m : Mm) : Rs := cll (F_X12_isMouth a1 m) (fun r1 m2 => if r1 = 0 then some ((-1), m2) else cll (F_X12_isMouth a2 m2) (fun r4 m5 => if r4 = 0 then some ((-1), m5) else cll (F_X12_isNear a1 a2 m5) (fun r7 m8 => if r7 = 0 then some ((-1), m8) else cll (F_X12_lies a3 1 10 m8) (fun r10 m11 => if r10 = 0 then some ((-1), m11) else cll (F_X12_lies a4 (-1) 2 m11) (fun r13 m14 => if r13 = 0 then some ((-1), m14) else if (wr ((wr (2 * a3)) + 1)) ≤ (m14 54 1) then stf m14 54 1 0 (fun m17 => nmv 0 (fun x18 => (L_X12_missed_74 100000 a1 a2 a3 a4 x18 m17))) else some ((-1), m14))))))
def F_X12_gapOf (a1 : Int) (m : Mm) : Rs := if ¬ a1 = 21 then some (a1, m) else some (63, m)
def F_X12_meansPlace (a1 : Int) (a2 : Int) (a3 : Int) (a4 : Int) (m : Mm) : Rs := some ((wr ((wr ((wr ((wr ((wr ((wr (a1 * 22)) + a2)) * 5)) + a3)) * 22)) + a4)), m)
def J_X12_laysCrowd_46 (k_7 : Int → Int → Mm → Rs) (v1 : Int) (v2 : Int) (m : Mm) : Rs := nmv (wr (v2 + 1)) (fun x1 => (k_7 v1 x1 m))
def J_X12_laysCrowd_165 (k_54 : Int → Mm → Rs) (k_64 : Int → Int → Mm → Rs) (k_73 : Int → Int → Int → Mm → Rs) (k_82 : Int → Int → Int → Int → Mm → Rs) (v2 : Int) (v3 : Int) (v4 : Int) (v5 : Int) (m : Mm) : Rs := nmv (wr (v5 + 1)) (fun x1 => (k_82 v2 v3 v4 x1 m))
def J_X12_laysCrowd_107 (k_54 : Int → Mm → Rs) (k_64 : Int → Int → Mm → Rs) (k_73 : Int → Int → Int → Mm → Rs) (k_82 : Int → Int → Int → Int → Mm → Rs) (v2 : Int) (v3 : Int) (v4 : Int) (v5 : Int) (m : Mm) : Rs := cll (F_X12_meansPlace v2 v3 v4 v5 m) (fun r1 m2 => ald m2 84 4 v2 (fun x3 => cll (F_X12_gapOf v3 m2) (fun r4 m5 => ald m5 84 4 v2 (fun x6 => if ¬ v4 = 4 then ald m5 84 4 v4 (fun x8 => cll (F_X12_gapOf v5 m5) (fun r9 m10 => cll (F_X12_means x3 r4 x6 x8 r9 0 m10) (fun r11 m12 => ast m12 85 9680 r1 r11 (fun m13 => (J_X12_laysCrowd_165 k_54 k_64 k_73 k_82 v2 v3 v4 v5 m13))))) else cll (F_X12_gapOf v5 m5) (fun r14 m15 => cll (F_X12_means x3 r4 x6 8 r14 0 m15) (fun r16 m17 => ast m17 85 9680 r1 r16 (fun m18 => (J_X12_laysCrowd_165 k_54 k_64 k_73 k_82 v2 v3 v4 v5 m18))))))))
def LB_X12_laysCrowd_82 (k_54 : Int → Mm → Rs) (k_64 : Int → Int → Mm → Rs) (k_73 : Int → Int → Int → Mm → Rs) (rec : Int → Int → Int → Int → Mm → Rs) (v2 : Int) (v3 : Int) (v4 : Int) (v5 : Int) (m : Mm) : Rs := if 22 ≤ v5 then nmv (wr (v4 + 1)) (fun x2 => (k_73 v2 v3 x2 m)) else if 4 ≤ v4 then (J_X12_laysCrowd_107 k_54 k_64 k_73 rec v2 v3 v4 v5 m) else if v4 < (m 54 57) then (J_X12_laysCrowd_107 k_54 k_64 k_73 rec v2 v3 v4 v5 m) else (J_X12_laysCrowd_165 k_54 k_64 k_73 rec v2 v3 v4 v5 m)
def L_X12_laysCrowd_82 (k_54 : Int → Mm → Rs) (k_64 : Int → Int → Mm → Rs) (k_73 : Int → Int → Int → Mm → Rs) : Nat → Int → Int → Int → Int → Mm → Rs
  | 0, _, _, _, _, _ => none
  | n + 1, v2, v3, v4, v5, m => LB_X12_laysCrowd_82 k_54 k_64 k_73 (L_X12_laysCrowd_82 k_54 k_64 k_73 n) v2 v3 v4 v5 m
def LB_X12_laysCrowd_73 (k_54 : Int → Mm → Rs) (k_64 : Int → Int → Mm → Rs) (rec : Int → Int → Int → Mm → Rs) (v2 : Int) (v3 : Int) (v4 : Int) (m : Mm) : Rs := if 5 ≤ v4 then nmv (wr (v3 + 1)) (fun x2 => (k_64 v2 x2 m)) else nmv 1 (fun x3 => (L_X12_laysCrowd_82 k_54 k_64 rec 100000 v2 v3 v4 x3 m))
def L_X12_laysCrowd_73 (k_54 : Int → Mm → Rs) (k_64 : Int → Int → Mm → Rs) : Nat → Int → Int → Int → Mm → Rs
  | 0, _, _, _, _ => none
  | n + 1, v2, v3, v4, m => LB_X12_laysCrowd_73 k_54 k_64 (L_X12_laysCrowd_73 k_54 k_64 n) v2 v3 v4 m
def LB_X12_laysCrowd_64 (k_54 : Int → Mm → Rs) (rec : Int → Int → Mm → Rs) (v2 : Int) (v3 : Int) (m : Mm) : Rs := if 22 ≤ v3 then nmv (wr (v2 + 1)) (fun x2 => (k_54 x2 m)) else nmv 0 (fun x3 => (L_X12_laysCrowd_73 k_54 rec 100000 v2 v3 x3 m))
def L_X12_laysCrowd_64 (k_54 : Int → Mm → Rs) : Nat → Int → Int → Mm → Rs
  | 0, _, _, _ => none
  | n + 1, v2, v3, m => LB_X12_laysCrowd_64 k_54 (L_X12_laysCrowd_64 k_54 n) v2 v3 m
def LB_X12_laysCrowd_54 (rec : Int → Mm → Rs) (v2 : Int) (m : Mm) : Rs := if (m 54 57) ≤ v2 then some (0, m) else nmv 1 (fun x2 => (L_X12_laysCrowd_64 rec 100000 v2 x2 m))
def L_X12_laysCrowd_54 : Nat → Int → Mm → Rs
  | 0, _, _ => none
  | n + 1, v2, m => LB_X12_laysCrowd_54 (L_X12_laysCrowd_54 n) v2 m
def LB_X12_laysCrowd_7 (rec : Int → Int → Mm → Rs) (v1 : Int) (v2 : Int) (m : Mm) : Rs := if (m 54 2) ≤ v2 then nmv 0 (fun x2 => (L_X12_laysCrowd_54 100000 x2 m)) else cll (F_X12_has v1 v2 m) (fun r3 m4 => if ¬ r3 = 0 then ast m4 84 4 (m4 54 57) v2 (fun m6 => stf m6 54 57 (wr ((m6 54 57) + 1)) (fun m7 => (J_X12_laysCrowd_46 rec v1 v2 m7))) else (J_X12_laysCrowd_46 rec v1 v2 m4))
def L_X12_laysCrowd_7 : Nat → Int → Int → Mm → Rs
  | 0, _, _, _ => none
  | n + 1, v1, v2, m => LB_X12_laysCrowd_7 (L_X12_laysCrowd_7 n) v1 v2 m
def F_X12_laysCrowd (a1 : Int) (m : Mm) : Rs := stf m 54 57 0 (fun m1 => nmv 0 (fun x2 => (L_X12_laysCrowd_7 100000 a1 x2 m1)))
def LB_X12_saidBy_4 (rec : Int → Int → Int → Mm → Rs) (v1 : Int) (v2 : Int) (v3 : Int) (m : Mm) : Rs := if v1 ≤ v3 then dvn 5 (some ((wr ((v2 : Int).tmod 5)), m)) else dvn 5 (nmv (wr ((v2 : Int).tdiv 5)) (fun x4 => nmv (wr (v3 + 1)) (fun x5 => (rec v1 x4 x5 m))))
def L_X12_saidBy_4 : Nat → Int → Int → Int → Mm → Rs
  | 0, _, _, _, _ => none
  | n + 1, v1, v2, v3, m => LB_X12_saidBy_4 (L_X12_saidBy_4 n) v1 v2 v3 m
def F_X12_saidBy (a1 : Int) (a2 : Int) (m : Mm) : Rs := nmv a1 (fun x1 => nmv 0 (fun x2 => (L_X12_saidBy_4 100000 a2 x1 x2 m)))
def F_X12_fives (a1 : Int) (m : Mm) : Rs := if ¬ a1 = 0 then if ¬ a1 = 1 then if ¬ a1 = 2 then some (125, m) else some (25, m) else some (5, m) else some (1, m)
def LB_X12_isDone_2 (rec : Int → Int → Mm → Rs) (v1 : Int) (v2 : Int) (m : Mm) : Rs := if (m 54 57) ≤ v2 then some (1, m) else cll (F_X12_saidBy v1 v2 m) (fun r2 m3 => ald m3 84 4 v2 (fun x4 => ald m3 59 8 x4 (fun x5 => if r2 = x5 then nmv (wr (v2 + 1)) (fun x7 => (rec v1 x7 m3)) else some (0, m3))))
def L_X12_isDone_2 : Nat → Int → Int → Mm → Rs
  | 0, _, _, _ => none
  | n + 1, v1, v2, m => LB_X12_isDone_2 (L_X12_isDone_2 n) v1 v2 m
def F_X12_isDone (a1 : Int) (m : Mm) : Rs := nmv 0 (fun x1 => (L_X12_isDone_2 100000 a1 x1 m))
def J_X12_isState_40 (k_2 : Int → Int → Mm → Rs) (v1 : Int) (v2 : Int) (m : Mm) : Rs := nmv (wr (v2 + 1)) (fun x1 => (k_2 v1 x1 m))
def LB_X12_isState_2 (rec : Int → Int → Mm → Rs) (v1 : Int) (v2 : Int) (m : Mm) : Rs := if 4 ≤ v2 then some (1, m) else cll (F_X12_saidBy v1 v2 m) (fun r2 m3 => if (m3 54 57) ≤ v2 then if r2 ≤ 0 then (J_X12_isState_40 rec v1 v2 m3) else some (0, m3) else ald m3 84 4 v2 (fun x6 => ald m3 59 8 x6 (fun x7 => if r2 ≤ x7 then (J_X12_isState_40 rec v1 v2 m3) else some (0, m3))))
def L_X12_isState_2 : Nat → Int → Int → Mm → Rs
  | 0, _, _, _ => none
  | n + 1, v1, v2, m => LB_X12_isState_2 (L_X12_isState_2 n) v1 v2 m
def F_X12_isState (a1 : Int) (m : Mm) : Rs := nmv 0 (fun x1 => (L_X12_isState_2 100000 a1 x1 m))
def F_X12_soonPlace (a1 : Int) (a2 : Int) (a3 : Int) (m : Mm) : Rs := some ((wr ((wr ((wr ((wr (a1 * 5)) + a2)) * 22)) + a3)), m)
def F_X12_says (a1 : Int) (a2 : Int) (a3 : Int) (a4 : Int) (a5 : Int) (m : Mm) : Rs := cll (F_X12_saidBy a1 a4 m) (fun r1 m2 => nmv r1 (fun x3 => ald m2 84 4 a4 (fun x4 => ald m2 59 8 x4 (fun x5 => if x5 ≤ x3 then some (0, m2) else cll (F_X12_meansPlace a4 a5 a2 a3 m2) (fun r7 m8 => ald m8 85 9680 r7 (fun x9 => ald m8 84 4 a4 (fun x10 => ald m8 60 32 (wr ((wr (4 * x10)) + x3)) (fun x11 => if ¬ x9 = x11 then some (0, m8) else some (1, m8)))))))))
def F_X12_costOf (a1 : Int) (m : Mm) : Rs := if ¬ a1 = 21 then some (a1, m) else some (0, m)
def J_X12_laysSoon_196 (k_4 : Int → Mm → Rs) (k_27 : Int → Int → Int → Mm → Rs) (k_35 : Int → Int → Int → Int → Mm → Rs) (k_87 : Int → Int → Int → Int → Int → Int → Int → Mm → Rs) (k_109 : Int → Int → Int → Int → Int → Int → Int → Int → Mm → Rs) (v1 : Int) (v2 : Int) (v3 : Int) (v4 : Int) (v5 : Int) (v6 : Int) (v7 : Int) (v8 : Int) (m : Mm) : Rs := nmv (wr (v8 + 1)) (fun x1 => (k_109 v1 v2 v3 v4 v5 v6 v7 x1 m))
def J_X12_laysSoon_126 (k_4 : Int → Mm → Rs) (k_27 : Int → Int → Int → Mm → Rs) (k_35 : Int → Int → Int → Int → Mm → Rs) (k_87 : Int → Int → Int → Int → Int → Int → Int → Mm → Rs) (k_109 : Int → Int → Int → Int → Int → Int → Int → Int → Mm → Rs) (v1 : Int) (v2 : Int) (v3 : Int) (v4 : Int) (v5 : Int) (v6 : Int) (v7 : Int) (v8 : Int) (m : Mm) : Rs := cll (F_X12_says v1 v3 v4 v7 v8 m) (fun r1 m2 => if ¬ r1 = 0 then cll (F_X12_fives v7 m2) (fun r4 m5 => cll (F_X12_soonPlace (wr (v1 + r4)) v7 v8 m5) (fun r6 m7 => ald m7 86 68750 r6 (fun x8 => nmv x8 (fun x9 => if 1000000000 ≤ x9 then (J_X12_laysSoon_196 k_4 k_27 k_35 k_87 k_109 v1 v2 v3 v4 v5 v6 v7 v8 m7) else cll (F_X12_costOf v8 m7) (fun r11 m12 => if v5 ≤ (wr (r11 + x9)) then (J_X12_laysSoon_196 k_4 k_27 k_35 k_87 k_109 v1 v2 v3 v4 v5 v6 v7 v8 m12) else cll (F_X12_costOf v8 m12) (fun r14 m15 => nmv (wr (r14 + x9)) (fun x16 => (J_X12_laysSoon_196 k_4 k_27 k_35 k_87 k_109 v1 v2 v3 v4 x16 v6 v7 v8 m15)))))))) else (J_X12_laysSoon_196 k_4 k_27 k_35 k_87 k_109 v1 v2 v3 v4 v5 v6 v7 v8 m2))
def J_X12_laysSoon_202 (k_4 : Int → Mm → Rs) (k_27 : Int → Int → Int → Mm → Rs) (k_35 : Int → Int → Int → Int → Mm → Rs) (k_87 : Int → Int → Int → Int → Int → Int → Int → Mm → Rs) (v1 : Int) (v2 : Int) (v3 : Int) (v4 : Int) (v5 : Int) (v6 : Int) (v7 : Int) (m : Mm) : Rs := nmv (wr (v7 + 1)) (fun x1 => (k_87 v1 v2 v3 v4 v5 v6 x1 m))
def LB_X12_laysSoon_109 (k_4 : Int → Mm → Rs) (k_27 : Int → Int → Int → Mm → Rs) (k_35 : Int → Int → Int → Int → Mm → Rs) (k_87 : Int → Int → Int → Int → Int → Int → Int → Mm → Rs) (rec : Int → Int → Int → Int → Int → Int → Int → Int → Mm → Rs) (v1 : Int) (v2 : Int) (v3 : Int) (v4 : Int) (v5 : Int) (v6 : Int) (v7 : Int) (v8 : Int) (m : Mm) : Rs := if v6 = 0 then if 21 ≤ v8 then (J_X12_laysSoon_202 k_4 k_27 k_35 k_87 v1 v2 v3 v4 v5 v6 v7 m) else (J_X12_laysSoon_126 k_4 k_27 k_35 k_87 rec v1 v2 v3 v4 v5 v6 v7 v8 m) else if 22 ≤ v8 then (J_X12_laysSoon_202 k_4 k_27 k_35 k_87 v1 v2 v3 v4 v5 v6 v7 m) else (J_X12_laysSoon_126 k_4 k_27 k_35 k_87 rec v1 v2 v3 v4 v5 v6 v7 v8 m)
def L_X12_laysSoon_109 (k_4 : Int → Mm → Rs) (k_27 : Int → Int → Int → Mm → Rs) (k_35 : Int → Int → Int → Int → Mm → Rs) (k_87 : Int → Int → Int → Int → Int → Int → Int → Mm → Rs) : Nat → Int → Int → Int → Int → Int → Int → Int → Int → Mm → Rs
  | 0, _, _, _, _, _, _, _, _, _ => none
  | n + 1, v1, v2, v3, v4, v5, v6, v7, v8, m => LB_X12_laysSoon_109 k_4 k_27 k_35 k_87 (L_X12_laysSoon_109 k_4 k_27 k_35 k_87 n) v1 v2 v3 v4 v5 v6 v7 v8 m
def J_X12_laysSoon_208 (k_4 : Int → Mm → Rs) (k_27 : Int → Int → Int → Mm → Rs) (k_35 : Int → Int → Int → Int → Mm → Rs) (v1 : Int) (v2 : Int) (v3 : Int) (v4 : Int) (v5 : Int) (m : Mm) : Rs := cll (F_X12_soonPlace v1 v3 v4 m) (fun r1 m2 => ast m2 86 68750 r1 v5 (fun m3 => nmv (wr (v4 + 1)) (fun x4 => (k_35 v1 v2 v3 x4 m3))))
def LB_X12_laysSoon_87 (k_4 : Int → Mm → Rs) (k_27 : Int → Int → Int → Mm → Rs) (k_35 : Int → Int → Int → Int → Mm → Rs) (rec : Int → Int → Int → Int → Int → Int → Int → Mm → Rs) (v1 : Int) (v2 : Int) (v3 : Int) (v4 : Int) (v5 : Int) (v6 : Int) (v7 : Int) (m : Mm) : Rs := if (m 54 57) ≤ v7 then (J_X12_laysSoon_208 k_4 k_27 k_35 v1 v2 v3 v4 v5 m) else if v6 = 0 then nmv 1 (fun x3 => (L_X12_laysSoon_109 k_4 k_27 k_35 rec 100000 v1 v2 v3 v4 v5 v6 v7 x3 m)) else nmv 21 (fun x4 => (L_X12_laysSoon_109 k_4 k_27 k_35 rec 100000 v1 v2 v3 v4 v5 v6 v7 x4 m))
def L_X12_laysSoon_87 (k_4 : Int → Mm → Rs) (k_27 : Int → Int → Int → Mm → Rs) (k_35 : Int → Int → Int → Int → Mm → Rs) : Nat → Int → Int → Int → Int → Int → Int → Int → Mm → Rs
  | 0, _, _, _, _, _, _, _, _ => none
  | n + 1, v1, v2, v3, v4, v5, v6, v7, m => LB_X12_laysSoon_87 k_4 k_27 k_35 (L_X12_laysSoon_87 k_4 k_27 k_35 n) v1 v2 v3 v4 v5 v6 v7 m
def J_X12_laysSoon_84 (k_4 : Int → Mm → Rs) (k_27 : Int → Int → Int → Mm → Rs) (k_35 : Int → Int → Int → Int → Mm → Rs) (v1 : Int) (v2 : Int) (v3 : Int) (v4 : Int) (v5 : Int) (v6 : Int) (m : Mm) : Rs := nmv 0 (fun x1 => (L_X12_laysSoon_87 k_4 k_27 k_35 100000 v1 v2 v3 v4 v5 v6 x1 m))
def J_X12_laysSoon_66 (k_4 : Int → Mm → Rs) (k_27 : Int → Int → Int → Mm → Rs) (k_35 : Int → Int → Int → Int → Mm → Rs) (v1 : Int) (v2 : Int) (v3 : Int) (v4 : Int) (v5 : Int) (v6 : Int) (m : Mm) : Rs := if v3 < (m 54 57) then (J_X12_laysSoon_84 k_4 k_27 k_35 v1 v2 v3 v4 v5 v6 m) else if ¬ v3 = 4 then (J_X12_laysSoon_208 k_4 k_27 k_35 v1 v2 v3 v4 v5 m) else if v6 = 0 then (J_X12_laysSoon_208 k_4 k_27 k_35 v1 v2 v3 v4 v5 m) else (J_X12_laysSoon_84 k_4 k_27 k_35 v1 v2 v3 v4 v5 v6 m)
def J_X12_laysSoon_55 (k_4 : Int → Mm → Rs) (k_27 : Int → Int → Int → Mm → Rs) (k_35 : Int → Int → Int → Int → Mm → Rs) (v1 : Int) (v2 : Int) (v3 : Int) (v4 : Int) (v5 : Int) (m : Mm) : Rs := if ¬ v1 = 0 then nmv 0 (fun x2 => (J_X12_laysSoon_66 k_4 k_27 k_35 v1 v2 v3 v4 v5 x2 m)) else nmv 1 (fun x3 => (J_X12_laysSoon_66 k_4 k_27 k_35 v1 v2 v3 v4 v5 x3 m))
def LB_X12_laysSoon_35 (k_4 : Int → Mm → Rs) (k_27 : Int → Int → Int → Mm → Rs) (rec : Int → Int → Int → Int → Mm → Rs) (v1 : Int) (v2 : Int) (v3 : Int) (v4 : Int) (m : Mm) : Rs := if 22 ≤ v4 then nmv (wr (v3 + 1)) (fun x2 => (k_27 v1 v2 x2 m)) else if v2 = 0 then nmv 1000000000 (fun x4 => (J_X12_laysSoon_55 k_4 k_27 rec v1 v2 v3 v4 x4 m)) else nmv 0 (fun x5 => (J_X12_laysSoon_55 k_4 k_27 rec v1 v2 v3 v4 x5 m))
def L_X12_laysSoon_35 (k_4 : Int → Mm → Rs) (k_27 : Int → Int → Int → Mm → Rs) : Nat → Int → Int → Int → Int → Mm → Rs
  | 0, _, _, _, _, _ => none
  | n + 1, v1, v2, v3, v4, m => LB_X12_laysSoon_35 k_4 k_27 (L_X12_laysSoon_35 k_4 k_27 n) v1 v2 v3 v4 m
def J_X12_laysSoon_234 (k_4 : Int → Mm → Rs) (v1 : Int) (m : Mm) : Rs := nmv (wr (v1 + (-1))) (fun x1 => (k_4 x1 m))
def LB_X12_laysSoon_27 (k_4 : Int → Mm → Rs) (rec : Int → Int → Int → Mm → Rs) (v1 : Int) (v2 : Int) (v3 : Int) (m : Mm) : Rs := if 5 ≤ v3 then (J_X12_laysSoon_234 k_4 v1 m) else nmv 1 (fun x2 => (L_X12_laysSoon_35 k_4 rec 100000 v1 v2 v3 x2 m))
def L_X12_laysSoon_27 (k_4 : Int → Mm → Rs) : Nat → Int → Int → Int → Mm → Rs
  | 0, _, _, _, _ => none
  | n + 1, v1, v2, v3, m => LB_X12_laysSoon_27 k_4 (L_X12_laysSoon_27 k_4 n) v1 v2 v3 m
def LB_X12_laysSoon_4 (rec : Int → Mm → Rs) (v1 : Int) (m : Mm) : Rs := if v1 < 0 then some (0, m) else cll (F_X12_isState v1 m) (fun r2 m3 => if ¬ r2 = 0 then cll (F_X12_isDone v1 m3) (fun r5 m6 => nmv r5 (fun x7 => nmv 0 (fun x8 => (L_X12_laysSoon_27 rec 100000 v1 x7 x8 m6)))) else (J_X12_laysSoon_234 rec v1 m3))
def L_X12_laysSoon_4 : Nat → Int → Mm → Rs
  | 0, _, _ => none
  | n + 1, v1, m => LB_X12_laysSoon_4 (L_X12_laysSoon_4 n) v1 m
def F_X12_laysSoon (m : Mm) : Rs := nmv 624 (fun x1 => (L_X12_laysSoon_4 100000 x1 m))
def J_X12_goesBy_159 (k_6 : Int → Int → Int → Int → Int → Int → Mm → Rs) (k_46 : Int → Int → Int → Int → Int → Int → Int → Mm → Rs) (v1 : Int) (v2 : Int) (v3 : Int) (v4 : Int) (v5 : Int) (v6 : Int) (v7 : Int) (m : Mm) : Rs := nmv (wr (v7 + 1)) (fun x1 => (k_46 v1 v2 v3 v4 v5 v6 x1 m))
def J_X12_goesBy_62 (k_6 : Int → Int → Int → Int → Int → Int → Mm → Rs) (k_46 : Int → Int → Int → Int → Int → Int → Int → Mm → Rs) (v1 : Int) (v2 : Int) (v3 : Int) (v4 : Int) (v5 : Int) (v6 : Int) (v7 : Int) (m : Mm) : Rs := cll (F_X12_says v1 v2 v6 v3 v7 m) (fun r1 m2 => if ¬ r1 = 0 then cll (F_X12_fives v3 m2) (fun r4 m5 => cll (F_X12_soonPlace (wr (v1 + r4)) v3 v7 m5) (fun r6 m7 => ald m7 86 68750 r6 (fun x8 => nmv x8 (fun x9 => if 1000000000 ≤ x9 then (J_X12_goesBy_159 k_6 k_46 v1 v2 v3 v4 v5 v6 v7 m7) else cll (F_X12_costOf v7 m7) (fun r11 m12 => cll (F_X12_soonPlace v1 v2 v6 m12) (fun r13 m14 => ald m14 86 68750 r13 (fun x15 => if (wr (r11 + x9)) = x15 then nmv 1 (fun x17 => if v4 = 0 then (J_X12_goesBy_159 k_6 k_46 v1 v2 v3 v4 x17 v6 v7 m14) else ast m14 89 374 (wr ((wr ((wr (22 * (m14 54 63))) + 22)) + v7)) 1 (fun m19 => (J_X12_goesBy_159 k_6 k_46 v1 v2 v3 v4 x17 v6 v7 m19))) else (J_X12_goesBy_159 k_6 k_46 v1 v2 v3 v4 v5 v6 v7 m14)))))))) else (J_X12_goesBy_159 k_6 k_46 v1 v2 v3 v4 v5 v6 v7 m2))
def J_X12_goesBy_165 (k_6 : Int → Int → Int → Int → Int → Int → Mm → Rs) (v1 : Int) (v2 : Int) (v3 : Int) (v4 : Int) (v5 : Int) (v6 : Int) (m : Mm) : Rs := nmv (wr (v6 + 1)) (fun x1 => (k_6 v1 v2 v3 v4 v5 x1 m))
def LB_X12_goesBy_46 (k_6 : Int → Int → Int → Int → Int → Int → Mm → Rs) (rec : Int → Int → Int → Int → Int → Int → Int → Mm → Rs) (v1 : Int) (v2 : Int) (v3 : Int) (v4 : Int) (v5 : Int) (v6 : Int) (v7 : Int) (m : Mm) : Rs := if ¬ v1 = 0 then if 21 ≤ v7 then (J_X12_goesBy_165 k_6 v1 v2 v3 v4 v5 v6 m) else (J_X12_goesBy_62 k_6 rec v1 v2 v3 v4 v5 v6 v7 m) else if 22 ≤ v7 then (J_X12_goesBy_165 k_6 v1 v2 v3 v4 v5 v6 m) else (J_X12_goesBy_62 k_6 rec v1 v2 v3 v4 v5 v6 v7 m)
def L_X12_goesBy_46 (k_6 : Int → Int → Int → Int → Int → Int → Mm → Rs) : Nat → Int → Int → Int → Int → Int → Int → Int → Mm → Rs
  | 0, _, _, _, _, _, _, _, _ => none
  | n + 1, v1, v2, v3, v4, v5, v6, v7, m => LB_X12_goesBy_46 k_6 (L_X12_goesBy_46 k_6 n) v1 v2 v3 v4 v5 v6 v7 m
def LB_X12_goesBy_6 (rec : Int → Int → Int → Int → Int → Int → Mm → Rs) (v1 : Int) (v2 : Int) (v3 : Int) (v4 : Int) (v5 : Int) (v6 : Int) (m : Mm) : Rs := if 22 ≤ v6 then some (v5, m) else ald m 89 374 (wr ((wr (22 * (m 54 63))) + v6)) (fun x2 => if ¬ x2 = 0 then if ¬ v1 = 0 then nmv 1 (fun x5 => (L_X12_goesBy_46 rec 100000 v1 v2 v3 v4 v5 v6 x5 m)) else nmv 21 (fun x6 => (L_X12_goesBy_46 rec 100000 v1 v2 v3 v4 v5 v6 x6 m)) else (J_X12_goesBy_165 rec v1 v2 v3 v4 v5 v6 m))
def L_X12_goesBy_6 : Nat → Int → Int → Int → Int → Int → Int → Mm → Rs
  | 0, _, _, _, _, _, _, _ => none
  | n + 1, v1, v2, v3, v4, v5, v6, m => LB_X12_goesBy_6 (L_X12_goesBy_6 n) v1 v2 v3 v4 v5 v6 m
def F_X12_goesBy (a1 : Int) (a2 : Int) (a3 : Int) (a4 : Int) (m : Mm) : Rs := nmv 0 (fun x1 => nmv 1 (fun x2 => (L_X12_goesBy_6 100000 a1 a2 a3 a4 x1 x2 m)))
def LB_X12_findsWho_49 (k_39 : Int → Int → Mm → Rs) (rec : Int → Int → Int → Mm → Rs) (v1 : Int) (v2 : Int) (v3 : Int) (m : Mm) : Rs := cll (F_X12_goesBy v1 v2 v3 0 m) (fun r1 m2 => if ¬ r1 = 0 then cll (F_X12_goesBy v1 v2 v3 1 m2) (fun r4 m5 => nmv r4 (fun x6 => ast m5 87 16 (m5 54 63) v3 (fun m7 => stf m7 54 63 (wr ((m7 54 63) + 1)) (fun m8 => cll (F_X12_fives v3 m8) (fun r9 m10 => nmv (wr (v1 + r9)) (fun x11 => nmv v3 (fun x12 => (k_39 x11 x12 m10)))))))) else nmv (wr (v3 + 1)) (fun x13 => (rec v1 v2 x13 m2)))
def L_X12_findsWho_49 (k_39 : Int → Int → Mm → Rs) : Nat → Int → Int → Int → Mm → Rs
  | 0, _, _, _, _ => none
  | n + 1, v1, v2, v3, m => LB_X12_findsWho_49 k_39 (L_X12_findsWho_49 k_39 n) v1 v2 v3 m
def LB_X12_findsWho_39 (rec : Int → Int → Mm → Rs) (v1 : Int) (v2 : Int) (m : Mm) : Rs := cll (F_X12_isDone v1 m) (fun r1 m2 => if ¬ r1 = 0 then some (0, m2) else nmv 0 (fun x4 => (L_X12_findsWho_49 rec 100000 v1 v2 x4 m2)))
def L_X12_findsWho_39 : Nat → Int → Int → Mm → Rs
  | 0, _, _, _ => none
  | n + 1, v1, v2, m => LB_X12_findsWho_39 (L_X12_findsWho_39 n) v1 v2 m
def LB_X12_findsWho_2 (rec : Int → Mm → Rs) (v1 : Int) (m : Mm) : Rs := if 374 ≤ v1 then ast m 89 374 21 1 (fun m2 => nmv 0 (fun x3 => nmv 4 (fun x4 => stf m2 54 63 0 (fun m5 => (L_X12_findsWho_39 100000 x3 x4 m5))))) else ast m 89 374 v1 0 (fun m6 => nmv (wr (v1 + 1)) (fun x7 => (rec x7 m6)))
def L_X12_findsWho_2 : Nat → Int → Mm → Rs
  | 0, _, _ => none
  | n + 1, v1, m => LB_X12_findsWho_2 (L_X12_findsWho_2 n) v1 m
def F_X12_findsWho (m : Mm) : Rs := nmv 0 (fun x1 => (L_X12_findsWho_2 100000 x1 m))
def LB_X12_stateAfter_4 (rec : Int → Int → Int → Mm → Rs) (v1 : Int) (v2 : Int) (v3 : Int) (m : Mm) : Rs := if v1 ≤ v3 then some (v2, m) else ald m 87 16 v3 (fun x2 => cll (F_X12_fives x2 m) (fun r3 m4 => nmv (wr (v2 + r3)) (fun x5 => nmv (wr (v3 + 1)) (fun x6 => (rec v1 x5 x6 m4)))))
def L_X12_stateAfter_4 : Nat → Int → Int → Int → Mm → Rs
  | 0, _, _, _, _ => none
  | n + 1, v1, v2, v3, m => LB_X12_stateAfter_4 (L_X12_stateAfter_4 n) v1 v2 v3 m
def F_X12_stateAfter (a1 : Int) (m : Mm) : Rs := nmv 0 (fun x1 => nmv 0 (fun x2 => (L_X12_stateAfter_4 100000 a1 x1 x2 m)))
def J_X12_follows_25 (v1 : Int) (v2 : Int) (v3 : Int) (v4 : Int) (v5 : Int) (m : Mm) : Rs := ald m 87 16 v1 (fun x1 => cll (F_X12_says v4 v5 v2 x1 v3 m) (fun r2 m3 => if ¬ r2 = 0 then ald m3 87 16 v1 (fun x5 => cll (F_X12_fives x5 m3) (fun r6 m7 => ald m7 87 16 v1 (fun x8 => cll (F_X12_soonPlace (wr (v4 + r6)) x8 v3 m7) (fun r9 m10 => ald m10 86 68750 r9 (fun x11 => nmv x11 (fun x12 => if 1000000000 ≤ x12 then some (0, m10) else cll (F_X12_costOf v3 m10) (fun r14 m15 => cll (F_X12_soonPlace v4 v5 v2 m15) (fun r16 m17 => ald m17 86 68750 r16 (fun x18 => if ¬ (wr (r14 + x12)) = x18 then some (0, m17) else some (1, m17)))))))))) else some (0, m3)))
def F_X12_follows (a1 : Int) (a2 : Int) (a3 : Int) (m : Mm) : Rs := cll (F_X12_stateAfter a1 m) (fun r1 m2 => nmv r1 (fun x3 => if ¬ a1 = 0 then ald m2 87 16 (wr (a1 - 1)) (fun x5 => nmv x5 (fun x6 => (J_X12_follows_25 a1 a2 a3 x3 x6 m2))) else nmv 4 (fun x7 => (J_X12_follows_25 a1 a2 a3 x3 x7 m2))))
def J_X12_findsGaps_84 (k_7 : Int → Mm → Rs) (k_13 : Int → Int → Mm → Rs) (k_24 : Int → Int → Int → Int → Mm → Rs) (v1 : Int) (v2 : Int) (v3 : Int) (v4 : Int) (m : Mm) : Rs := nmv (wr (v4 + 1)) (fun x1 => (k_24 v1 v2 v3 x1 m))
def J_X12_findsGaps_78 (k_7 : Int → Mm → Rs) (k_13 : Int → Int → Mm → Rs) (k_24 : Int → Int → Int → Int → Mm → Rs) (v1 : Int) (v2 : Int) (v4 : Int) (m : Mm) : Rs := nmv 1 (fun x1 => (J_X12_findsGaps_84 k_7 k_13 k_24 v1 v2 x1 v4 m))
def J_X12_findsGaps_82 (k_7 : Int → Mm → Rs) (k_13 : Int → Int → Mm → Rs) (k_24 : Int → Int → Int → Int → Mm → Rs) (v1 : Int) (v2 : Int) (v4 : Int) (m : Mm) : Rs := nmv 0 (fun x1 => (J_X12_findsGaps_84 k_7 k_13 k_24 v1 v2 x1 v4 m))
def J_X12_findsGaps_90 (k_7 : Int → Mm → Rs) (k_13 : Int → Int → Mm → Rs) (v1 : Int) (v2 : Int) (v3 : Int) (m : Mm) : Rs := ast m 89 374 (wr ((wr (22 * v1)) + v2)) v3 (fun m1 => nmv (wr (v2 + 1)) (fun x2 => (k_13 v1 x2 m1)))
def LB_X12_findsGaps_24 (k_7 : Int → Mm → Rs) (k_13 : Int → Int → Mm → Rs) (rec : Int → Int → Int → Int → Mm → Rs) (v1 : Int) (v2 : Int) (v3 : Int) (v4 : Int) (m : Mm) : Rs := if 21 ≤ v4 then (J_X12_findsGaps_90 k_7 k_13 v1 v2 v3 m) else ald m 89 374 (wr ((wr (22 * v1)) + v2)) (fun x2 => if x2 = 0 then (J_X12_findsGaps_90 k_7 k_13 v1 v2 v3 m) else if ¬ v3 = 0 then (J_X12_findsGaps_78 k_7 k_13 rec v1 v2 v4 m) else ald m 89 374 (wr ((wr ((wr (22 * v1)) + 22)) + v4)) (fun x5 => if x5 = 0 then (J_X12_findsGaps_82 k_7 k_13 rec v1 v2 v4 m) else cll (F_X12_follows v1 v2 v4 m) (fun r7 m8 => if r7 = 0 then (J_X12_findsGaps_82 k_7 k_13 rec v1 v2 v4 m8) else (J_X12_findsGaps_78 k_7 k_13 rec v1 v2 v4 m8))))
def L_X12_findsGaps_24 (k_7 : Int → Mm → Rs) (k_13 : Int → Int → Mm → Rs) : Nat → Int → Int → Int → Int → Mm → Rs
  | 0, _, _, _, _, _ => none
  | n + 1, v1, v2, v3, v4, m => LB_X12_findsGaps_24 k_7 k_13 (L_X12_findsGaps_24 k_7 k_13 n) v1 v2 v3 v4 m
def LB_X12_findsGaps_13 (k_7 : Int → Mm → Rs) (rec : Int → Int → Mm → Rs) (v1 : Int) (v2 : Int) (m : Mm) : Rs := if 22 ≤ v2 then nmv (wr (v1 + (-1))) (fun x2 => (k_7 x2 m)) else nmv 0 (fun x3 => nmv 1 (fun x4 => (L_X12_findsGaps_24 k_7 rec 100000 v1 v2 x3 x4 m)))
def L_X12_findsGaps_13 (k_7 : Int → Mm → Rs) : Nat → Int → Int → Mm → Rs
  | 0, _, _, _ => none
  | n + 1, v1, v2, m => LB_X12_findsGaps_13 k_7 (L_X12_findsGaps_13 k_7 n) v1 v2 m
def J_X12_findsGaps_165 (k_119 : Int → Int → Mm → Rs) (k_138 : Int → Int → Int → Mm → Rs) (v1 : Int) (v2 : Int) (v3 : Int) (m : Mm) : Rs := nmv (wr (v3 + 1)) (fun x1 => (k_138 v1 v2 x1 m))
def LB_X12_findsGaps_138 (k_119 : Int → Int → Mm → Rs) (rec : Int → Int → Int → Mm → Rs) (v1 : Int) (v2 : Int) (v3 : Int) (m : Mm) : Rs := ald m 89 374 (wr ((wr ((wr (22 * v2)) + 22)) + v3)) (fun x1 => if x1 = 0 then (J_X12_findsGaps_165 k_119 rec v1 v2 v3 m) else cll (F_X12_follows v2 v1 v3 m) (fun r3 m4 => if ¬ r3 = 0 then ast m4 88 16 v2 v3 (fun m6 => nmv v3 (fun x7 => nmv (wr (v2 + 1)) (fun x8 => (k_119 x7 x8 m6)))) else (J_X12_findsGaps_165 k_119 rec v1 v2 v3 m4)))
def L_X12_findsGaps_138 (k_119 : Int → Int → Mm → Rs) : Nat → Int → Int → Int → Mm → Rs
  | 0, _, _, _, _ => none
  | n + 1, v1, v2, v3, m => LB_X12_findsGaps_138 k_119 (L_X12_findsGaps_138 k_119 n) v1 v2 v3 m
def LB_X12_findsGaps_119 (rec : Int → Int → Mm → Rs) (v1 : Int) (v2 : Int) (m : Mm) : Rs := if (m 54 63) ≤ v2 then some (0, m) else if ¬ v2 = 0 then nmv 1 (fun x3 => (L_X12_findsGaps_138 rec 100000 v1 v2 x3 m)) else nmv 21 (fun x4 => (L_X12_findsGaps_138 rec 100000 v1 v2 x4 m))
def L_X12_findsGaps_119 : Nat → Int → Int → Mm → Rs
  | 0, _, _, _ => none
  | n + 1, v1, v2, m => LB_X12_findsGaps_119 (L_X12_findsGaps_119 n) v1 v2 m
def LB_X12_findsGaps_7 (rec : Int → Mm → Rs) (v1 : Int) (m : Mm) : Rs := if v1 ≤ 0 then nmv 21 (fun x2 => nmv 0 (fun x3 => (L_X12_findsGaps_119 100000 x2 x3 m))) else nmv 1 (fun x4 => (L_X12_findsGaps_13 rec 100000 v1 x4 m))
def L_X12_findsGaps_7 : Nat → Int → Mm → Rs
  | 0, _, _ => none
  | n + 1, v1, m => LB_X12_findsGaps_7 (L_X12_findsGaps_7 n) v1 m
def F_X12_findsGaps (m : Mm) : Rs := nmv (wr ((m 54 63) - 1)) (fun x1 => (L_X12_findsGaps_7 100000 x1 m))
def LB_X12_sizeOf_4 (rec : Int → Int → Mm → Rs) (v1 : Int) (v2 : Int) (m : Mm) : Rs := if v2 = 0 then some (v1, m) else nmv (wr (v1 + 1)) (fun x2 => nmv (iand v2 (wr (v2 - 1))) (fun x3 => (rec x2 x3 m)))
def L_X12_sizeOf_4 : Nat → Int → Int → Mm → Rs
  | 0, _, _, _ => none
  | n + 1, v1, v2, m => LB_X12_sizeOf_4 (L_X12_sizeOf_4 n) v1 v2 m
def F_X12_sizeOf (a1 : Int) (m : Mm) : Rs := nmv 0 (fun x1 => nmv a1 (fun x2 => (L_X12_sizeOf_4 100000 x1 x2 m)))
def F_X12_areMouths (a1 : Int) (m : Mm) : Rs := cll (F_X12_lies a1 1 (wr ((ishl 1 (m 54 2)) - 1)) m) (fun r1 m2 => some (r1, m2))
def J_X12_soonest_56 (k_24 : Int → Int → Int → Int → Mm → Rs) (v1 : Int) (v2 : Int) (v3 : Int) (v4 : Int) (m : Mm) : Rs := nmv (wr (v4 + 1)) (fun x1 => (k_24 v1 v2 v3 x1 m))
def J_X12_soonest_103 (v1 : Int) (v2 : Int) (m : Mm) : Rs := cll (F_X12_laysCrowd v1 m) (fun r1 m2 => cll (F_X12_laysSoon m2) (fun r3 m4 => cll (F_X12_soonPlace 0 4 21 m4) (fun r5 m6 => ald m6 86 68750 r5 (fun x7 => nmv x7 (fun x8 => if ¬ x8 = 1000000000 then if ¬ v2 = (-1) then cll (F_X12_findsWho m6) (fun r11 m12 => cll (F_X12_findsGaps m12) (fun r13 m14 => if 200 ≤ v2 then ald m14 88 16 (wr (v2 - 200)) (fun x16 => cll (F_X12_gapOf x16 m14) (fun r17 m18 => some (r17, m18))) else ald m14 87 16 (wr (v2 - 100)) (fun x19 => ald m14 84 4 x19 (fun x20 => some (x20, m14))))) else some (x8, m6) else some ((-2), m6))))))
def LB_X12_soonest_24 (rec : Int → Int → Int → Int → Mm → Rs) (v1 : Int) (v2 : Int) (v3 : Int) (v4 : Int) (m : Mm) : Rs := if (m 54 2) ≤ v4 then if v2 = (-1) then (J_X12_soonest_103 v1 v2 m) else cll (F_X12_lies v2 100 (wr (99 + v3)) m) (fun r3 m4 => if ¬ r3 = 0 then (J_X12_soonest_103 v1 v2 m4) else cll (F_X12_lies v2 200 (wr (199 + v3)) m4) (fun r6 m7 => if ¬ r6 = 0 then (J_X12_soonest_103 v1 v2 m7) else some ((-3), m7))) else cll (F_X12_has v1 v4 m) (fun r9 m10 => if r9 = 0 then nmv (wr (v3 + 0)) (fun x12 => (J_X12_soonest_56 rec v1 v2 x12 v4 m10)) else ald m10 59 8 v4 (fun x13 => nmv (wr (v3 + x13)) (fun x14 => (J_X12_soonest_56 rec v1 v2 x14 v4 m10))))
def L_X12_soonest_24 : Nat → Int → Int → Int → Int → Mm → Rs
  | 0, _, _, _, _, _ => none
  | n + 1, v1, v2, v3, v4, m => LB_X12_soonest_24 (L_X12_soonest_24 n) v1 v2 v3 v4 m
def F_X12_soonest (a1 : Int) (a2 : Int) (m : Mm) : Rs := cll (F_X12_areMouths a1 m) (fun r1 m2 => if r1 = 0 then some ((-3), m2) else cll (F_X12_sizeOf a1 m2) (fun r4 m5 => if r4 ≤ 4 then nmv 0 (fun x7 => nmv 0 (fun x8 => (L_X12_soonest_24 100000 a1 a2 x7 x8 m5))) else some ((-3), m5)))
def F_X12_nextOf (a1 : Int) (m : Mm) : Rs := ald m 90 8 a1 (fun x1 => ald m 59 8 a1 (fun x2 => if x2 ≤ x1 then some (0, m) else ald m 90 8 a1 (fun x4 => ald m 60 32 (wr ((wr (4 * a1)) + x4)) (fun x5 => some (x5, m)))))
def J_X12_wish_74 (m : Mm) : Rs := cll (F_X12_tells 114 1000 m) (fun r1 m2 => some (r1, m2))
def F_X12_wish (a1 : Int) (a2 : Int) (a3 : Int) (a4 : Int) (m : Mm) : Rs := ald m 90 8 a1 (fun x1 => ald m 59 8 a1 (fun x2 => if ¬ x1 = x2 then cll (F_X12_means a1 a2 a1 a3 a4 0 m) (fun r4 m5 => nmv r4 (fun x6 => ald m5 59 8 a1 (fun x7 => ald m5 90 8 a1 (fun x8 => stf m5 54 43 (wr (x7 - x8)) (fun m9 => cll (F_X12_nextOf a1 m9) (fun r10 m11 => stf m11 54 44 r10 (fun m12 => if ¬ x6 = (m12 54 44) then stf m12 54 45 0 (fun m14 => (J_X12_wish_74  m14)) else stf m12 54 45 1 (fun m15 => (J_X12_wish_74  m15))))))))) else some (0, m)))
def J_X12_byRules_80 (k_40 : Int → Int → Int → Int → Int → Mm → Rs) (v1 : Int) (v2 : Int) (v3 : Int) (v4 : Int) (v5 : Int) (m : Mm) : Rs := nmv (wr (v5 + 1)) (fun x1 => (k_40 v1 v2 v3 v4 x1 m))
def J_X12_byRules_211 (k_109 : Int → Int → Int → Int → Int → Int → Int → Int → Int → Int → Int → Mm → Rs) (k_157 : Int → Int → Int → Int → Int → Int → Int → Int → Int → Int → Int → Int → Int → Int → Int → Mm → Rs) (v1 : Int) (v2 : Int) (v3 : Int) (v4 : Int) (v5 : Int) (v6 : Int) (v7 : Int) (v8 : Int) (v9 : Int) (v10 : Int) (v11 : Int) (v12 : Int) (v13 : Int) (v14 : Int) (v15 : Int) (m : Mm) : Rs := nmv (wr (v15 + 1)) (fun x1 => (k_157 v1 v2 v3 v4 v5 v6 v7 v8 v9 v10 v11 v12 v13 v14 x1 m))
def J_X12_byRules_193 (k_109 : Int → Int → Int → Int → Int → Int → Int → Int → Int → Int → Int → Mm → Rs) (k_157 : Int → Int → Int → Int → Int → Int → Int → Int → Int → Int → Int → Int → Int → Int → Int → Mm → Rs) (v1 : Int) (v2 : Int) (v3 : Int) (v4 : Int) (v5 : Int) (v6 : Int) (v7 : Int) (v8 : Int) (v9 : Int) (v10 : Int) (v11 : Int) (v12 : Int) (v13 : Int) (v14 : Int) (v15 : Int) (v16 : Int) (m : Mm) : Rs := if v14 < v16 then nmv v15 (fun x2 => nmv v16 (fun x3 => (J_X12_byRules_211 k_109 k_157 v1 v2 v3 v4 v5 v6 v7 v8 v9 v10 v11 v12 x2 x3 v15 m))) else (J_X12_byRules_211 k_109 k_157 v1 v2 v3 v4 v5 v6 v7 v8 v9 v10 v11 v12 v13 v14 v15 m)
def J_X12_byRules_286 (k_109 : Int → Int → Int → Int → Int → Int → Int → Int → Int → Int → Int → Mm → Rs) (v1 : Int) (v2 : Int) (v3 : Int) (v4 : Int) (v5 : Int) (v6 : Int) (v7 : Int) (v8 : Int) (v9 : Int) (v10 : Int) (v11 : Int) (m : Mm) : Rs := nmv (wr (v11 + 1)) (fun x1 => (k_109 v1 v2 v3 v4 v5 v6 v7 v8 v9 v10 x1 m))
def J_X12_byRules_271 (k_109 : Int → Int → Int → Int → Int → Int → Int → Int → Int → Int → Int → Mm → Rs) (v1 : Int) (v2 : Int) (v3 : Int) (v4 : Int) (v8 : Int) (v9 : Int) (v10 : Int) (v11 : Int) (v12 : Int) (v13 : Int) (m : Mm) : Rs := nmv (wr (v9 + 1)) (fun x1 => nmv v13 (fun x2 => nmv v12 (fun x3 => nmv v11 (fun x4 => (J_X12_byRules_286 k_109 v1 v2 v3 v4 x2 x3 x4 v8 x1 v10 v11 m)))))
def LB_X12_byRules_157 (k_109 : Int → Int → Int → Int → Int → Int → Int → Int → Int → Int → Int → Mm → Rs) (rec : Int → Int → Int → Int → Int → Int → Int → Int → Int → Int → Int → Int → Int → Int → Int → Mm → Rs) (v1 : Int) (v2 : Int) (v3 : Int) (v4 : Int) (v5 : Int) (v6 : Int) (v7 : Int) (v8 : Int) (v9 : Int) (v10 : Int) (v11 : Int) (v12 : Int) (v13 : Int) (v14 : Int) (v15 : Int) (m : Mm) : Rs := if (m 54 2) ≤ v15 then if ¬ v13 = (-1) then cll (F_X12_means v13 v12 v13 v5 v6 0 m) (fun r3 m4 => cll (F_X12_nextOf v13 m4) (fun r5 m6 => if ¬ r3 = r5 then (J_X12_byRules_271 k_109 v1 v2 v3 v4 v8 v9 v10 v11 v12 v13 m6) else ald m6 90 8 v13 (fun x8 => ast m6 90 8 v13 (wr (x8 + 1)) (fun m9 => nmv (wr (v8 + 1)) (fun x10 => nmv (wr (v4 + (-1))) (fun x11 => nmv v11 (fun x12 => (J_X12_byRules_271 k_109 v1 v2 v3 x11 x10 v9 x12 v11 v12 v13 m9)))))))) else (J_X12_byRules_286 k_109 v1 v2 v3 v4 v5 v6 v7 v8 v9 v10 v11 m) else cll (F_X12_has v1 v15 m) (fun r13 m14 => if r13 = 0 then nmv 0 (fun x16 => (J_X12_byRules_193 k_109 rec v1 v2 v3 v4 v5 v6 v7 v8 v9 v10 v11 v12 v13 v14 v15 x16 m14)) else cll (F_X12_wish v15 v12 v5 v6 m14) (fun r17 m18 => nmv r17 (fun x19 => (J_X12_byRules_193 k_109 rec v1 v2 v3 v4 v5 v6 v7 v8 v9 v10 v11 v12 v13 v14 v15 x19 m18))))
def L_X12_byRules_157 (k_109 : Int → Int → Int → Int → Int → Int → Int → Int → Int → Int → Int → Mm → Rs) : Nat → Int → Int → Int → Int → Int → Int → Int → Int → Int → Int → Int → Int → Int → Int → Int → Mm → Rs
  | 0, _, _, _, _, _, _, _, _, _, _, _, _, _, _, _, _ => none
  | n + 1, v1, v2, v3, v4, v5, v6, v7, v8, v9, v10, v11, v12, v13, v14, v15, m => LB_X12_byRules_157 k_109 (L_X12_byRules_157 k_109 n) v1 v2 v3 v4 v5 v6 v7 v8 v9 v10 v11 v12 v13 v14 v15 m
def J_X12_byRules_148 (k_109 : Int → Int → Int → Int → Int → Int → Int → Int → Int → Int → Int → Mm → Rs) (v1 : Int) (v2 : Int) (v3 : Int) (v4 : Int) (v5 : Int) (v6 : Int) (v7 : Int) (v8 : Int) (v9 : Int) (v10 : Int) (v11 : Int) (v12 : Int) (m : Mm) : Rs := nmv (-1) (fun x1 => nmv 0 (fun x2 => nmv 0 (fun x3 => (L_X12_byRules_157 k_109 100000 v1 v2 v3 v4 v5 v6 v7 v8 v9 v10 v11 v12 x1 x2 x3 m))))
def J_X12_byRules_136 (k_109 : Int → Int → Int → Int → Int → Int → Int → Int → Int → Int → Int → Mm → Rs) (v1 : Int) (v2 : Int) (v3 : Int) (v4 : Int) (v5 : Int) (v6 : Int) (v7 : Int) (v8 : Int) (v9 : Int) (v10 : Int) (v11 : Int) (m : Mm) : Rs := nmv 63 (fun x1 => (J_X12_byRules_148 k_109 v1 v2 v3 v4 v5 v6 v7 v8 v9 v10 v11 x1 m))
def J_X12_byRules_292 (v3 : Int) (v4 : Int) (v8 : Int) (v9 : Int) (v10 : Int) (m : Mm) : Rs := if ¬ v3 = 0 then if ¬ v3 = 1 then some (v9, m) else some (v8, m) else if v4 ≤ 0 then some (v10, m) else some ((-2), m)
def LB_X12_byRules_109 (rec : Int → Int → Int → Int → Int → Int → Int → Int → Int → Int → Int → Mm → Rs) (v1 : Int) (v2 : Int) (v3 : Int) (v4 : Int) (v5 : Int) (v6 : Int) (v7 : Int) (v8 : Int) (v9 : Int) (v10 : Int) (v11 : Int) (m : Mm) : Rs := if v2 ≤ v11 then (J_X12_byRules_292 v3 v4 v8 v9 v10 m) else if v4 ≤ 0 then (J_X12_byRules_292 v3 v4 v8 v9 v10 m) else if v7 = (-1) then (J_X12_byRules_136 rec v1 v2 v3 v4 v5 v6 v7 v8 v9 v10 v11 m) else if (wr (v11 - v7)) ≤ 63 then nmv (wr (v11 - v7)) (fun x5 => (J_X12_byRules_148 rec v1 v2 v3 v4 v5 v6 v7 v8 v9 v10 v11 x5 m)) else (J_X12_byRules_136 rec v1 v2 v3 v4 v5 v6 v7 v8 v9 v10 v11 m)
def L_X12_byRules_109 : Nat → Int → Int → Int → Int → Int → Int → Int → Int → Int → Int → Int → Mm → Rs
  | 0, _, _, _, _, _, _, _, _, _, _, _, _ => none
  | n + 1, v1, v2, v3, v4, v5, v6, v7, v8, v9, v10, v11, m => LB_X12_byRules_109 (L_X12_byRules_109 n) v1 v2 v3 v4 v5 v6 v7 v8 v9 v10 v11 m
def LB_X12_byRules_40 (rec : Int → Int → Int → Int → Int → Mm → Rs) (v1 : Int) (v2 : Int) (v3 : Int) (v4 : Int) (v5 : Int) (m : Mm) : Rs := if 8 ≤ v5 then nmv 8 (fun x2 => nmv 63 (fun x3 => nmv (-1) (fun x4 => nmv 0 (fun x5 => nmv 0 (fun x6 => nmv 0 (fun x7 => nmv 0 (fun x8 => (L_X12_byRules_109 100000 v1 v2 v3 v4 x2 x3 x4 x5 x6 x7 x8 m)))))))) else ast m 90 8 v5 0 (fun m9 => cll (F_X12_has v1 v5 m9) (fun r10 m11 => if r10 = 0 then nmv (wr (v4 + 0)) (fun x13 => (J_X12_byRules_80 rec v1 v2 v3 x13 v5 m11)) else ald m11 59 8 v5 (fun x14 => nmv (wr (v4 + x14)) (fun x15 => (J_X12_byRules_80 rec v1 v2 v3 x15 v5 m11)))))
def L_X12_byRules_40 : Nat → Int → Int → Int → Int → Int → Mm → Rs
  | 0, _, _, _, _, _, _ => none
  | n + 1, v1, v2, v3, v4, v5, m => LB_X12_byRules_40 (L_X12_byRules_40 n) v1 v2 v3 v4 v5 m
def F_X12_byRules (a1 : Int) (a2 : Int) (a3 : Int) (m : Mm) : Rs := cll (F_X12_areMouths a1 m) (fun r1 m2 => if r1 = 0 then some ((-1), m2) else cll (F_X12_lies a2 1 400 m2) (fun r4 m5 => if r4 = 0 then some ((-1), m5) else cll (F_X12_lies a3 0 2 m5) (fun r7 m8 => if ¬ r7 = 0 then nmv 0 (fun x10 => nmv 0 (fun x11 => (L_X12_byRules_40 100000 a1 a2 a3 x10 x11 m8))) else some ((-1), m8))))
def J_X12_table_158 (k_89 : Int → Int → Int → Int → Int → Mm → Rs) (k_101 : Int → Int → Int → Int → Int → Int → Int → Mm → Rs) (v1 : Int) (v2 : Int) (v3 : Int) (v4 : Int) (v5 : Int) (v6 : Int) (v7 : Int) (m : Mm) : Rs := nmv (wr (v7 + 1)) (fun x1 => (k_101 v1 v2 v3 v4 v5 v6 x1 m))
def LB_X12_table_101 (k_89 : Int → Int → Int → Int → Int → Mm → Rs) (rec : Int → Int → Int → Int → Int → Int → Int → Mm → Rs) (v1 : Int) (v2 : Int) (v3 : Int) (v4 : Int) (v5 : Int) (v6 : Int) (v7 : Int) (m : Mm) : Rs := if v1 ≤ v7 then ast m 92 12 v5 (wr (1 + (wr (v2 * v6)))) (fun m2 => ald m2 91 12 v5 (fun x3 => ald m2 92 12 v5 (fun x4 => nmv (wr (v4 + (wr (x3 * x4)))) (fun x5 => nmv (wr (v5 + 1)) (fun x6 => (k_89 v1 v2 v3 x5 x6 m2)))))) else ald m 91 12 v7 (fun x7 => ald m 91 12 v5 (fun x8 => if x8 < x7 then nmv (wr (v6 + 1)) (fun x10 => (J_X12_table_158 k_89 rec v1 v2 v3 v4 v5 x10 v7 m)) else ald m 91 12 v7 (fun x11 => ald m 91 12 v5 (fun x12 => if ¬ x11 = x12 then nmv (wr (v6 + 0)) (fun x14 => (J_X12_table_158 k_89 rec v1 v2 v3 v4 v5 x14 v7 m)) else if v5 ≤ v7 then nmv (wr (v6 + 0)) (fun x16 => (J_X12_table_158 k_89 rec v1 v2 v3 v4 v5 x16 v7 m)) else nmv (wr (v6 + 1)) (fun x17 => (J_X12_table_158 k_89 rec v1 v2 v3 v4 v5 x17 v7 m))))))
def L_X12_table_101 (k_89 : Int → Int → Int → Int → Int → Mm → Rs) : Nat → Int → Int → Int → Int → Int → Int → Int → Mm → Rs
  | 0, _, _, _, _, _, _, _, _ => none
  | n + 1, v1, v2, v3, v4, v5, v6, v7, m => LB_X12_table_101 k_89 (L_X12_table_101 k_89 n) v1 v2 v3 v4 v5 v6 v7 m
def LB_X12_table_89 (rec : Int → Int → Int → Int → Int → Mm → Rs) (v1 : Int) (v2 : Int) (v3 : Int) (v4 : Int) (v5 : Int) (m : Mm) : Rs := if v1 ≤ v5 then if ¬ v3 = (-1) then ald m 92 12 (wr (v3 - 1)) (fun x3 => some (x3, m)) else some (v4, m) else nmv 0 (fun x4 => nmv 0 (fun x5 => (L_X12_table_101 rec 100000 v1 v2 v3 v4 v5 x4 x5 m)))
def L_X12_table_89 : Nat → Int → Int → Int → Int → Int → Mm → Rs
  | 0, _, _, _, _, _, _ => none
  | n + 1, v1, v2, v3, v4, v5, m => LB_X12_table_89 (L_X12_table_89 n) v1 v2 v3 v4 v5 m
def LB_X12_table_58 (rec : Int → Int → Int → Int → Mm → Rs) (v1 : Int) (v2 : Int) (v3 : Int) (v4 : Int) (m : Mm) : Rs := if v1 ≤ v4 then nmv 0 (fun x2 => nmv 0 (fun x3 => (L_X12_table_89 100000 v1 v2 v3 x2 x3 m))) else cll (F_X12_byteAt v4 m) (fun r4 m5 => ast m5 91 12 v4 r4 (fun m6 => nmv (wr (v4 + 1)) (fun x7 => (rec v1 v2 v3 x7 m6))))
def L_X12_table_58 : Nat → Int → Int → Int → Int → Mm → Rs
  | 0, _, _, _, _, _ => none
  | n + 1, v1, v2, v3, v4, m => LB_X12_table_58 (L_X12_table_58 n) v1 v2 v3 v4 m
def J_X12_table_40 (v1 : Int) (v2 : Int) (v3 : Int) (m : Mm) : Rs := if v1 ≤ (m 54 1) then stf m 54 1 0 (fun m2 => nmv 0 (fun x3 => (L_X12_table_58 100000 v1 v2 v3 x3 m2))) else some ((-1), m)
def F_X12_table (a1 : Int) (a2 : Int) (a3 : Int) (m : Mm) : Rs := cll (F_X12_lies a1 1 12 m) (fun r1 m2 => if r1 = 0 then some ((-1), m2) else cll (F_X12_lies a2 1 5 m2) (fun r4 m5 => if r4 = 0 then some ((-1), m5) else if a3 = (-1) then (J_X12_table_40 a1 a2 a3 m5) else cll (F_X12_lies a3 1 a1 m5) (fun r8 m9 => if r8 = 0 then some ((-1), m9) else (J_X12_table_40 a1 a2 a3 m9))))
def LB_X12_meaningFor_2 (rec : Int → Int → Int → Mm → Rs) (v1 : Int) (v2 : Int) (v3 : Int) (m : Mm) : Rs := if v1 ≤ v3 then some ((-1), m) else ald m 92 12 v3 (fun x2 => if ¬ x2 = v2 then nmv (wr (v3 + 1)) (fun x4 => (rec v1 v2 x4 m)) else some (v3, m))
def L_X12_meaningFor_2 : Nat → Int → Int → Int → Mm → Rs
  | 0, _, _, _, _ => none
  | n + 1, v1, v2, v3, m => LB_X12_meaningFor_2 (L_X12_meaningFor_2 n) v1 v2 v3 m
def F_X12_meaningFor (a1 : Int) (a2 : Int) (m : Mm) : Rs := nmv 0 (fun x1 => (L_X12_meaningFor_2 100000 a1 a2 x1 m))
def J_X12_alike_224 (k_120 : Int → Int → Int → Int → Int → Mm → Rs) (k_129 : Int → Int → Int → Int → Int → Int → Mm → Rs) (v1 : Int) (v2 : Int) (v3 : Int) (v4 : Int) (v5 : Int) (v6 : Int) (m : Mm) : Rs := nmv (wr (v6 + 1)) (fun x1 => (k_129 v1 v2 v3 v4 v5 x1 m))
def J_X12_alike_221 (k_120 : Int → Int → Int → Int → Int → Mm → Rs) (k_129 : Int → Int → Int → Int → Int → Int → Mm → Rs) (v1 : Int) (v2 : Int) (v3 : Int) (v4 : Int) (v5 : Int) (v6 : Int) (m : Mm) : Rs := nmv (wr (v3 + 1)) (fun x1 => (J_X12_alike_224 k_120 k_129 v1 v2 x1 v4 v5 v6 m))
def LB_X12_alike_129 (k_120 : Int → Int → Int → Int → Int → Mm → Rs) (rec : Int → Int → Int → Int → Int → Int → Mm → Rs) (v1 : Int) (v2 : Int) (v3 : Int) (v4 : Int) (v5 : Int) (v6 : Int) (m : Mm) : Rs := if v1 ≤ v6 then nmv (wr (v5 + 1)) (fun x2 => (k_120 v1 v2 v3 v4 x2 m)) else ald m 92 12 v5 (fun x3 => cll (F_X12_meaningFor v1 (wr (x3 + 1)) m) (fun r4 m5 => nmv r4 (fun x6 => ald m5 92 12 v6 (fun x7 => cll (F_X12_meaningFor v1 (wr (x7 - 1)) m5) (fun r8 m9 => nmv r8 (fun x10 => if x6 = (-1) then (J_X12_alike_224 k_120 rec v1 v2 v3 v4 v5 v6 m9) else if ¬ x10 = (-1) then if ¬ v3 = 0 then (J_X12_alike_221 k_120 rec v1 v2 v3 v4 v5 v6 m9) else if ¬ v2 = 0 then if ¬ v2 = 1 then if ¬ v2 = 2 then nmv (wr (1 + x10)) (fun x17 => (J_X12_alike_221 k_120 rec v1 v2 v3 x17 v5 v6 m9)) else nmv (wr (1 + x6)) (fun x18 => (J_X12_alike_221 k_120 rec v1 v2 v3 x18 v5 v6 m9)) else nmv (wr (1 + v6)) (fun x19 => (J_X12_alike_221 k_120 rec v1 v2 v3 x19 v5 v6 m9)) else nmv (wr (1 + v5)) (fun x20 => (J_X12_alike_221 k_120 rec v1 v2 v3 x20 v5 v6 m9)) else (J_X12_alike_224 k_120 rec v1 v2 v3 v4 v5 v6 m9)))))))
def L_X12_alike_129 (k_120 : Int → Int → Int → Int → Int → Mm → Rs) : Nat → Int → Int → Int → Int → Int → Int → Mm → Rs
  | 0, _, _, _, _, _, _, _ => none
  | n + 1, v1, v2, v3, v4, v5, v6, m => LB_X12_alike_129 k_120 (L_X12_alike_129 k_120 n) v1 v2 v3 v4 v5 v6 m
def LB_X12_alike_120 (rec : Int → Int → Int → Int → Int → Mm → Rs) (v1 : Int) (v2 : Int) (v3 : Int) (v4 : Int) (v5 : Int) (m : Mm) : Rs := if v1 ≤ v5 then if ¬ v2 = 4 then some (v4, m) else some (v3, m) else nmv 0 (fun x3 => (L_X12_alike_129 rec 100000 v1 v2 v3 v4 v5 x3 m))
def L_X12_alike_120 : Nat → Int → Int → Int → Int → Int → Mm → Rs
  | 0, _, _, _, _, _, _ => none
  | n + 1, v1, v2, v3, v4, v5, m => LB_X12_alike_120 (L_X12_alike_120 n) v1 v2 v3 v4 v5 m
def LB_X12_alike_65 (rec : Int → Int → Int → Mm → Rs) (v1 : Int) (v2 : Int) (v3 : Int) (m : Mm) : Rs := if v1 ≤ v3 then nmv 0 (fun x2 => nmv (-3) (fun x3 => nmv 0 (fun x4 => (L_X12_alike_120 100000 v1 v2 x2 x3 x4 m)))) else ald m 92 12 v3 (fun x5 => cll (F_X12_lies x5 1 63 m) (fun r6 m7 => if r6 = 0 then some ((-2), m7) else ald m7 92 12 v3 (fun x9 => cll (F_X12_meaningFor v1 x9 m7) (fun r10 m11 => if r10 = v3 then nmv (wr (v3 + 1)) (fun x13 => (rec v1 v2 x13 m11)) else some ((-2), m11)))))
def L_X12_alike_65 : Nat → Int → Int → Int → Mm → Rs
  | 0, _, _, _, _ => none
  | n + 1, v1, v2, v3, m => LB_X12_alike_65 (L_X12_alike_65 n) v1 v2 v3 m
def LB_X12_alike_41 (rec : Int → Int → Int → Mm → Rs) (v1 : Int) (v2 : Int) (v3 : Int) (m : Mm) : Rs := if v1 ≤ v3 then nmv 0 (fun x2 => (L_X12_alike_65 100000 v1 v2 x2 m)) else cll (F_X12_byteAt v3 m) (fun r3 m4 => ast m4 92 12 v3 r3 (fun m5 => nmv (wr (v3 + 1)) (fun x6 => (rec v1 v2 x6 m5))))
def L_X12_alike_41 : Nat → Int → Int → Int → Mm → Rs
  | 0, _, _, _, _ => none
  | n + 1, v1, v2, v3, m => LB_X12_alike_41 (L_X12_alike_41 n) v1 v2 v3 m
def F_X12_alike (a1 : Int) (a2 : Int) (m : Mm) : Rs := cll (F_X12_lies a1 1 12 m) (fun r1 m2 => if r1 = 0 then some ((-1), m2) else cll (F_X12_lies a2 0 4 m2) (fun r4 m5 => if r4 = 0 then some ((-1), m5) else if a1 ≤ (m5 54 1) then stf m5 54 1 0 (fun m8 => nmv 0 (fun x9 => (L_X12_alike_41 100000 a1 a2 x9 m8))) else some ((-1), m5)))
def F_X12_seed (a1 : Int) (m : Mm) : Rs := cll (F_X12_lies a1 0 65535 m) (fun r1 m2 => if ¬ r1 = 0 then stf m2 54 6 a1 (fun m4 => some (1, m4)) else some (0, m2))
def J_X12_draw_147 (k_44 : Int → Int → Int → Int → Mm → Rs) (v1 : Int) (v2 : Int) (v3 : Int) (v4 : Int) (m : Mm) : Rs := nmv (wr (v4 + 1)) (fun x1 => (k_44 v1 v2 v3 x1 m))
def LB_X12_draw_44 (rec : Int → Int → Int → Int → Mm → Rs) (v1 : Int) (v2 : Int) (v3 : Int) (v4 : Int) (m : Mm) : Rs := if v1 ≤ v4 then some (v3, m) else dvn 65536 (stf m 54 6 (wr ((wr ((wr (25173 * (m 54 6))) + 13849)).tmod 65536)) (fun m3 => dvn 8 (nmv (wr ((m3 54 6).tmod 8)) (fun x5 => cll (F_X12_isMouth x5 m3) (fun r6 m7 => if r6 = 0 then (J_X12_draw_147 rec v1 v2 v3 v4 m7) else dvn 8 (dvn 1000 (ald m7 58 8 x5 (fun x11 => if x11 ≤ (wr ((wr ((m7 54 6).tdiv 8)).tmod 1000)) then (J_X12_draw_147 rec v1 v2 v3 v4 m7) else if 9999 < (wr (v2 + v4)) then (J_X12_draw_147 rec v1 v2 v3 v4 m7) else if ¬ (m7 54 5) = 150 then cll (F_X12_say x5 (wr (v2 + v4)) m7) (fun r15 m16 => nmv r15 (fun x17 => nmv (wr (v3 + 1)) (fun x18 => (J_X12_draw_147 rec v1 v2 x18 v4 m16)))) else (J_X12_draw_147 rec v1 v2 v3 v4 m7)))))))))
def L_X12_draw_44 : Nat → Int → Int → Int → Int → Mm → Rs
  | 0, _, _, _, _, _ => none
  | n + 1, v1, v2, v3, v4, m => LB_X12_draw_44 (L_X12_draw_44 n) v1 v2 v3 v4 m
def J_X12_draw_39 (v1 : Int) (v2 : Int) (m : Mm) : Rs := nmv 0 (fun x1 => nmv 0 (fun x2 => (L_X12_draw_44 100000 v1 v2 x1 x2 m)))
def F_X12_draw (a1 : Int) (m : Mm) : Rs := cll (F_X12_lies a1 1 200 m) (fun r1 m2 => if ¬ r1 = 0 then if ¬ (m2 54 5) = 0 then ald m2 62 150 (wr ((m2 54 5) - 1)) (fun x5 => nmv (wr (x5 + 1)) (fun x6 => (J_X12_draw_39 a1 x6 m2))) else nmv 0 (fun x7 => (J_X12_draw_39 a1 x7 m2)) else some ((-1), m2))
def LB_X12_keep_23 (rec : Int → Mm → Rs) (v1 : Int) (m : Mm) : Rs := if 150 ≤ v1 then some ((m 54 5), m) else ald m 61 150 v1 (fun x2 => ast m 93 150 v1 x2 (fun m3 => ald m3 62 150 v1 (fun x4 => ast m3 94 150 v1 x4 (fun m5 => nmv (wr (v1 + 1)) (fun x6 => (rec x6 m5))))))
def L_X12_keep_23 : Nat → Int → Mm → Rs
  | 0, _, _ => none
  | n + 1, v1, m => LB_X12_keep_23 (L_X12_keep_23 n) v1 m
def F_X12_keep (m : Mm) : Rs := stf m 54 68 1 (fun m1 => stf m1 54 69 (m1 54 5) (fun m2 => stf m2 54 70 (m2 54 6) (fun m3 => nmv 0 (fun x4 => (L_X12_keep_23 100000 x4 m3)))))
def LB_X12_undo_27 (rec : Int → Mm → Rs) (v1 : Int) (m : Mm) : Rs := if 150 ≤ v1 then some (1, m) else ald m 93 150 v1 (fun x2 => ast m 61 150 v1 x2 (fun m3 => ald m3 94 150 v1 (fun x4 => ast m3 62 150 v1 x4 (fun m5 => nmv (wr (v1 + 1)) (fun x6 => (rec x6 m5))))))
def L_X12_undo_27 : Nat → Int → Mm → Rs
  | 0, _, _ => none
  | n + 1, v1, m => LB_X12_undo_27 (L_X12_undo_27 n) v1 m
def F_X12_undo (m : Mm) : Rs := if ¬ (m 54 68) = 0 then stf m 54 5 (m 54 69) (fun m2 => stf m2 54 6 (m2 54 70) (fun m3 => nmv 0 (fun x4 => (L_X12_undo_27 100000 x4 m3)))) else some (0, m)
def F_X12_quiet (m : Mm) : Rs := nmv (m 54 5) (fun x1 => stf m 54 5 0 (fun m2 => some (x1, m2)))
def LB_X12_numberAt_4 (rec : Int → Int → Int → Mm → Rs) (v1 : Int) (v2 : Int) (v3 : Int) (m : Mm) : Rs := if 4 ≤ v3 then some (v2, m) else ald m 55 220 (wr ((wr (4 * v1)) + v3)) (fun x2 => nmv (ior (ishl v2 8) (iand x2 255)) (fun x3 => nmv (wr (v3 + 1)) (fun x4 => (rec v1 x3 x4 m))))
def L_X12_numberAt_4 : Nat → Int → Int → Int → Mm → Rs
  | 0, _, _, _, _ => none
  | n + 1, v1, v2, v3, m => LB_X12_numberAt_4 (L_X12_numberAt_4 n) v1 v2 v3 m
def F_X12_numberAt (a1 : Int) (m : Mm) : Rs := nmv 0 (fun x1 => nmv 0 (fun x2 => (L_X12_numberAt_4 100000 a1 x1 x2 m)))
def LB_X12_check_37 (rec : Int → Int → Int → Mm → Rs) (v1 : Int) (v2 : Int) (v3 : Int) (m : Mm) : Rs := if (m 54 48) ≤ v3 then if ¬ v2 = (m 54 48) then some ((m 54 48), m) else some ((-1), m) else if ¬ v3 = v2 then cll (F_X12_numberAt v3 m) (fun r4 m5 => cll (F_X12_meaningAt v1 v3 m5) (fun r6 m7 => if r4 = r6 then nmv (wr (v3 + 1)) (fun x9 => (rec v1 v2 x9 m7)) else some (v3, m7))) else some (v2, m)
def L_X12_check_37 : Nat → Int → Int → Int → Mm → Rs
  | 0, _, _, _, _ => none
  | n + 1, v1, v2, v3, m => LB_X12_check_37 (L_X12_check_37 n) v1 v2 v3 m
def F_X12_check (a1 : Int) (a2 : Int) (m : Mm) : Rs := cll (F_X12_isMouth a1 m) (fun r1 m2 => if r1 = 0 then some ((-2), m2) else if a2 < 0 then some ((-2), m2) else dvn 4 (if a2 ≤ (wr ((m2 54 1).tdiv 4)) then stf m2 54 1 0 (fun m7 => cll (F_X12_laysHearings a1 m7) (fun r8 m9 => nmv 0 (fun x10 => (L_X12_check_37 100000 a1 a2 x10 m9)))) else some ((-2), m2)))
def F_X12_count (a1 : Int) (m : Mm) : Rs := cll (F_X12_lies a1 10 (wr (9 + (m 54 2))) m) (fun r1 m2 => if r1 = 0 then cll (F_X12_lies a1 20 (wr (19 + (wr (4 * (m2 54 2))))) m2) (fun r4 m5 => if r4 = 0 then if a1 = 0 then some ((m5 54 2), m5) else if a1 = 1 then some ((m5 54 5), m5) else if a1 = 2 then some ((m5 54 14), m5) else if a1 = 3 then some ((m5 54 1), m5) else if a1 = 4 then some ((m5 54 6), m5) else if a1 = 5 then some ((m5 54 3), m5) else if a1 = 6 then some ((m5 54 4), m5) else some ((-1), m5) else dvn 4 (dvn 4 (ald m5 59 8 (wr ((wr (a1 - 20)).tdiv 4)) (fun x16 => if x16 ≤ (wr ((wr (a1 - 20)).tmod 4)) then some ((-1), m5) else ald m5 60 32 (wr (a1 - 20)) (fun x18 => some (x18, m5)))))) else ald m2 59 8 (wr (a1 - 10)) (fun x19 => some (x19, m2)))

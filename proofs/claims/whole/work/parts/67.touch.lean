/-! touch, of both. -/
theorem step_min (W : Vw) (i : Nat) (y : Int) (h1 : -5 ≤ y) (h2 : y ≤ 5) : (W.step (16 * i + (y + 6).toNat)).minute i = (W.minute i + y) % 60 := by
  rw [step_T (by omega)]
  show (if i = (16 * i + (y + 6).toNat) / 16 then (W.minute i + (((16 * i + (y + 6).toNat) % 16 : Nat) : Int) - 6) % 60 else W.minute i) = _
  rw [if_pos (by omega), show (16 * i + (y + 6).toNat) % 16 = (y + 6).toNat by omega, show W.minute i + (((y + 6).toNat : Nat) : Int) - 6 = W.minute i + y by omega]
section ZR
variable (M : Nat → Nat → Int32) (L : Nat → Nat → Int64)
theorem s_109B (W : Vw) (hk : Vk W) (hv : Hv W M) (z y : Int) (h1 : -2147483648 ≤ z) (h2 : z ≤ 2147483647) (h3 : -2147483648 ≤ y) (h4 : y ≤ 2147483647) (h : ¬ ((0 ≤ z ∧ z < W.n) ∧ (y ≠ 0 ∧ -5 ≤ y ∧ y ≤ 5))) : zc 6 109 [.ref 0, .int (iI z), .int (iI y)] M L (some (.int (iI (-1)))) M L := by
  refine zc_of (n := 5) (ls := [some (.ref 0), some (.int (iI z)), some (.int (iI y))]) mk_109 rfl rfl rfl rfl (fun d hd N xs => ?_)
  simp (disch := first | omega | assumption) only [b_109_0, b_109_1, b_109_2, g_31 M L W hk hv, iI_lit, iI_neg, iI_add, iI_sub, iI_mul, t_lt, t_le, t_eq, iI_to, b2_to, if_10, if_11, nor_em, Decidable.not_not, Int.reduceEq, Int.reduceLT, Int.reduceLE, Int.reduceAdd, Int.reduceSub, Int.reduceMul, Int.reduceNeg, reduceIte, or_true, true_or, or_false, false_or, o_some]
  repeat' split
  all_goals first | rfl | (exfalso; omega)
theorem g_109B (W : Vw) (hk : Vk W) (hv : Hv W M) (z y : Int) (h1 : -2147483648 ≤ z) (h2 : z ≤ 2147483647) (h3 : -2147483648 ≤ y) (h4 : y ≤ 2147483647) (h : ¬ ((0 ≤ z ∧ z < W.n) ∧ (y ≠ 0 ∧ -5 ≤ y ∧ y ≤ 5))) {d N : Nat} {xs : Nat → Int32} {tb_ : List zz_B} {t_ : Nat} {ls_ : zz_L} {rest_ : List Value} (hd_ : 6 ≤ d) : (zz_o (zz_call_ d 109 [.ref 0, .int (iI z), .int (iI y)] (zm N xs M L)) fun r => zz_X (zz_call_ d) tb_ t_ ls_ (r.1.toList ++ rest_) r.2) = zz_X (zz_call_ d) tb_ t_ ls_ ((.int (iI (-1))) :: rest_) (zm N xs M L) := (s_109B M L W hk hv z y h1 h2 h3 h4 h).go hd_
theorem s_109T (W : Vw) (hk : Vk W) (hv : Hv W M) (i : Nat) (y : Int) (hi : i < W.n) (hy : y ≠ 0) (h1 : -5 ≤ y) (h2 : y ≤ 5) (ht : W.tset.testBit i = true) : zc 6 109 [.ref 0, .int (iI i), .int (iI y)] M L (some (.int (iI (-4)))) M L := by
  refine zc_of (n := 5) (ls := [some (.ref 0), some (.int (iI i)), some (.int (iI y))]) mk_109 rfl rfl rfl rfl (fun d hd N xs => ?_)
  have hn := hk.n
  simp (disch := first | omega | assumption) only [b_109_0, b_109_1, g_31 M L W hk hv, iI_lit, iI_neg, iI_add, iI_sub, iI_mul, t_lt, t_le, t_eq, iI_to, b2_to, if_10, if_11, nor_em, Decidable.not_not, Int.reduceEq, Int.reduceLT, Int.reduceLE, Int.reduceAdd, Int.reduceSub, Int.reduceMul, Int.reduceNeg, reduceIte, or_true, true_or, or_false, false_or, o_some]
  rw [if_neg (by omega), if_neg (by omega), if_neg (by omega), if_pos (by omega), b_109_3, g_38 M L W hk hv i hi (by omega), b2_t ht, b_109_4, iI_lit 0, if_neg iI10]
  rfl
theorem g_109T (W : Vw) (hk : Vk W) (hv : Hv W M) (i : Nat) (y : Int) (hi : i < W.n) (hy : y ≠ 0) (h1 : -5 ≤ y) (h2 : y ≤ 5) (ht : W.tset.testBit i = true) {d N : Nat} {xs : Nat → Int32} {tb_ : List zz_B} {t_ : Nat} {ls_ : zz_L} {rest_ : List Value} (hd_ : 6 ≤ d) : (zz_o (zz_call_ d 109 [.ref 0, .int (iI i), .int (iI y)] (zm N xs M L)) fun r => zz_X (zz_call_ d) tb_ t_ ls_ (r.1.toList ++ rest_) r.2) = zz_X (zz_call_ d) tb_ t_ ls_ ((.int (iI (-4))) :: rest_) (zm N xs M L) := (s_109T M L W hk hv i y hi hy h1 h2 ht).go hd_
theorem s_109F (W : Vw) (hk : Vk W) (hv : Hv W M) (i : Nat) (y : Int) (hi : i < W.n) (hy : y ≠ 0) (h1 : -5 ≤ y) (h2 : y ≤ 5) (ht : ¬ W.tset.testBit i = true) (h13 : M 23 13 = iI ((40 : Nat) : Int)) : zc 6 109 [.ref 0, .int (iI i), .int (iI y)] M L (some (.int (iI (-2)))) M L := by
  refine zc_of (n := 5) (ls := [some (.ref 0), some (.int (iI i)), some (.int (iI y))]) mk_109 rfl rfl rfl rfl (fun d hd N xs => ?_)
  have hn := hk.n
  simp (disch := first | omega | assumption) only [b_109_0, b_109_1, g_31 M L W hk hv, iI_lit, iI_neg, iI_add, iI_sub, iI_mul, t_lt, t_le, t_eq, iI_to, b2_to, if_10, if_11, nor_em, Decidable.not_not, Int.reduceEq, Int.reduceLT, Int.reduceLE, Int.reduceAdd, Int.reduceSub, Int.reduceMul, Int.reduceNeg, reduceIte, or_true, true_or, or_false, false_or, o_some]
  rw [if_neg (by omega), if_neg (by omega), if_neg (by omega), if_pos (by omega), b_109_3, g_38 M L W hk hv i hi (by omega), b2_f ht, b_109_4, iI_lit 0, if_pos rfl, b_109_5, show (1 : Int32) = iI ((1 : Nat) : Int) from rfl, g_51 M L 40 1 h13 (by omega) (by omega) (by omega), b2_f (by omega), b_109_6, iI_lit 0, if_pos rfl]
  rfl
theorem g_109F (W : Vw) (hk : Vk W) (hv : Hv W M) (i : Nat) (y : Int) (hi : i < W.n) (hy : y ≠ 0) (h1 : -5 ≤ y) (h2 : y ≤ 5) (ht : ¬ W.tset.testBit i = true) (h13 : M 23 13 = iI ((40 : Nat) : Int)) {d N : Nat} {xs : Nat → Int32} {tb_ : List zz_B} {t_ : Nat} {ls_ : zz_L} {rest_ : List Value} (hd_ : 6 ≤ d) : (zz_o (zz_call_ d 109 [.ref 0, .int (iI i), .int (iI y)] (zm N xs M L)) fun r => zz_X (zz_call_ d) tb_ t_ ls_ (r.1.toList ++ rest_) r.2) = zz_X (zz_call_ d) tb_ t_ ls_ ((.int (iI (-2))) :: rest_) (zm N xs M L) := (s_109F M L W hk hv i y hi hy h1 h2 ht h13).go hd_
theorem s_109O (W : Vw) (hk : Vk W) (hv : Hv W M) (i : Nat) (y : Int) (hi : i < W.n) (hy : y ≠ 0) (h1 : -5 ≤ y) (h2 : y ≤ 5) (ht : ¬ W.tset.testBit i = true) (m : Nat) (hm : m < 40) (hd40 : W.day < 40) (h13 : M 23 13 = iI m) : zc 6 109 [.ref 0, .int (iI i), .int (iI y)] M L (some (.int (iI ((W.minute i + y) % 60)))) (pf W M m (16 * i + (y + 6).toNat)) L := by
  refine zc_of (n := 5) (ls := [some (.ref 0), some (.int (iI i)), some (.int (iI y))]) mk_109 rfl rfl rfl rfl (fun d hd N xs => ?_)
  have hn := hk.n
  have hp := pf_h hk hv m (16 * i + (y + 6).toNat)
  have hk2 : Vk (W.step (16 * i + (y + 6).toNat)) := step_k hk hd40 (Or.inr (by omega))
  have hb := hk2.minute i
  simp (disch := first | omega | assumption) only [b_109_0, b_109_1, g_31 M L W hk hv, iI_lit, iI_neg, iI_add, iI_sub, iI_mul, t_lt, t_le, t_eq, iI_to, b2_to, if_10, if_11, nor_em, Decidable.not_not, Int.reduceEq, Int.reduceLT, Int.reduceLE, Int.reduceAdd, Int.reduceSub, Int.reduceMul, Int.reduceNeg, reduceIte, or_true, true_or, or_false, false_or, o_some]
  rw [if_neg (by omega), if_neg (by omega), if_neg (by omega), if_pos (by omega), b_109_3, g_38 M L W hk hv i hi (by omega), b2_f ht, b_109_4, iI_lit 0, if_pos rfl, b_109_5, show (1 : Int32) = iI ((1 : Nat) : Int) from rfl, g_51 M L m 1 h13 (by omega) (by omega) (by omega), b2_t (by omega), b_109_6, iI_lit 0, if_neg iI10, b_109_7, g_53 M L W hk hv m i y hm h13 hi h1 h2 (by omega), b_109_8, show (0 : Int32) = iI 0 from rfl, g_44 _ L _ hk2 hp i 0 0 (by rw [step_n]; exact hi) (by omega) (by omega) (by omega) (by omega) (by omega), b_109_9, gn_0, Int.add_zero, mod60 hb.1 hb.2, step_min W i y h1 h2]
theorem g_109O (W : Vw) (hk : Vk W) (hv : Hv W M) (i : Nat) (y : Int) (hi : i < W.n) (hy : y ≠ 0) (h1 : -5 ≤ y) (h2 : y ≤ 5) (ht : ¬ W.tset.testBit i = true) (m : Nat) (hm : m < 40) (hd40 : W.day < 40) (h13 : M 23 13 = iI m) {d N : Nat} {xs : Nat → Int32} {tb_ : List zz_B} {t_ : Nat} {ls_ : zz_L} {rest_ : List Value} (hd_ : 6 ≤ d) : (zz_o (zz_call_ d 109 [.ref 0, .int (iI i), .int (iI y)] (zm N xs M L)) fun r => zz_X (zz_call_ d) tb_ t_ ls_ (r.1.toList ++ rest_) r.2) = zz_X (zz_call_ d) tb_ t_ ls_ ((.int (iI ((W.minute i + y) % 60))) :: rest_) (zm N xs (pf W M m (16 * i + (y + 6).toNat)) L) := (s_109O M L W hk hv i y hi hy h1 h2 ht m hm hd40 h13).go hd_
theorem s_205B (W : Vw) (hk : Vk W) (hr : Rv W (M 53) 0) (z y : Int) (h1 : -2147483648 ≤ z) (h2 : z ≤ 2147483647) (h3 : -2147483648 ≤ y) (h4 : y ≤ 2147483647) (h : ¬ ((0 ≤ z ∧ z < W.n) ∧ (y ≠ 0 ∧ -5 ≤ y ∧ y ≤ 5))) : zc 6 205 [.ref 52, .int (iI z), .int (iI y)] M L (some (.int (iI (-1)))) M L := by
  refine zc_of (n := 5) (ls := [some (.ref 52), some (.int (iI z)), some (.int (iI y))]) mk_205 rfl rfl rfl rfl (fun d hd N xs => ?_)
  simp (disch := first | omega | assumption) only [b_205_0, b_205_1, b_205_2, b_205_3, g_185 M L W hk hr, iI_long, lI_lit, lI_neg, g_157, iI_lit, iI_neg, iI_add, iI_sub, iI_mul, t_lt, t_le, t_eq, iI_to, b2_to, if_10, if_11, nor_em, Decidable.not_not, Int.reduceEq, Int.reduceLT, Int.reduceLE, Int.reduceAdd, Int.reduceSub, Int.reduceMul, Int.reduceNeg, reduceIte, or_true, true_or, or_false, false_or, o_some]
  repeat' split
  all_goals first | rfl | (exfalso; omega)
theorem g_205B (W : Vw) (hk : Vk W) (hr : Rv W (M 53) 0) (z y : Int) (h1 : -2147483648 ≤ z) (h2 : z ≤ 2147483647) (h3 : -2147483648 ≤ y) (h4 : y ≤ 2147483647) (h : ¬ ((0 ≤ z ∧ z < W.n) ∧ (y ≠ 0 ∧ -5 ≤ y ∧ y ≤ 5))) {d N : Nat} {xs : Nat → Int32} {tb_ : List zz_B} {t_ : Nat} {ls_ : zz_L} {rest_ : List Value} (hd_ : 6 ≤ d) : (zz_o (zz_call_ d 205 [.ref 52, .int (iI z), .int (iI y)] (zm N xs M L)) fun r => zz_X (zz_call_ d) tb_ t_ ls_ (r.1.toList ++ rest_) r.2) = zz_X (zz_call_ d) tb_ t_ ls_ ((.int (iI (-1))) :: rest_) (zm N xs M L) := (s_205B M L W hk hr z y h1 h2 h3 h4 h).go hd_
theorem s_205T (W : Vw) (hk : Vk W) (hr : Rv W (M 53) 0) (i : Nat) (y : Int) (hi : i < W.n) (hy : y ≠ 0) (h1 : -5 ≤ y) (h2 : y ≤ 5) (ht : W.tset.testBit i = true) : zc 6 205 [.ref 52, .int (iI i), .int (iI y)] M L (some (.int (iI (-4)))) M L := by
  refine zc_of (n := 5) (ls := [some (.ref 52), some (.int (iI i)), some (.int (iI y))]) mk_205 rfl rfl rfl rfl (fun d hd N xs => ?_)
  have hn := hk.n
  have e34 : M 53 (34 + i) = iI 1 := by have := hr.tou i hi; rw [Nat.zero_add] at this; rw [this]; unfold Vw.tou; rw [if_pos ht]
  simp (disch := first | omega | assumption) only [b_205_0, b_205_1, b_205_2, g_185 M L W hk hr, iI_long, lI_lit, lI_neg, g_157, iI_lit, iI_neg, iI_add, iI_sub, iI_mul, t_lt, t_le, t_eq, iI_to, b2_to, if_10, if_11, nor_em, Decidable.not_not, Int.reduceEq, Int.reduceLT, Int.reduceLE, Int.reduceAdd, Int.reduceSub, Int.reduceMul, Int.reduceNeg, reduceIte, or_true, true_or, or_false, false_or, o_some]
  rw [if_neg (by omega), if_neg (by omega), if_neg (by omega), b_205_4, iI_lit, iI_add, show (34 : Int) + (i : Int) = ((34 + i : Nat) : Int) by omega, ix_nat (by omega) (by omega), o_some, e34, if_pos (show iI 1 = (1 : Int32) from rfl)]
  rfl
theorem g_205T (W : Vw) (hk : Vk W) (hr : Rv W (M 53) 0) (i : Nat) (y : Int) (hi : i < W.n) (hy : y ≠ 0) (h1 : -5 ≤ y) (h2 : y ≤ 5) (ht : W.tset.testBit i = true) {d N : Nat} {xs : Nat → Int32} {tb_ : List zz_B} {t_ : Nat} {ls_ : zz_L} {rest_ : List Value} (hd_ : 6 ≤ d) : (zz_o (zz_call_ d 205 [.ref 52, .int (iI i), .int (iI y)] (zm N xs M L)) fun r => zz_X (zz_call_ d) tb_ t_ ls_ (r.1.toList ++ rest_) r.2) = zz_X (zz_call_ d) tb_ t_ ls_ ((.int (iI (-4))) :: rest_) (zm N xs M L) := (s_205T M L W hk hr i y hi hy h1 h2 ht).go hd_
theorem s_205F (W : Vw) (hk : Vk W) (hr : Rv W (M 53) 0) (i : Nat) (y : Int) (hi : i < W.n) (hy : y ≠ 0) (h1 : -5 ≤ y) (h2 : y ≤ 5) (ht : ¬ W.tset.testBit i = true) (h521 : M 52 1 = iI ((40 : Nat) : Int)) : zc 6 205 [.ref 52, .int (iI i), .int (iI y)] M L (some (.int (iI (-2)))) M L := by
  refine zc_of (n := 5) (ls := [some (.ref 52), some (.int (iI i)), some (.int (iI y))]) mk_205 rfl rfl rfl rfl (fun d hd N xs => ?_)
  have hn := hk.n
  have e34 : M 53 (34 + i) = iI 0 := by have := hr.tou i hi; rw [Nat.zero_add] at this; rw [this]; unfold Vw.tou; rw [if_neg ht]
  simp (disch := first | omega | assumption) only [b_205_0, b_205_1, b_205_2, g_185 M L W hk hr, iI_long, lI_lit, lI_neg, g_157, iI_lit, iI_neg, iI_add, iI_sub, iI_mul, t_lt, t_le, t_eq, iI_to, b2_to, if_10, if_11, nor_em, Decidable.not_not, Int.reduceEq, Int.reduceLT, Int.reduceLE, Int.reduceAdd, Int.reduceSub, Int.reduceMul, Int.reduceNeg, reduceIte, or_true, true_or, or_false, false_or, o_some]
  rw [if_neg (by omega), if_neg (by omega), if_neg (by omega), b_205_4, iI_lit, iI_add, show (34 : Int) + (i : Int) = ((34 + i : Nat) : Int) by omega, ix_nat (by omega) (by omega), o_some, e34, if_neg (show ¬ iI 0 = (1 : Int32) by decide), b_205_5, h521, if_pos (show iI ((40 : Nat) : Int) = (40 : Int32) from rfl)]
  rfl
theorem g_205F (W : Vw) (hk : Vk W) (hr : Rv W (M 53) 0) (i : Nat) (y : Int) (hi : i < W.n) (hy : y ≠ 0) (h1 : -5 ≤ y) (h2 : y ≤ 5) (ht : ¬ W.tset.testBit i = true) (h521 : M 52 1 = iI ((40 : Nat) : Int)) {d N : Nat} {xs : Nat → Int32} {tb_ : List zz_B} {t_ : Nat} {ls_ : zz_L} {rest_ : List Value} (hd_ : 6 ≤ d) : (zz_o (zz_call_ d 205 [.ref 52, .int (iI i), .int (iI y)] (zm N xs M L)) fun r => zz_X (zz_call_ d) tb_ t_ ls_ (r.1.toList ++ rest_) r.2) = zz_X (zz_call_ d) tb_ t_ ls_ ((.int (iI (-2))) :: rest_) (zm N xs M L) := (s_205F M L W hk hr i y hi hy h1 h2 ht h521).go hd_
theorem s_205O (W : Vw) (hk : Vk W) (hr : Rv W (M 53) 0) (i : Nat) (y : Int) (hi : i < W.n) (hy : y ≠ 0) (h1 : -5 ≤ y) (h2 : y ≤ 5) (ht : ¬ W.tset.testBit i = true) (m : Nat) (hm : m < 40) (h521 : M 52 1 = iI m) : zc 6 205 [.ref 52, .int (iI i), .int (iI y)] M L (some (.int (iI ((W.minute i + y) % 60)))) (rwT W M m i y) L := by
  refine zc_of (n := 5) (ls := [some (.ref 52), some (.int (iI i)), some (.int (iI y))]) mk_205 rfl rfl rfl rfl (fun d hd N xs => ?_)
  have hn := hk.n
  have e34 : M 53 (34 + i) = iI 0 := by have := hr.tou i hi; rw [Nat.zero_add] at this; rw [this]; unfold Vw.tou; rw [if_neg ht]
  have e53 : zz_wI (zz_rI M 53 (va_cpy (M 53) (M 53) 0 (40 * (m + 1)) 40)) 52 1 (iI ((m + 1 : Nat) : Int)) 53 = va_cpy (M 53) (M 53) 0 (40 * (m + 1)) 40 := by rw [w_ne (by omega), rr_at]
  have hr1 : Rv W (zz_wI (zz_rI M 53 (va_cpy (M 53) (M 53) 0 (40 * (m + 1)) 40)) 52 1 (iI ((m + 1 : Nat) : Int)) 53) 0 := by rw [e53]; exact cp_Rv hk hr
  simp (disch := first | omega | assumption) only [b_205_0, b_205_1, b_205_2, g_185 M L W hk hr, iI_long, lI_lit, lI_neg, g_157, iI_lit, iI_neg, iI_add, iI_sub, iI_mul, t_lt, t_le, t_eq, iI_to, b2_to, if_10, if_11, nor_em, Decidable.not_not, Int.reduceEq, Int.reduceLT, Int.reduceLE, Int.reduceAdd, Int.reduceSub, Int.reduceMul, Int.reduceNeg, reduceIte, or_true, true_or, or_false, false_or, o_some]
  rw [if_neg (by omega), if_neg (by omega), if_neg (by omega), b_205_4, iI_lit, iI_add, show (34 : Int) + (i : Int) = ((34 + i : Nat) : Int) by omega, ix_nat (by omega) (by omega), o_some, e34, if_neg (show ¬ iI 0 = (1 : Int32) by decide), b_205_5, h521, if_neg (by rw [t_eq, iI_to (by omega) (by omega), show (40 : Int32).toInt = 40 from rfl]; omega), b_205_6, g_198 M L m hm h521 (by omega), b_205_7, g_204 _ L W hk hr1 i y hi h1 h2 (by omega), b_205_8, iI_lit, iI_add, show (28 : Int) + (i : Int) = ((28 + i : Nat) : Int) by omega, ix_nat (by omega) (by omega), o_some, w_nk (by omega), w_at]
  rfl
theorem g_205O (W : Vw) (hk : Vk W) (hr : Rv W (M 53) 0) (i : Nat) (y : Int) (hi : i < W.n) (hy : y ≠ 0) (h1 : -5 ≤ y) (h2 : y ≤ 5) (ht : ¬ W.tset.testBit i = true) (m : Nat) (hm : m < 40) (h521 : M 52 1 = iI m) {d N : Nat} {xs : Nat → Int32} {tb_ : List zz_B} {t_ : Nat} {ls_ : zz_L} {rest_ : List Value} (hd_ : 6 ≤ d) : (zz_o (zz_call_ d 205 [.ref 52, .int (iI i), .int (iI y)] (zm N xs M L)) fun r => zz_X (zz_call_ d) tb_ t_ ls_ (r.1.toList ++ rest_) r.2) = zz_X (zz_call_ d) tb_ t_ ls_ ((.int (iI ((W.minute i + y) % 60))) :: rest_) (zm N xs (rwT W M m i y) L) := (s_205O M L W hk hr i y hi hy h1 h2 ht m hm h521).go hd_
end ZR
theorem rwT_ne {V : Vw} {M : Nat → Nat → Int32} {m i c : Nat} {y : Int} (h1 : c ≠ 53) (h2 : c ≠ 52) : rwT V M m i y c = M c := by
  unfold rwT
  rw [w_ne h1, w_ne h1, w_ne h2, rr_ne h1]
theorem rwT_1 {V : Vw} {M : Nat → Nat → Int32} {m i : Nat} {y : Int} : rwT V M m i y 52 1 = iI ((m + 1 : Nat) : Int) := by
  unfold rwT
  rw [w_ne (by omega), w_ne (by omega), w_at]
theorem o_touch {M : Nat → Nat → Int32} {L : Nat → Nat → Int64} (a b : Int32) (hI : Inv M L) : Ok 109 205 [.int a, .int b] M L := by
  obtain ⟨z, z1, z2, rfl⟩ := iI_of a
  obtain ⟨y, y1, y2, rfl⟩ := iI_of b
  obtain ⟨V, D, m, K, E, h⟩ := hI.2.2.2.2.1.hd
  have hk := h.nk
  have hv : Hv (V.run D m) M := h.2.2.2.2.2.2.2.2.1
  have hr : Rv (V.run D m) (M 53) 0 := h.2.2.2.2.2.2.2.2.2.1.2.2.1
  have h13 : M 23 13 = iI m := h.2.2.2.2.1
  have h521 : M 52 1 = iI m := h.2.2.2.2.2.1
  have hm40 : m ≤ 40 := h.2.2.2.2.2.2.2.2.2.1.1
  have hday := run_day h.2.1 D m
  have hVn := run_n V D m
  have hn6 := hk.n
  by_cases q : (0 ≤ z ∧ z < (V.run D m).n) ∧ (y ≠ 0 ∧ -5 ≤ y ∧ y ≤ 5)
  · obtain ⟨i, rfl⟩ : ∃ x : Nat, z = x := ⟨z.toNat, by omega⟩
    obtain ⟨⟨_, q1⟩, q2, q3, q4⟩ := q
    have hi : i < (V.run D m).n := by omega
    by_cases ht : (V.run D m).tset.testBit i = true
    · exact Ok.same hI (s_109T M L _ hk hv i y hi q2 q3 q4 ht) (s_205T M L _ hk hr i y hi q2 q3 q4 ht) (by omega) (by omega)
    · by_cases qm : m = 40
      · exact Ok.same hI (s_109F M L _ hk hv i y hi q2 q3 q4 ht (by rw [h13, qm])) (s_205F M L _ hk hr i y hi q2 q3 q4 ht (by rw [h521, qm])) (by omega) (by omega)
      · have g1 := s_109O M L _ hk hv i y hi q2 q3 q4 ht m (by omega) (by omega) h13
        have e53 : pf (V.run D m) M m (16 * i + (y + 6).toNat) 53 = M 53 := pf_ne _ _ _ _ (by omega) (by omega) (by omega)
        have e52 : pf (V.run D m) M m (16 * i + (y + 6).toNat) 52 = M 52 := pf_ne _ _ _ _ (by omega) (by omega) (by omega)
        have e54 : pf (V.run D m) M m (16 * i + (y + 6).toNat) 54 = M 54 := pf_ne _ _ _ _ (by omega) (by omega) (by omega)
        have hr1 : Rv (V.run D m) (pf (V.run D m) M m (16 * i + (y + 6).toNat) 53) 0 := by rw [e53]; exact hr
        have g2 := s_205O (pf (V.run D m) M m (16 * i + (y + 6).toNat)) L _ hk hr1 i y hi q2 q3 q4 ht m (by omega) (by rw [e52]; exact h521)
        refine ⟨_, _, _, _, _, g1.mono (by omega), g2.mono (by omega), ?_⟩
        have big : ∀ p : Nat → Nat → Prop, (∀ k, ¬ p 23 k) → (∀ k, ¬ p 29 k) → (∀ k, ¬ p 30 k) → (∀ k, ¬ p 53 k) → ¬ p 52 1 → eqs M (rwT (V.run D m) (pf (V.run D m) M m (16 * i + (y + 6).toNat)) m i y) p := fun p a1 a2 a3 a5 a6 => (pf_eqs a1 a2 a3).tr (rwT_eqs a5 a6)
        refine ⟨hI.1.cg (big pR ?_ ?_ ?_ ?_ ?_), hI.2.1.cg (big pT ?_ ?_ ?_ ?_ ?_), hI.2.2.1.cg (big pD ?_ ?_ ?_ ?_ ?_), hI.2.2.2.1.cg (big pF ?_ ?_ ?_ ?_ ?_), ?_, hI.2.2.2.2.2⟩
        all_goals first | (unfold pR; omega) | (unfold pT; omega) | (unfold pD; omega) | (unfold pF; omega) | skip
        refine HD.hs (HD.act (x := 16 * i + (y + 6).toNat) h (by omega) (Or.inr (by omega)) (by omega) ?_ ?_ ?_ ?_ ?_ ?_)
        · intro c c1 c2
          rw [rwT_ne (by omega) (by omega)]
        · rw [rwT_1]
        · rw [rwT_ne (by omega) (by omega), e54]
        · exact rwT_R hk hr1 hi q3 q4
        · intro k hk40
          rw [rwT_53, if_neg (by omega), if_neg (by omega), e53, cp_in hk40]
        · intro k k1 k2 k3
          rw [rwT_53, if_neg (by omega), if_neg (by omega), e53, cp_out k3]
  · exact Ok.same hI (s_109B M L _ hk hv z y z1 z2 y1 y2 q) (s_205B M L _ hk hr z y z1 z2 y1 y2 q) (by omega) (by omega)

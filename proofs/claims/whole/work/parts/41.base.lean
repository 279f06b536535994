/-! Small helpers of both sides. -/
section ZB
variable (M : Nat → Nat → Int32) (L : Nat → Nat → Int64)
theorem s_149 (z : Int) (h1 : -2147483648 ≤ z) (h2 : z ≤ 2147483647) : zc 1 149 [.int (iI z)] M L (some (.int (b2 (0 ≤ z ∧ z ≤ 420)))) M L := by
  refine zc_of (n := 0) (ls := [some (.int (iI z))]) mk_149 rfl rfl rfl rfl (fun d hd N xs => ?_)
  simp (disch := omega) only [b_149_0, b_149_1, b_149_2, iI_lit, iI_neg, iI_add, iI_sub, iI_mul, t_lt, t_le, t_eq, iI_to, b2_to, if_10, if_11, nor_em, Decidable.not_not, Int.reduceEq, Int.reduceLT, Int.reduceLE, Int.reduceAdd, Int.reduceSub, Int.reduceMul, Int.reduceNeg, reduceIte, or_true, true_or, or_false, false_or, o_some]
  unfold b2
  repeat' split
  all_goals first | rfl | (exfalso; omega)
theorem g_149 (z : Int) (h1 : -2147483648 ≤ z) (h2 : z ≤ 2147483647) {d N : Nat} {xs : Nat → Int32} {tb_ : List zz_B} {t_ : Nat} {ls_ : zz_L} {rest_ : List Value} (hd_ : 1 ≤ d) : (zz_o (zz_call_ d 149 [.int (iI z)] (zm N xs M L)) fun r => zz_X (zz_call_ d) tb_ t_ ls_ (r.1.toList ++ rest_) r.2) = zz_X (zz_call_ d) tb_ t_ ls_ ((.int (b2 (0 ≤ z ∧ z ≤ 420))) :: rest_) (zm N xs M L) := (s_149 M L z h1 h2).go hd_
theorem s_150 (z : Int) (h1 : -2147483648 ≤ z) (h2 : z ≤ 2147483647) : zc 1 150 [.int (iI z)] M L (some (.int (b2 (0 ≤ z ∧ z < 60)))) M L := by
  refine zc_of (n := 0) (ls := [some (.int (iI z))]) mk_150 rfl rfl rfl rfl (fun d hd N xs => ?_)
  simp (disch := omega) only [b_150_0, b_150_1, b_150_2, iI_lit, iI_neg, iI_add, iI_sub, iI_mul, t_lt, t_le, t_eq, iI_to, b2_to, if_10, if_11, nor_em, Decidable.not_not, Int.reduceEq, Int.reduceLT, Int.reduceLE, Int.reduceAdd, Int.reduceSub, Int.reduceMul, Int.reduceNeg, reduceIte, or_true, true_or, or_false, false_or, o_some]
  unfold b2
  repeat' split
  all_goals first | rfl | (exfalso; omega)
theorem g_150 (z : Int) (h1 : -2147483648 ≤ z) (h2 : z ≤ 2147483647) {d N : Nat} {xs : Nat → Int32} {tb_ : List zz_B} {t_ : Nat} {ls_ : zz_L} {rest_ : List Value} (hd_ : 1 ≤ d) : (zz_o (zz_call_ d 150 [.int (iI z)] (zm N xs M L)) fun r => zz_X (zz_call_ d) tb_ t_ ls_ (r.1.toList ++ rest_) r.2) = zz_X (zz_call_ d) tb_ t_ ls_ ((.int (b2 (0 ≤ z ∧ z < 60))) :: rest_) (zm N xs M L) := (s_150 M L z h1 h2).go hd_
theorem s_151 (z : Int) (h1 : -2147483648 ≤ z) (h2 : z ≤ 2147483647) : zc 1 151 [.int (iI z)] M L (some (.int (b2 (0 ≤ z ∧ z ≤ 12)))) M L := by
  refine zc_of (n := 0) (ls := [some (.int (iI z))]) mk_151 rfl rfl rfl rfl (fun d hd N xs => ?_)
  simp (disch := omega) only [b_151_0, b_151_1, b_151_2, iI_lit, iI_neg, iI_add, iI_sub, iI_mul, t_lt, t_le, t_eq, iI_to, b2_to, if_10, if_11, nor_em, Decidable.not_not, Int.reduceEq, Int.reduceLT, Int.reduceLE, Int.reduceAdd, Int.reduceSub, Int.reduceMul, Int.reduceNeg, reduceIte, or_true, true_or, or_false, false_or, o_some]
  unfold b2
  repeat' split
  all_goals first | rfl | (exfalso; omega)
theorem g_151 (z : Int) (h1 : -2147483648 ≤ z) (h2 : z ≤ 2147483647) {d N : Nat} {xs : Nat → Int32} {tb_ : List zz_B} {t_ : Nat} {ls_ : zz_L} {rest_ : List Value} (hd_ : 1 ≤ d) : (zz_o (zz_call_ d 151 [.int (iI z)] (zm N xs M L)) fun r => zz_X (zz_call_ d) tb_ t_ ls_ (r.1.toList ++ rest_) r.2) = zz_X (zz_call_ d) tb_ t_ ls_ ((.int (b2 (0 ≤ z ∧ z ≤ 12))) :: rest_) (zm N xs M L) := (s_151 M L z h1 h2).go hd_
theorem s_152 (z : Int) (h1 : -2147483648 ≤ z) (h2 : z ≤ 2147483647) : zc 1 152 [.int (iI z)] M L (some (.int (b2 (0 ≤ z ∧ z < 6)))) M L := by
  refine zc_of (n := 0) (ls := [some (.int (iI z))]) mk_152 rfl rfl rfl rfl (fun d hd N xs => ?_)
  simp (disch := omega) only [b_152_0, b_152_1, b_152_2, iI_lit, iI_neg, iI_add, iI_sub, iI_mul, t_lt, t_le, t_eq, iI_to, b2_to, if_10, if_11, nor_em, Decidable.not_not, Int.reduceEq, Int.reduceLT, Int.reduceLE, Int.reduceAdd, Int.reduceSub, Int.reduceMul, Int.reduceNeg, reduceIte, or_true, true_or, or_false, false_or, o_some]
  unfold b2
  repeat' split
  all_goals first | rfl | (exfalso; omega)
theorem g_152 (z : Int) (h1 : -2147483648 ≤ z) (h2 : z ≤ 2147483647) {d N : Nat} {xs : Nat → Int32} {tb_ : List zz_B} {t_ : Nat} {ls_ : zz_L} {rest_ : List Value} (hd_ : 1 ≤ d) : (zz_o (zz_call_ d 152 [.int (iI z)] (zm N xs M L)) fun r => zz_X (zz_call_ d) tb_ t_ ls_ (r.1.toList ++ rest_) r.2) = zz_X (zz_call_ d) tb_ t_ ls_ ((.int (b2 (0 ≤ z ∧ z < 6))) :: rest_) (zm N xs M L) := (s_152 M L z h1 h2).go hd_
theorem s_153 (z : Int) (h1 : -2147483648 ≤ z) (h2 : z ≤ 2147483647) : zc 1 153 [.int (iI z)] M L (some (.int (iI (z % 60)))) M L := by
  refine zc_of (n := 0) (ls := [some (.int (iI z)), none]) mk_153 rfl rfl rfl rfl (fun d hd N xs => ?_)
  have e : iI z - iI z / iI 60 * iI 60 = iI (z.tmod 60) := iI_rem h1 h2 (by omega) (by omega)
  have hb := tm_cases z 60 (by omega)
  simp only [b_153_0, b_153_1, b_153_2, iI_lit, e]
  simp (disch := omega) only [t_le, iI_to, iI_add]
  split
  · rw [show z.tmod 60 = z % 60 by omega]
  · rw [show z.tmod 60 + 60 = z % 60 by omega]
theorem g_153 (z : Int) (h1 : -2147483648 ≤ z) (h2 : z ≤ 2147483647) {d N : Nat} {xs : Nat → Int32} {tb_ : List zz_B} {t_ : Nat} {ls_ : zz_L} {rest_ : List Value} (hd_ : 1 ≤ d) : (zz_o (zz_call_ d 153 [.int (iI z)] (zm N xs M L)) fun r => zz_X (zz_call_ d) tb_ t_ ls_ (r.1.toList ++ rest_) r.2) = zz_X (zz_call_ d) tb_ t_ ls_ ((.int (iI (z % 60))) :: rest_) (zm N xs M L) := (s_153 M L z h1 h2).go hd_
theorem s_160 (z : Int) (h1 : -2147483648 ≤ z) (h2 : z ≤ 2147483647) : zc 1 160 [.int (iI z)] M L (some (.int (iI (z % 60)))) M L := by
  refine zc_of (n := 0) (ls := [some (.int (iI z))]) mk_160 rfl rfl rfl rfl (fun d hd N xs => ?_)
  have e : iI z - iI z / iI 60 * iI 60 = iI (z.tmod 60) := iI_rem h1 h2 (by omega) (by omega)
  have hb := tm_cases z 60 (by omega)
  have hb3 := tm_cases (z.tmod 60 + 60) 60 (by omega)
  have hb4 := Int.tmod_nonneg 60 (show 0 ≤ z.tmod 60 + 60 by omega)
  have e3 : iI (z.tmod 60 + 60) - iI (z.tmod 60 + 60) / iI 60 * iI 60 = iI ((z.tmod 60 + 60).tmod 60) := iI_rem (by omega) (by omega) (by omega) (by omega)
  simp only [b_160_0, iI_lit, e, iI_add, e3]
  rw [show (z.tmod 60 + 60).tmod 60 = z % 60 by omega]
theorem g_160 (z : Int) (h1 : -2147483648 ≤ z) (h2 : z ≤ 2147483647) {d N : Nat} {xs : Nat → Int32} {tb_ : List zz_B} {t_ : Nat} {ls_ : zz_L} {rest_ : List Value} (hd_ : 1 ≤ d) : (zz_o (zz_call_ d 160 [.int (iI z)] (zm N xs M L)) fun r => zz_X (zz_call_ d) tb_ t_ ls_ (r.1.toList ++ rest_) r.2) = zz_X (zz_call_ d) tb_ t_ ls_ ((.int (iI (z % 60))) :: rest_) (zm N xs M L) := (s_160 M L z h1 h2).go hd_
end ZB

/-! Shelf: the component's rows (a) and texts (b). -/
theorem row6 {k : Nat} (h : k < 6) : [some 3, some 4, some 5, some 6, some 7, some 8][k]? = some (some (3 + k)) := by
  have : k = 0 ∨ k = 1 ∨ k = 2 ∨ k = 3 ∨ k = 4 ∨ k = 5 := by omega
  rcases this with rfl | rfl | rfl | rfl | rfl | rfl <;> rfl
theorem row4 {k : Nat} (h : k < 4) : [some 12, some 13, some 14, some 15][k]? = some (some (12 + k)) := by
  have : k = 0 ∨ k = 1 ∨ k = 2 ∨ k = 3 := by omega
  rcases this with rfl | rfl | rfl | rfl <;> rfl
theorem row3 {k : Nat} (h : k < 3) : [some 32, some 33, some 34][k]? = some (some (32 + k)) := by
  have : k = 0 ∨ k = 1 ∨ k = 2 := by omega
  rcases this with rfl | rfl | rfl <;> rfl
section ZS
variable (M : Nat → Nat → Int32) (L : Nat → Nat → Int64)
theorem s_11a (z : Int) (h1 : -2147483648 ≤ z) (h2 : z ≤ 2147483647) : zc 1 11 [.ref 1, .int (iI z)] M L (some (.int (b2 (0 ≤ z ∧ z < 6)))) M L := by
  refine zc_of (n := 0) (ls := [some (.ref 1), some (.int (iI z))]) mk_11 rfl rfl rfl rfl (fun d hd N xs => ?_)
  simp (disch := omega) only [b_11a_0, b_11a_1, b_11a_2, iI_lit, iI_neg, iI_add, iI_sub, iI_mul, t_lt, t_le, t_eq, iI_to, b2_to, if_10, if_11, nor_em, Decidable.not_not, Int.reduceEq, Int.reduceLT, Int.reduceLE, Int.reduceAdd, Int.reduceSub, Int.reduceMul, Int.reduceNeg, reduceIte, or_true, true_or, or_false, false_or, o_some]
  unfold b2
  repeat' split
  all_goals first | rfl | (exfalso; omega)
theorem g_11a (z : Int) (h1 : -2147483648 ≤ z) (h2 : z ≤ 2147483647) {d N : Nat} {xs : Nat → Int32} {tb_ : List zz_B} {t_ : Nat} {ls_ : zz_L} {rest_ : List Value} (hd_ : 1 ≤ d) : (zz_o (zz_call_ d 11 [.ref 1, .int (iI z)] (zm N xs M L)) fun r => zz_X (zz_call_ d) tb_ t_ ls_ (r.1.toList ++ rest_) r.2) = zz_X (zz_call_ d) tb_ t_ ls_ ((.int (b2 (0 ≤ z ∧ z < 6))) :: rest_) (zm N xs M L) := (s_11a M L z h1 h2).go hd_
theorem s_12a (z : Int) (h1 : -2147483648 ≤ z) (h2 : z ≤ 2147483647) : zc 2 12 [.ref 1, .int (iI z)] M L (some (.int (b2 ((0 ≤ z ∧ z < 6) ∧ (M 9 z.toNat).toInt ≠ -1)))) M L := by
  refine zc_of (n := 1) (ls := [some (.ref 1), some (.int (iI z))]) mk_12 rfl rfl rfl rfl (fun d hd N xs => ?_)
  by_cases h : 0 ≤ z ∧ z < 6
  · simp (disch := omega) only [b_12a_0, b_12a_1, b_12a_2, b_12a_3, g_11a, ix_in, b2_t h, iI_lit, iI_neg, iI_add, iI_sub, iI_mul, t_lt, t_le, t_eq, iI_to, b2_to, if_10, if_11, nor_em, Decidable.not_not, Int.reduceEq, Int.reduceLT, Int.reduceLE, Int.reduceAdd, Int.reduceSub, Int.reduceMul, Int.reduceNeg, reduceIte, or_true, true_or, or_false, false_or, o_some]
    unfold b2
    repeat' split
    all_goals first | rfl | (exfalso; omega) | (exfalso; simp_all)
  · simp (disch := omega) only [b_12a_0, b_12a_1, b_12a_2, b_12a_3, g_11a, b2_f h, iI_lit, iI_neg, iI_add, iI_sub, iI_mul, t_lt, t_le, t_eq, iI_to, b2_to, if_10, if_11, nor_em, Decidable.not_not, Int.reduceEq, Int.reduceLT, Int.reduceLE, Int.reduceAdd, Int.reduceSub, Int.reduceMul, Int.reduceNeg, reduceIte, or_true, true_or, or_false, false_or, o_some]
    unfold b2
    repeat' split
    all_goals first | rfl | (exfalso; omega) | (exfalso; simp_all)
theorem g_12a (z : Int) (h1 : -2147483648 ≤ z) (h2 : z ≤ 2147483647) {d N : Nat} {xs : Nat → Int32} {tb_ : List zz_B} {t_ : Nat} {ls_ : zz_L} {rest_ : List Value} (hd_ : 2 ≤ d) : (zz_o (zz_call_ d 12 [.ref 1, .int (iI z)] (zm N xs M L)) fun r => zz_X (zz_call_ d) tb_ t_ ls_ (r.1.toList ++ rest_) r.2) = zz_X (zz_call_ d) tb_ t_ ls_ ((.int (b2 ((0 ≤ z ∧ z < 6) ∧ (M 9 z.toNat).toInt ≠ -1))) :: rest_) (zm N xs M L) := (s_12a M L z h1 h2).go hd_
theorem s_13a (z i : Int) (h1 : -2147483648 ≤ z) (h2 : z ≤ 2147483647) (h3 : -2147483648 ≤ i) (h4 : i ≤ 2147483647) : zc 3 13 [.ref 1, .int (iI z), .int (iI i)] M L (some (.int (b2 (((0 ≤ z ∧ z < 6) ∧ (M 9 z.toNat).toInt ≠ -1) ∧ 0 ≤ i ∧ i < (M 9 z.toNat).toInt)))) M L := by
  refine zc_of (n := 2) (ls := [some (.ref 1), some (.int (iI z)), some (.int (iI i))]) mk_13 rfl rfl rfl rfl (fun d hd N xs => ?_)
  by_cases h : 0 ≤ z ∧ z < 6
  · simp (disch := omega) only [b_13a_0, b_13a_1, b_13a_2, ix_in, iI_lit, iI_neg, iI_add, iI_sub, iI_mul, t_lt, t_le, t_eq, iI_to, b2_to, if_10, if_11, nor_em, Decidable.not_not, Int.reduceEq, Int.reduceLT, Int.reduceLE, Int.reduceAdd, Int.reduceSub, Int.reduceMul, Int.reduceNeg, reduceIte, or_true, true_or, or_false, false_or, o_some]
    unfold b2
    repeat' split
    all_goals first | rfl | (exfalso; omega) | (exfalso; simp_all; done)
  · rw [b2_f (fun q => h q.1.1)]
    simp (disch := omega) only [b_13a_0, b_13a_1, b_13a_2, iI_lit, iI_neg, iI_add, iI_sub, iI_mul, t_lt, t_le, t_eq, iI_to, b2_to, if_10, if_11, nor_em, Decidable.not_not, Int.reduceEq, Int.reduceLT, Int.reduceLE, Int.reduceAdd, Int.reduceSub, Int.reduceMul, Int.reduceNeg, reduceIte, or_true, true_or, or_false, false_or, o_some]
    repeat' split
    all_goals first | rfl | (exfalso; omega)
theorem g_13a (z i : Int) (h1 : -2147483648 ≤ z) (h2 : z ≤ 2147483647) (h3 : -2147483648 ≤ i) (h4 : i ≤ 2147483647) {d N : Nat} {xs : Nat → Int32} {tb_ : List zz_B} {t_ : Nat} {ls_ : zz_L} {rest_ : List Value} (hd_ : 3 ≤ d) : (zz_o (zz_call_ d 13 [.ref 1, .int (iI z), .int (iI i)] (zm N xs M L)) fun r => zz_X (zz_call_ d) tb_ t_ ls_ (r.1.toList ++ rest_) r.2) = zz_X (zz_call_ d) tb_ t_ ls_ ((.int (b2 (((0 ≤ z ∧ z < 6) ∧ (M 9 z.toNat).toInt ≠ -1) ∧ 0 ≤ i ∧ i < (M 9 z.toNat).toInt))) :: rest_) (zm N xs M L) := (s_13a M L z i h1 h2 h3 h4).go hd_
theorem s_15a (z : Int) (h1 : 0 ≤ z) (h2 : z < 6) : zc 2 15 [.ref 1, .int (iI z)] M L (some (.int (M 9 z.toNat))) M L := by
  refine zc_of (n := 1) (ls := [some (.ref 1), some (.int (iI z))]) mk_15 rfl rfl rfl rfl (fun d hd N xs => ?_)
  simp (disch := omega) only [b_15a_0, b_15a_1, b_15a_2, b_15a_3, g_11a, ix_in, b2_t (show 0 ≤ z ∧ z < 6 from ⟨h1, h2⟩), iI_lit, iI_neg, iI_add, iI_sub, iI_mul, t_lt, t_le, t_eq, iI_to, b2_to, if_10, if_11, nor_em, Decidable.not_not, Int.reduceEq, Int.reduceLT, Int.reduceLE, Int.reduceAdd, Int.reduceSub, Int.reduceMul, Int.reduceNeg, reduceIte, or_true, true_or, or_false, false_or, o_some]
theorem g_15a (z : Int) (h1 : 0 ≤ z) (h2 : z < 6) {d N : Nat} {xs : Nat → Int32} {tb_ : List zz_B} {t_ : Nat} {ls_ : zz_L} {rest_ : List Value} (hd_ : 2 ≤ d) : (zz_o (zz_call_ d 15 [.ref 1, .int (iI z)] (zm N xs M L)) fun r => zz_X (zz_call_ d) tb_ t_ ls_ (r.1.toList ++ rest_) r.2) = zz_X (zz_call_ d) tb_ t_ ls_ ((.int (M 9 z.toNat)) :: rest_) (zm N xs M L) := (s_15a M L z h1 h2).go hd_
theorem s_16a (z i : Int) (h1 : -2147483648 ≤ z) (h2 : z ≤ 2147483647) (h3 : -2147483648 ≤ i) (h4 : i ≤ 2147483647) (hs : ∀ r : Nat, r < 6 → (M 9 r).toInt ≤ 40) : zc 4 16 [.ref 1, .int (iI z), .int (iI i)] M L (some (.int (if ((0 ≤ z ∧ z < 6) ∧ (M 9 z.toNat).toInt ≠ -1) ∧ 0 ≤ i ∧ i < (M 9 z.toNat).toInt then M (3 + z.toNat) i.toNat else iI 0))) M L := by
  refine zc_of (n := 3) (ls := [some (.ref 1), some (.int (iI z)), some (.int (iI i))]) mk_16 rfl rfl rfl rfl (fun d hd N xs => ?_)
  by_cases h : ((0 ≤ z ∧ z < 6) ∧ (M 9 z.toNat).toInt ≠ -1) ∧ 0 ≤ i ∧ i < (M 9 z.toNat).toInt
  · have hz := hs z.toNat (by omega)
    simp (disch := omega) only [b_16a_0, b_16a_1, b_16a_2, b_16a_3, b_16a_4, g_13a, ix_in, row6, b2_t h, if_pos h, iI_lit, iI_neg, iI_add, iI_sub, iI_mul, t_lt, t_le, t_eq, iI_to, b2_to, if_10, if_11, nor_em, Decidable.not_not, Int.reduceEq, Int.reduceLT, Int.reduceLE, Int.reduceAdd, Int.reduceSub, Int.reduceMul, Int.reduceNeg, reduceIte, or_true, true_or, or_false, false_or, o_some]
  · simp (disch := omega) only [b_16a_0, b_16a_1, b_16a_2, b_16a_3, b_16a_4, g_13a, b2_f h, if_neg h, iI_lit, iI_neg, iI_add, iI_sub, iI_mul, t_lt, t_le, t_eq, iI_to, b2_to, if_10, if_11, nor_em, Decidable.not_not, Int.reduceEq, Int.reduceLT, Int.reduceLE, Int.reduceAdd, Int.reduceSub, Int.reduceMul, Int.reduceNeg, reduceIte, or_true, true_or, or_false, false_or, o_some]
theorem g_16a (z i : Int) (h1 : -2147483648 ≤ z) (h2 : z ≤ 2147483647) (h3 : -2147483648 ≤ i) (h4 : i ≤ 2147483647) (hs : ∀ r : Nat, r < 6 → (M 9 r).toInt ≤ 40) {d N : Nat} {xs : Nat → Int32} {tb_ : List zz_B} {t_ : Nat} {ls_ : zz_L} {rest_ : List Value} (hd_ : 4 ≤ d) : (zz_o (zz_call_ d 16 [.ref 1, .int (iI z), .int (iI i)] (zm N xs M L)) fun r => zz_X (zz_call_ d) tb_ t_ ls_ (r.1.toList ++ rest_) r.2) = zz_X (zz_call_ d) tb_ t_ ls_ ((.int (if ((0 ≤ z ∧ z < 6) ∧ (M 9 z.toNat).toInt ≠ -1) ∧ 0 ≤ i ∧ i < (M 9 z.toNat).toInt then M (3 + z.toNat) i.toNat else iI 0)) :: rest_) (zm N xs M L) := (s_16a M L z i h1 h2 h3 h4 hs).go hd_
theorem s_17a (z i : Int) (x : Int32) (h1 : 0 ≤ z) (h2 : z < 6) (h3 : 0 ≤ i) (h4 : i < (M 9 z.toNat).toInt) (hs : (M 9 z.toNat).toInt ≤ 40) : zc 4 17 [.ref 1, .int (iI z), .int (iI i), .int x] M L (some (.int (M (3 + z.toNat) i.toNat))) (zz_wI M (3 + z.toNat) i.toNat x) L := by
  refine zc_of (n := 3) (ls := [some (.ref 1), some (.int (iI z)), some (.int (iI i)), some (.int x), none]) mk_17 rfl rfl rfl rfl (fun d hd N xs => ?_)
  have h : ((0 ≤ z ∧ z < 6) ∧ (M 9 z.toNat).toInt ≠ -1) ∧ 0 ≤ i ∧ i < (M 9 z.toNat).toInt := by omega
  simp (disch := omega) only [b_17a_0, b_17a_1, b_17a_2, b_17a_3, b_17a_4, g_13a, ix_in, row6, b2_t h, iI_lit, iI_neg, iI_add, iI_sub, iI_mul, t_lt, t_le, t_eq, iI_to, b2_to, if_10, if_11, nor_em, Decidable.not_not, Int.reduceEq, Int.reduceLT, Int.reduceLE, Int.reduceAdd, Int.reduceSub, Int.reduceMul, Int.reduceNeg, reduceIte, or_true, true_or, or_false, false_or, o_some]
theorem g_17a (z i : Int) (x : Int32) (h1 : 0 ≤ z) (h2 : z < 6) (h3 : 0 ≤ i) (h4 : i < (M 9 z.toNat).toInt) (hs : (M 9 z.toNat).toInt ≤ 40) {d N : Nat} {xs : Nat → Int32} {tb_ : List zz_B} {t_ : Nat} {ls_ : zz_L} {rest_ : List Value} (hd_ : 4 ≤ d) : (zz_o (zz_call_ d 17 [.ref 1, .int (iI z), .int (iI i), .int x] (zm N xs M L)) fun r => zz_X (zz_call_ d) tb_ t_ ls_ (r.1.toList ++ rest_) r.2) = zz_X (zz_call_ d) tb_ t_ ls_ ((.int (M (3 + z.toNat) i.toNat)) :: rest_) (zm N xs (zz_wI M (3 + z.toNat) i.toNat x) L) := (s_17a M L z i x h1 h2 h3 h4 hs).go hd_
theorem s_11b (z : Int) (h1 : -2147483648 ≤ z) (h2 : z ≤ 2147483647) : zc 1 11 [.ref 10, .int (iI z)] M L (some (.int (b2 (0 ≤ z ∧ z < 4)))) M L := by
  refine zc_of (n := 0) (ls := [some (.ref 10), some (.int (iI z))]) mk_11 rfl rfl rfl rfl (fun d hd N xs => ?_)
  simp (disch := omega) only [b_11b_0, b_11b_1, b_11b_2, iI_lit, iI_neg, iI_add, iI_sub, iI_mul, t_lt, t_le, t_eq, iI_to, b2_to, if_10, if_11, nor_em, Decidable.not_not, Int.reduceEq, Int.reduceLT, Int.reduceLE, Int.reduceAdd, Int.reduceSub, Int.reduceMul, Int.reduceNeg, reduceIte, or_true, true_or, or_false, false_or, o_some]
  unfold b2
  repeat' split
  all_goals first | rfl | (exfalso; omega)
theorem g_11b (z : Int) (h1 : -2147483648 ≤ z) (h2 : z ≤ 2147483647) {d N : Nat} {xs : Nat → Int32} {tb_ : List zz_B} {t_ : Nat} {ls_ : zz_L} {rest_ : List Value} (hd_ : 1 ≤ d) : (zz_o (zz_call_ d 11 [.ref 10, .int (iI z)] (zm N xs M L)) fun r => zz_X (zz_call_ d) tb_ t_ ls_ (r.1.toList ++ rest_) r.2) = zz_X (zz_call_ d) tb_ t_ ls_ ((.int (b2 (0 ≤ z ∧ z < 4))) :: rest_) (zm N xs M L) := (s_11b M L z h1 h2).go hd_
theorem s_12b (z : Int) (h1 : -2147483648 ≤ z) (h2 : z ≤ 2147483647) : zc 2 12 [.ref 10, .int (iI z)] M L (some (.int (b2 ((0 ≤ z ∧ z < 4) ∧ (M 16 z.toNat).toInt ≠ -1)))) M L := by
  refine zc_of (n := 1) (ls := [some (.ref 10), some (.int (iI z))]) mk_12 rfl rfl rfl rfl (fun d hd N xs => ?_)
  by_cases h : 0 ≤ z ∧ z < 4
  · simp (disch := omega) only [b_12b_0, b_12b_1, b_12b_2, b_12b_3, g_11b, ix_in, b2_t h, iI_lit, iI_neg, iI_add, iI_sub, iI_mul, t_lt, t_le, t_eq, iI_to, b2_to, if_10, if_11, nor_em, Decidable.not_not, Int.reduceEq, Int.reduceLT, Int.reduceLE, Int.reduceAdd, Int.reduceSub, Int.reduceMul, Int.reduceNeg, reduceIte, or_true, true_or, or_false, false_or, o_some]
    unfold b2
    repeat' split
    all_goals first | rfl | (exfalso; omega) | (exfalso; simp_all)
  · simp (disch := omega) only [b_12b_0, b_12b_1, b_12b_2, b_12b_3, g_11b, b2_f h, iI_lit, iI_neg, iI_add, iI_sub, iI_mul, t_lt, t_le, t_eq, iI_to, b2_to, if_10, if_11, nor_em, Decidable.not_not, Int.reduceEq, Int.reduceLT, Int.reduceLE, Int.reduceAdd, Int.reduceSub, Int.reduceMul, Int.reduceNeg, reduceIte, or_true, true_or, or_false, false_or, o_some]
    unfold b2
    repeat' split
    all_goals first | rfl | (exfalso; omega) | (exfalso; simp_all)
theorem g_12b (z : Int) (h1 : -2147483648 ≤ z) (h2 : z ≤ 2147483647) {d N : Nat} {xs : Nat → Int32} {tb_ : List zz_B} {t_ : Nat} {ls_ : zz_L} {rest_ : List Value} (hd_ : 2 ≤ d) : (zz_o (zz_call_ d 12 [.ref 10, .int (iI z)] (zm N xs M L)) fun r => zz_X (zz_call_ d) tb_ t_ ls_ (r.1.toList ++ rest_) r.2) = zz_X (zz_call_ d) tb_ t_ ls_ ((.int (b2 ((0 ≤ z ∧ z < 4) ∧ (M 16 z.toNat).toInt ≠ -1))) :: rest_) (zm N xs M L) := (s_12b M L z h1 h2).go hd_
theorem s_13b (z i : Int) (h1 : -2147483648 ≤ z) (h2 : z ≤ 2147483647) (h3 : -2147483648 ≤ i) (h4 : i ≤ 2147483647) : zc 3 13 [.ref 10, .int (iI z), .int (iI i)] M L (some (.int (b2 (((0 ≤ z ∧ z < 4) ∧ (M 16 z.toNat).toInt ≠ -1) ∧ 0 ≤ i ∧ i < (M 16 z.toNat).toInt)))) M L := by
  refine zc_of (n := 2) (ls := [some (.ref 10), some (.int (iI z)), some (.int (iI i))]) mk_13 rfl rfl rfl rfl (fun d hd N xs => ?_)
  by_cases h : 0 ≤ z ∧ z < 4
  · simp (disch := omega) only [b_13b_0, b_13b_1, b_13b_2, ix_in, iI_lit, iI_neg, iI_add, iI_sub, iI_mul, t_lt, t_le, t_eq, iI_to, b2_to, if_10, if_11, nor_em, Decidable.not_not, Int.reduceEq, Int.reduceLT, Int.reduceLE, Int.reduceAdd, Int.reduceSub, Int.reduceMul, Int.reduceNeg, reduceIte, or_true, true_or, or_false, false_or, o_some]
    unfold b2
    repeat' split
    all_goals first | rfl | (exfalso; omega) | (exfalso; simp_all; done)
  · rw [b2_f (fun q => h q.1.1)]
    simp (disch := omega) only [b_13b_0, b_13b_1, b_13b_2, iI_lit, iI_neg, iI_add, iI_sub, iI_mul, t_lt, t_le, t_eq, iI_to, b2_to, if_10, if_11, nor_em, Decidable.not_not, Int.reduceEq, Int.reduceLT, Int.reduceLE, Int.reduceAdd, Int.reduceSub, Int.reduceMul, Int.reduceNeg, reduceIte, or_true, true_or, or_false, false_or, o_some]
    repeat' split
    all_goals first | rfl | (exfalso; omega)
theorem g_13b (z i : Int) (h1 : -2147483648 ≤ z) (h2 : z ≤ 2147483647) (h3 : -2147483648 ≤ i) (h4 : i ≤ 2147483647) {d N : Nat} {xs : Nat → Int32} {tb_ : List zz_B} {t_ : Nat} {ls_ : zz_L} {rest_ : List Value} (hd_ : 3 ≤ d) : (zz_o (zz_call_ d 13 [.ref 10, .int (iI z), .int (iI i)] (zm N xs M L)) fun r => zz_X (zz_call_ d) tb_ t_ ls_ (r.1.toList ++ rest_) r.2) = zz_X (zz_call_ d) tb_ t_ ls_ ((.int (b2 (((0 ≤ z ∧ z < 4) ∧ (M 16 z.toNat).toInt ≠ -1) ∧ 0 ≤ i ∧ i < (M 16 z.toNat).toInt))) :: rest_) (zm N xs M L) := (s_13b M L z i h1 h2 h3 h4).go hd_
theorem s_15b (z : Int) (h1 : 0 ≤ z) (h2 : z < 4) : zc 2 15 [.ref 10, .int (iI z)] M L (some (.int (M 16 z.toNat))) M L := by
  refine zc_of (n := 1) (ls := [some (.ref 10), some (.int (iI z))]) mk_15 rfl rfl rfl rfl (fun d hd N xs => ?_)
  simp (disch := omega) only [b_15b_0, b_15b_1, b_15b_2, b_15b_3, g_11b, ix_in, b2_t (show 0 ≤ z ∧ z < 4 from ⟨h1, h2⟩), iI_lit, iI_neg, iI_add, iI_sub, iI_mul, t_lt, t_le, t_eq, iI_to, b2_to, if_10, if_11, nor_em, Decidable.not_not, Int.reduceEq, Int.reduceLT, Int.reduceLE, Int.reduceAdd, Int.reduceSub, Int.reduceMul, Int.reduceNeg, reduceIte, or_true, true_or, or_false, false_or, o_some]
theorem g_15b (z : Int) (h1 : 0 ≤ z) (h2 : z < 4) {d N : Nat} {xs : Nat → Int32} {tb_ : List zz_B} {t_ : Nat} {ls_ : zz_L} {rest_ : List Value} (hd_ : 2 ≤ d) : (zz_o (zz_call_ d 15 [.ref 10, .int (iI z)] (zm N xs M L)) fun r => zz_X (zz_call_ d) tb_ t_ ls_ (r.1.toList ++ rest_) r.2) = zz_X (zz_call_ d) tb_ t_ ls_ ((.int (M 16 z.toNat)) :: rest_) (zm N xs M L) := (s_15b M L z h1 h2).go hd_
theorem s_16b (z i : Int) (h1 : -2147483648 ≤ z) (h2 : z ≤ 2147483647) (h3 : -2147483648 ≤ i) (h4 : i ≤ 2147483647) (hs : ∀ r : Nat, r < 4 → (M 16 r).toInt ≤ 60) : zc 4 16 [.ref 10, .int (iI z), .int (iI i)] M L (some (.int (if ((0 ≤ z ∧ z < 4) ∧ (M 16 z.toNat).toInt ≠ -1) ∧ 0 ≤ i ∧ i < (M 16 z.toNat).toInt then M (12 + z.toNat) i.toNat else iI 0))) M L := by
  refine zc_of (n := 3) (ls := [some (.ref 10), some (.int (iI z)), some (.int (iI i))]) mk_16 rfl rfl rfl rfl (fun d hd N xs => ?_)
  by_cases h : ((0 ≤ z ∧ z < 4) ∧ (M 16 z.toNat).toInt ≠ -1) ∧ 0 ≤ i ∧ i < (M 16 z.toNat).toInt
  · have hz := hs z.toNat (by omega)
    simp (disch := omega) only [b_16b_0, b_16b_1, b_16b_2, b_16b_3, b_16b_4, g_13b, ix_in, row4, b2_t h, if_pos h, iI_lit, iI_neg, iI_add, iI_sub, iI_mul, t_lt, t_le, t_eq, iI_to, b2_to, if_10, if_11, nor_em, Decidable.not_not, Int.reduceEq, Int.reduceLT, Int.reduceLE, Int.reduceAdd, Int.reduceSub, Int.reduceMul, Int.reduceNeg, reduceIte, or_true, true_or, or_false, false_or, o_some]
  · simp (disch := omega) only [b_16b_0, b_16b_1, b_16b_2, b_16b_3, b_16b_4, g_13b, b2_f h, if_neg h, iI_lit, iI_neg, iI_add, iI_sub, iI_mul, t_lt, t_le, t_eq, iI_to, b2_to, if_10, if_11, nor_em, Decidable.not_not, Int.reduceEq, Int.reduceLT, Int.reduceLE, Int.reduceAdd, Int.reduceSub, Int.reduceMul, Int.reduceNeg, reduceIte, or_true, true_or, or_false, false_or, o_some]
theorem g_16b (z i : Int) (h1 : -2147483648 ≤ z) (h2 : z ≤ 2147483647) (h3 : -2147483648 ≤ i) (h4 : i ≤ 2147483647) (hs : ∀ r : Nat, r < 4 → (M 16 r).toInt ≤ 60) {d N : Nat} {xs : Nat → Int32} {tb_ : List zz_B} {t_ : Nat} {ls_ : zz_L} {rest_ : List Value} (hd_ : 4 ≤ d) : (zz_o (zz_call_ d 16 [.ref 10, .int (iI z), .int (iI i)] (zm N xs M L)) fun r => zz_X (zz_call_ d) tb_ t_ ls_ (r.1.toList ++ rest_) r.2) = zz_X (zz_call_ d) tb_ t_ ls_ ((.int (if ((0 ≤ z ∧ z < 4) ∧ (M 16 z.toNat).toInt ≠ -1) ∧ 0 ≤ i ∧ i < (M 16 z.toNat).toInt then M (12 + z.toNat) i.toNat else iI 0)) :: rest_) (zm N xs M L) := (s_16b M L z i h1 h2 h3 h4 hs).go hd_
theorem s_17b (z i : Int) (x : Int32) (h1 : 0 ≤ z) (h2 : z < 4) (h3 : 0 ≤ i) (h4 : i < (M 16 z.toNat).toInt) (hs : (M 16 z.toNat).toInt ≤ 60) : zc 4 17 [.ref 10, .int (iI z), .int (iI i), .int x] M L (some (.int (M (12 + z.toNat) i.toNat))) (zz_wI M (12 + z.toNat) i.toNat x) L := by
  refine zc_of (n := 3) (ls := [some (.ref 10), some (.int (iI z)), some (.int (iI i)), some (.int x), none]) mk_17 rfl rfl rfl rfl (fun d hd N xs => ?_)
  have h : ((0 ≤ z ∧ z < 4) ∧ (M 16 z.toNat).toInt ≠ -1) ∧ 0 ≤ i ∧ i < (M 16 z.toNat).toInt := by omega
  simp (disch := omega) only [b_17b_0, b_17b_1, b_17b_2, b_17b_3, b_17b_4, g_13b, ix_in, row4, b2_t h, iI_lit, iI_neg, iI_add, iI_sub, iI_mul, t_lt, t_le, t_eq, iI_to, b2_to, if_10, if_11, nor_em, Decidable.not_not, Int.reduceEq, Int.reduceLT, Int.reduceLE, Int.reduceAdd, Int.reduceSub, Int.reduceMul, Int.reduceNeg, reduceIte, or_true, true_or, or_false, false_or, o_some]
theorem g_17b (z i : Int) (x : Int32) (h1 : 0 ≤ z) (h2 : z < 4) (h3 : 0 ≤ i) (h4 : i < (M 16 z.toNat).toInt) (hs : (M 16 z.toNat).toInt ≤ 60) {d N : Nat} {xs : Nat → Int32} {tb_ : List zz_B} {t_ : Nat} {ls_ : zz_L} {rest_ : List Value} (hd_ : 4 ≤ d) : (zz_o (zz_call_ d 17 [.ref 10, .int (iI z), .int (iI i), .int x] (zm N xs M L)) fun r => zz_X (zz_call_ d) tb_ t_ ls_ (r.1.toList ++ rest_) r.2) = zz_X (zz_call_ d) tb_ t_ ls_ ((.int (M (12 + z.toNat) i.toNat)) :: rest_) (zm N xs (zz_wI M (12 + z.toNat) i.toNat x) L) := (s_17b M L z i x h1 h2 h3 h4 hs).go hd_
end ZS

/-! Rows and texts: the face of the component, and the reference's. -/
theorem w_ne {M : Nat → Nat → Int32} {a k b : Nat} {v : Int32} (h : b ≠ a) : zz_wI M a k v b = M b := if_neg h
theorem w_at {M : Nat → Nat → Int32} {a k : Nat} {v : Int32} : zz_wI M a k v a k = v := by simp [zz_wI, zz_rI, upd]
theorem w_nk {M : Nat → Nat → Int32} {a k j : Nat} {v : Int32} (h : j ≠ k) : zz_wI M a k v a j = M a j := by simp [zz_wI, zz_rI, upd, h]
theorem f_ne {M : Nat → Nat → Int32} {a n b : Nat} {v : Int32} (h : b ≠ a) : zfl M a n v b = M b := if_neg h
theorem f_in {M : Nat → Nat → Int32} {a n j : Nat} {v : Int32} (h : j < n) : zfl M a n v a j = v := by simp [zfl, zz_rI, h]
theorem f_out {M : Nat → Nat → Int32} {a n j : Nat} {v : Int32} (h : n ≤ j) : zfl M a n v a j = M a j := by simp [zfl, zz_rI, show ¬ j < n by omega]
def fnd (M : Nat → Nat → Int32) (f : Nat) : Nat → Nat → Int32 := zz_wI (zz_wI M 51 f (M 51 f + iI 1)) 0 9 (iI f)
def fndR (M : Nat → Nat → Int32) (f : Nat) : Nat → Nat → Int32 := zz_wI (zz_wI M 52 8 (iI f)) 60 f (M 60 f + iI 1)
/-- the places from a on, n of them, are x -/
def zfr (M : Nat → Nat → Int32) (c a n : Nat) (x : Int32) : Nat → Nat → Int32 := zz_rI M c (fun j => if a ≤ j ∧ j < a + n then x else M c j)
theorem zfr_0 (M : Nat → Nat → Int32) (c a : Nat) (x : Int32) : zfr M c a 0 x = M := by
  funext b
  unfold zfr zz_rI
  split
  · rename_i h; subst h; funext j; rw [if_neg (by omega)]
  · rfl
theorem zfr_s (M : Nat → Nat → Int32) (c a n : Nat) (x : Int32) : zz_wI (zfr M c a n x) c (a + n) x = zfr M c a (n + 1) x := by
  funext b
  unfold zz_wI zfr zz_rI
  split
  · funext j
    simp only [if_true, upd]
    by_cases h : j = a + n
    · rw [if_pos h, if_pos (by omega)]
    · rw [if_neg h]
      by_cases h2 : a ≤ j ∧ j < a + n
      · rw [if_pos h2, if_pos (by omega)]
      · rw [if_neg h2, if_neg (by omega)]
  · rfl
theorem r_ne {M : Nat → Nat → Int32} {c a n b : Nat} {x : Int32} (h : b ≠ c) : zfr M c a n x b = M b := if_neg h
theorem r_in {M : Nat → Nat → Int32} {c a n j : Nat} {x : Int32} (h : a ≤ j) (h2 : j < a + n) : zfr M c a n x c j = x := by simp only [zfr, zz_rI, if_true]; rw [if_pos ⟨h, h2⟩]
theorem r_out {M : Nat → Nat → Int32} {c a n j : Nat} {x : Int32} (h : j < a ∨ a + n ≤ j) : zfr M c a n x c j = M c j := by simp only [zfr, zz_rI, if_true]; rw [if_neg (by omega)]
section ZR
variable (M : Nat → Nat → Int32) (L : Nat → Nat → Int64)
theorem s_141 (f : Nat) (h1 : 1 ≤ f) (h2 : f ≤ 5) : zc 1 141 [.ref 0, .int (iI f)] M L (some (.int (iI (-3)))) (fnd M f) L := by
  refine zc_of (n := 0) (ls := [some (.ref 0), some (.int (iI f))]) mk_141 rfl rfl rfl rfl (fun d hd N xs => ?_)
  simp (disch := omega) only [b_141_0, b_141_1, ix_nat, iI_lit, iI_neg, iI_add, iI_sub, iI_mul, t_lt, t_le, t_eq, iI_to, b2_to, if_10, if_11, nor_em, Decidable.not_not, Int.reduceEq, Int.reduceLT, Int.reduceLE, Int.reduceAdd, Int.reduceSub, Int.reduceMul, Int.reduceNeg, reduceIte, or_true, true_or, or_false, false_or, o_some]
  rw [if_neg (by omega), if_neg (by omega)]
  rfl
theorem g_141 (f : Nat) (h1 : 1 ≤ f) (h2 : f ≤ 5) {d N : Nat} {xs : Nat → Int32} {tb_ : List zz_B} {t_ : Nat} {ls_ : zz_L} {rest_ : List Value} (hd_ : 1 ≤ d) : (zz_o (zz_call_ d 141 [.ref 0, .int (iI f)] (zm N xs M L)) fun r => zz_X (zz_call_ d) tb_ t_ ls_ (r.1.toList ++ rest_) r.2) = zz_X (zz_call_ d) tb_ t_ ls_ ((.int (iI (-3))) :: rest_) (zm N xs (fnd M f) L) := (s_141 M L f h1 h2).go hd_
theorem s_161 (f : Nat) (h1 : 1 ≤ f) (h2 : f ≤ 5) : zc 1 161 [.ref 52, .int (iI f)] M L (some (.int (iI (-3)))) (fndR M f) L := by
  refine zc_of (n := 0) (ls := [some (.ref 52), some (.int (iI f))]) mk_161 rfl rfl rfl rfl (fun d hd N xs => ?_)
  simp (disch := omega) only [b_161_0, ix_nat, w_ne, iI_lit, iI_neg, iI_add, iI_sub, iI_mul, t_lt, t_le, t_eq, iI_to, b2_to, if_10, if_11, nor_em, Decidable.not_not, Int.reduceEq, Int.reduceLT, Int.reduceLE, Int.reduceAdd, Int.reduceSub, Int.reduceMul, Int.reduceNeg, reduceIte, or_true, true_or, or_false, false_or, o_some]
  rfl
theorem g_161 (f : Nat) (h1 : 1 ≤ f) (h2 : f ≤ 5) {d N : Nat} {xs : Nat → Int32} {tb_ : List zz_B} {t_ : Nat} {ls_ : zz_L} {rest_ : List Value} (hd_ : 1 ≤ d) : (zz_o (zz_call_ d 161 [.ref 52, .int (iI f)] (zm N xs M L)) fun r => zz_X (zz_call_ d) tb_ t_ ls_ (r.1.toList ++ rest_) r.2) = zz_X (zz_call_ d) tb_ t_ ls_ ((.int (iI (-3))) :: rest_) (zm N xs (fndR M f) L) := (s_161 M L f h1 h2).go hd_
theorem s_162 (x y : Int32) : zc 1 162 [.ref 52, .int x, .int y] M L (some (.int y)) (zz_wI M 52 10 x) L := by
  refine zc_of (n := 0) (ls := [some (.ref 52), some (.int x), some (.int y)]) mk_162 rfl rfl rfl rfl (fun d hd N xs => ?_)
  simp only [b_162_0]
theorem g_162 (x y : Int32) {d N : Nat} {xs : Nat → Int32} {tb_ : List zz_B} {t_ : Nat} {ls_ : zz_L} {rest_ : List Value} (hd_ : 1 ≤ d) : (zz_o (zz_call_ d 162 [.ref 52, .int x, .int y] (zm N xs M L)) fun r => zz_X (zz_call_ d) tb_ t_ ls_ (r.1.toList ++ rest_) r.2) = zz_X (zz_call_ d) tb_ t_ ls_ ((.int y) :: rest_) (zm N xs (zz_wI M 52 10 x) L) := (s_162 M L x y).go hd_
theorem s_157 (a b c : Int) (h1 : -9223372036854775808 ≤ a) (h2 : a ≤ 9223372036854775807) (h3 : -9223372036854775808 ≤ b) (h4 : b ≤ 9223372036854775807) (h5 : -9223372036854775808 ≤ c) (h6 : c ≤ 9223372036854775807) : zc 1 157 [.long (lI a), .long (lI b), .long (lI c)] M L (some (.int (b2 (b ≤ a ∧ a ≤ c)))) M L := by
  refine zc_of (n := 0) (ls := [some (.long (lI a)), none, some (.long (lI b)), none, some (.long (lI c)), none]) mk_157 rfl rfl rfl rfl (fun d hd N xs => ?_)
  simp only [b_157_0, b_157_1, b_157_2, lg_lI h1 h2 h3 h4, lg_lI h1 h2 h5 h6]
  by_cases q1 : a < b
  · have e : (if b < a then (1 : Int32) else if a = b then 0 else -1) = -1 := by rw [if_neg (by omega), if_neg (by omega)]
    rw [e, if_pos (by decide), b2_f (by omega), if_pos (by decide)]; rfl
  · have e : ¬ (if b < a then (1 : Int32) else if a = b then 0 else -1) < 0 := by
      by_cases q : b < a
      · rw [if_pos q]; decide
      · rw [if_neg q, if_pos (by omega)]; decide
    rw [if_neg e]
    by_cases q2 : c < a
    · rw [if_pos q2, if_pos (by decide), b2_f (by omega), if_pos (by decide)]; rfl
    · have e : ¬ (0 : Int32) < (if c < a then (1 : Int32) else if a = c then 0 else -1) := by
        rw [if_neg q2]
        split <;> decide
      rw [if_neg e, b2_t (by omega), if_pos (by decide)]; rfl
theorem g_157 (a b c : Int) (h1 : -9223372036854775808 ≤ a) (h2 : a ≤ 9223372036854775807) (h3 : -9223372036854775808 ≤ b) (h4 : b ≤ 9223372036854775807) (h5 : -9223372036854775808 ≤ c) (h6 : c ≤ 9223372036854775807) {d N : Nat} {xs : Nat → Int32} {tb_ : List zz_B} {t_ : Nat} {ls_ : zz_L} {rest_ : List Value} (hd_ : 1 ≤ d) : (zz_o (zz_call_ d 157 [.long (lI a), .long (lI b), .long (lI c)] (zm N xs M L)) fun r => zz_X (zz_call_ d) tb_ t_ ls_ (r.1.toList ++ rest_) r.2) = zz_X (zz_call_ d) tb_ t_ ls_ ((.int (b2 (b ≤ a ∧ a ≤ c))) :: rest_) (zm N xs M L) := (s_157 M L a b c h1 h2 h3 h4 h5 h6).go hd_
theorem s_164 (z : Int) (h1 : -2147483648 ≤ z) (h2 : z ≤ 2147483647) : zc 2 164 [.int (iI z)] M L (some (.int (b2 (0 ≤ z ∧ z < 6)))) M L := by
  refine zc_of (n := 1) (ls := [some (.int (iI z))]) mk_164 rfl rfl rfl rfl (fun d hd N xs => ?_)
  simp (disch := omega) only [b_164_0, b_164_1, iI_long, lI_lit, g_157, iI_lit, iI_neg, iI_add, iI_sub, iI_mul, t_lt, t_le, t_eq, iI_to, b2_to, if_10, if_11, nor_em, Decidable.not_not, Int.reduceEq, Int.reduceLT, Int.reduceLE, Int.reduceAdd, Int.reduceSub, Int.reduceMul, Int.reduceNeg, reduceIte, or_true, true_or, or_false, false_or, o_some]
  rw [b2_cg (show (0 ≤ z ∧ z ≤ 5) ↔ (0 ≤ z ∧ z < 6) by omega)]
theorem g_164 (z : Int) (h1 : -2147483648 ≤ z) (h2 : z ≤ 2147483647) {d N : Nat} {xs : Nat → Int32} {tb_ : List zz_B} {t_ : Nat} {ls_ : zz_L} {rest_ : List Value} (hd_ : 2 ≤ d) : (zz_o (zz_call_ d 164 [.int (iI z)] (zm N xs M L)) fun r => zz_X (zz_call_ d) tb_ t_ ls_ (r.1.toList ++ rest_) r.2) = zz_X (zz_call_ d) tb_ t_ ls_ ((.int (b2 (0 ≤ z ∧ z < 6))) :: rest_) (zm N xs M L) := (s_164 M L z h1 h2).go hd_
theorem s_165 (z : Int) (h1 : -2147483648 ≤ z) (h2 : z ≤ 2147483647) : zc 2 165 [.int (iI z)] M L (some (.int (b2 (0 ≤ z ∧ z < 4)))) M L := by
  refine zc_of (n := 1) (ls := [some (.int (iI z))]) mk_165 rfl rfl rfl rfl (fun d hd N xs => ?_)
  simp (disch := omega) only [b_165_0, b_165_1, iI_long, lI_lit, g_157, iI_lit, iI_neg, iI_add, iI_sub, iI_mul, t_lt, t_le, t_eq, iI_to, b2_to, if_10, if_11, nor_em, Decidable.not_not, Int.reduceEq, Int.reduceLT, Int.reduceLE, Int.reduceAdd, Int.reduceSub, Int.reduceMul, Int.reduceNeg, reduceIte, or_true, true_or, or_false, false_or, o_some]
  rw [b2_cg (show (0 ≤ z ∧ z ≤ 3) ↔ (0 ≤ z ∧ z < 4) by omega)]
theorem g_165 (z : Int) (h1 : -2147483648 ≤ z) (h2 : z ≤ 2147483647) {d N : Nat} {xs : Nat → Int32} {tb_ : List zz_B} {t_ : Nat} {ls_ : zz_L} {rest_ : List Value} (hd_ : 2 ≤ d) : (zz_o (zz_call_ d 165 [.int (iI z)] (zm N xs M L)) fun r => zz_X (zz_call_ d) tb_ t_ ls_ (r.1.toList ++ rest_) r.2) = zz_X (zz_call_ d) tb_ t_ ls_ ((.int (b2 (0 ≤ z ∧ z < 4))) :: rest_) (zm N xs M L) := (s_165 M L z h1 h2).go hd_
theorem s_142aB (z : Int) (h1 : -2147483648 ≤ z) (h2 : z ≤ 2147483647) (h : ¬ (0 ≤ z ∧ z < 6)) : zc 3 142 [.ref 0, .ref 1, .int (iI z)] M L (some (.int (iI (-1)))) M L := by
  refine zc_of (n := 2) (ls := [some (.ref 0), some (.ref 1), some (.int (iI z))]) mk_142 rfl rfl rfl rfl (fun d hd N xs => ?_)
  simp (disch := omega) only [b_142a_0, b_142a_1, b_142a_2, b_142a_3, b_142a_4, b_142a_5, g_11a, b2_f h, iI_lit, iI_neg, iI_add, iI_sub, iI_mul, t_lt, t_le, t_eq, iI_to, b2_to, if_10, if_11, nor_em, Decidable.not_not, Int.reduceEq, Int.reduceLT, Int.reduceLE, Int.reduceAdd, Int.reduceSub, Int.reduceMul, Int.reduceNeg, reduceIte, or_true, true_or, or_false, false_or, o_some]
theorem g_142aB (z : Int) (h1 : -2147483648 ≤ z) (h2 : z ≤ 2147483647) (h : ¬ (0 ≤ z ∧ z < 6)) {d N : Nat} {xs : Nat → Int32} {tb_ : List zz_B} {t_ : Nat} {ls_ : zz_L} {rest_ : List Value} (hd_ : 3 ≤ d) : (zz_o (zz_call_ d 142 [.ref 0, .ref 1, .int (iI z)] (zm N xs M L)) fun r => zz_X (zz_call_ d) tb_ t_ ls_ (r.1.toList ++ rest_) r.2) = zz_X (zz_call_ d) tb_ t_ ls_ ((.int (iI (-1))) :: rest_) (zm N xs M L) := (s_142aB M L z h1 h2 h).go hd_
theorem s_142aN (z : Int) (h1 : 0 ≤ z) (h2 : z < 6) (h : (M 9 z.toNat).toInt = -1) : zc 3 142 [.ref 0, .ref 1, .int (iI z)] M L (some (.int (iI (-3)))) (fnd M 1) L := by
  refine zc_of (n := 2) (ls := [some (.ref 0), some (.ref 1), some (.int (iI z))]) mk_142 rfl rfl rfl rfl (fun d hd N xs => ?_)
  simp (disch := omega) only [b_142a_0, b_142a_1, b_142a_2, b_142a_3, b_142a_4, b_142a_5, g_11a, g_12a, b2_t (show 0 ≤ z ∧ z < 6 from ⟨h1, h2⟩), b2_f (show ¬ ((0 ≤ z ∧ z < 6) ∧ (M 9 z.toNat).toInt ≠ -1) by omega), iI_lit, iI_neg, iI_add, iI_sub, iI_mul, t_lt, t_le, t_eq, iI_to, b2_to, if_10, if_11, nor_em, Decidable.not_not, Int.reduceEq, Int.reduceLT, Int.reduceLE, Int.reduceAdd, Int.reduceSub, Int.reduceMul, Int.reduceNeg, reduceIte, or_true, true_or, or_false, false_or, o_some]
  rw [show (iI 1 : Int32) = iI ((1 : Nat) : Int) from rfl, g_141 M L 1 (by omega) (by omega) (by omega), b_142a_5]
theorem g_142aN (z : Int) (h1 : 0 ≤ z) (h2 : z < 6) (h : (M 9 z.toNat).toInt = -1) {d N : Nat} {xs : Nat → Int32} {tb_ : List zz_B} {t_ : Nat} {ls_ : zz_L} {rest_ : List Value} (hd_ : 3 ≤ d) : (zz_o (zz_call_ d 142 [.ref 0, .ref 1, .int (iI z)] (zm N xs M L)) fun r => zz_X (zz_call_ d) tb_ t_ ls_ (r.1.toList ++ rest_) r.2) = zz_X (zz_call_ d) tb_ t_ ls_ ((.int (iI (-3))) :: rest_) (zm N xs (fnd M 1) L) := (s_142aN M L z h1 h2 h).go hd_
theorem s_142aO (z : Int) (h1 : 0 ≤ z) (h2 : z < 6) (h : (M 9 z.toNat).toInt ≠ -1) : zc 3 142 [.ref 0, .ref 1, .int (iI z)] M L (some (.int (iI 0))) M L := by
  refine zc_of (n := 2) (ls := [some (.ref 0), some (.ref 1), some (.int (iI z))]) mk_142 rfl rfl rfl rfl (fun d hd N xs => ?_)
  simp (disch := omega) only [b_142a_0, b_142a_1, b_142a_2, b_142a_3, b_142a_4, b_142a_5, g_11a, g_12a, b2_t (show 0 ≤ z ∧ z < 6 from ⟨h1, h2⟩), b2_t (show ((0 ≤ z ∧ z < 6) ∧ (M 9 z.toNat).toInt ≠ -1) by omega), iI_lit, iI_neg, iI_add, iI_sub, iI_mul, t_lt, t_le, t_eq, iI_to, b2_to, if_10, if_11, nor_em, Decidable.not_not, Int.reduceEq, Int.reduceLT, Int.reduceLE, Int.reduceAdd, Int.reduceSub, Int.reduceMul, Int.reduceNeg, reduceIte, or_true, true_or, or_false, false_or, o_some]
theorem g_142aO (z : Int) (h1 : 0 ≤ z) (h2 : z < 6) (h : (M 9 z.toNat).toInt ≠ -1) {d N : Nat} {xs : Nat → Int32} {tb_ : List zz_B} {t_ : Nat} {ls_ : zz_L} {rest_ : List Value} (hd_ : 3 ≤ d) : (zz_o (zz_call_ d 142 [.ref 0, .ref 1, .int (iI z)] (zm N xs M L)) fun r => zz_X (zz_call_ d) tb_ t_ ls_ (r.1.toList ++ rest_) r.2) = zz_X (zz_call_ d) tb_ t_ ls_ ((.int (iI 0)) :: rest_) (zm N xs M L) := (s_142aO M L z h1 h2 h).go hd_
theorem s_143aB (z i : Int) (h1 : -2147483648 ≤ z) (h2 : z ≤ 2147483647) (h : ¬ (0 ≤ z ∧ z < 6)) : zc 4 143 [.ref 0, .ref 1, .int (iI z), .int (iI i)] M L (some (.int (iI (-1)))) M L := by
  refine zc_of (n := 3) (ls := [some (.ref 0), some (.ref 1), some (.int (iI z)), some (.int (iI i)), none]) mk_143 rfl rfl rfl rfl (fun d hd N xs => ?_)
  rw [b_143a_0, g_142aB M L z h1 h2 h (by omega), b_143a_1, iI_lit, if_neg (by decide)]
theorem g_143aB (z i : Int) (h1 : -2147483648 ≤ z) (h2 : z ≤ 2147483647) (h : ¬ (0 ≤ z ∧ z < 6)) {d N : Nat} {xs : Nat → Int32} {tb_ : List zz_B} {t_ : Nat} {ls_ : zz_L} {rest_ : List Value} (hd_ : 4 ≤ d) : (zz_o (zz_call_ d 143 [.ref 0, .ref 1, .int (iI z), .int (iI i)] (zm N xs M L)) fun r => zz_X (zz_call_ d) tb_ t_ ls_ (r.1.toList ++ rest_) r.2) = zz_X (zz_call_ d) tb_ t_ ls_ ((.int (iI (-1))) :: rest_) (zm N xs M L) := (s_143aB M L z i h1 h2 h).go hd_
theorem s_143aN (z i : Int) (h1 : 0 ≤ z) (h2 : z < 6) (h : (M 9 z.toNat).toInt = -1) : zc 4 143 [.ref 0, .ref 1, .int (iI z), .int (iI i)] M L (some (.int (iI (-3)))) (fnd M 1) L := by
  refine zc_of (n := 3) (ls := [some (.ref 0), some (.ref 1), some (.int (iI z)), some (.int (iI i)), none]) mk_143 rfl rfl rfl rfl (fun d hd N xs => ?_)
  rw [b_143a_0, g_142aN M L z h1 h2 h (by omega), b_143a_1, iI_lit, if_neg (by decide)]
theorem g_143aN (z i : Int) (h1 : 0 ≤ z) (h2 : z < 6) (h : (M 9 z.toNat).toInt = -1) {d N : Nat} {xs : Nat → Int32} {tb_ : List zz_B} {t_ : Nat} {ls_ : zz_L} {rest_ : List Value} (hd_ : 4 ≤ d) : (zz_o (zz_call_ d 143 [.ref 0, .ref 1, .int (iI z), .int (iI i)] (zm N xs M L)) fun r => zz_X (zz_call_ d) tb_ t_ ls_ (r.1.toList ++ rest_) r.2) = zz_X (zz_call_ d) tb_ t_ ls_ ((.int (iI (-3))) :: rest_) (zm N xs (fnd M 1) L) := (s_143aN M L z i h1 h2 h).go hd_
theorem s_143aY (z i : Int) (h1 : 0 ≤ z) (h2 : z < 6) (h3 : -2147483648 ≤ i) (h4 : i ≤ 2147483647) (h : (M 9 z.toNat).toInt ≠ -1) (hi : ¬ (0 ≤ i ∧ i < (M 9 z.toNat).toInt)) : zc 4 143 [.ref 0, .ref 1, .int (iI z), .int (iI i)] M L (some (.int (iI (-3)))) (fnd M 2) L := by
  refine zc_of (n := 3) (ls := [some (.ref 0), some (.ref 1), some (.int (iI z)), some (.int (iI i)), none]) mk_143 rfl rfl rfl rfl (fun d hd N xs => ?_)
  rw [b_143a_0, g_142aO M L z h1 h2 h (by omega), b_143a_1, iI_lit, if_pos rfl, b_143a_2, g_13a M L z i (by omega) (by omega) h3 h4 (by omega), b2_f (by omega), b_143a_3, iI_lit, if_pos rfl, b_143a_4, show ((2 : Int32)) = iI ((2 : Nat) : Int) from rfl, g_141 M L 2 (by omega) (by omega) (by omega), b_143a_5]
theorem g_143aY (z i : Int) (h1 : 0 ≤ z) (h2 : z < 6) (h3 : -2147483648 ≤ i) (h4 : i ≤ 2147483647) (h : (M 9 z.toNat).toInt ≠ -1) (hi : ¬ (0 ≤ i ∧ i < (M 9 z.toNat).toInt)) {d N : Nat} {xs : Nat → Int32} {tb_ : List zz_B} {t_ : Nat} {ls_ : zz_L} {rest_ : List Value} (hd_ : 4 ≤ d) : (zz_o (zz_call_ d 143 [.ref 0, .ref 1, .int (iI z), .int (iI i)] (zm N xs M L)) fun r => zz_X (zz_call_ d) tb_ t_ ls_ (r.1.toList ++ rest_) r.2) = zz_X (zz_call_ d) tb_ t_ ls_ ((.int (iI (-3))) :: rest_) (zm N xs (fnd M 2) L) := (s_143aY M L z i h1 h2 h3 h4 h hi).go hd_
theorem s_143aO (z i : Int) (h1 : 0 ≤ z) (h2 : z < 6) (h : (M 9 z.toNat).toInt ≠ -1) (h3 : 0 ≤ i) (h4 : i < (M 9 z.toNat).toInt) (h5 : i ≤ 2147483647) : zc 4 143 [.ref 0, .ref 1, .int (iI z), .int (iI i)] M L (some (.int (iI 0))) M L := by
  refine zc_of (n := 3) (ls := [some (.ref 0), some (.ref 1), some (.int (iI z)), some (.int (iI i)), none]) mk_143 rfl rfl rfl rfl (fun d hd N xs => ?_)
  rw [b_143a_0, g_142aO M L z h1 h2 h (by omega), b_143a_1, iI_lit, if_pos rfl, b_143a_2, g_13a M L z i (by omega) (by omega) (by omega) h5 (by omega), b2_t (by omega), b_143a_3, iI_lit, if_neg (by decide), b_143a_5]
theorem g_143aO (z i : Int) (h1 : 0 ≤ z) (h2 : z < 6) (h : (M 9 z.toNat).toInt ≠ -1) (h3 : 0 ≤ i) (h4 : i < (M 9 z.toNat).toInt) (h5 : i ≤ 2147483647) {d N : Nat} {xs : Nat → Int32} {tb_ : List zz_B} {t_ : Nat} {ls_ : zz_L} {rest_ : List Value} (hd_ : 4 ≤ d) : (zz_o (zz_call_ d 143 [.ref 0, .ref 1, .int (iI z), .int (iI i)] (zm N xs M L)) fun r => zz_X (zz_call_ d) tb_ t_ ls_ (r.1.toList ++ rest_) r.2) = zz_X (zz_call_ d) tb_ t_ ls_ ((.int (iI 0)) :: rest_) (zm N xs M L) := (s_143aO M L z i h1 h2 h h3 h4 h5).go hd_
theorem s_142bB (z : Int) (h1 : -2147483648 ≤ z) (h2 : z ≤ 2147483647) (h : ¬ (0 ≤ z ∧ z < 4)) : zc 3 142 [.ref 0, .ref 10, .int (iI z)] M L (some (.int (iI (-1)))) M L := by
  refine zc_of (n := 2) (ls := [some (.ref 0), some (.ref 10), some (.int (iI z))]) mk_142 rfl rfl rfl rfl (fun d hd N xs => ?_)
  simp (disch := omega) only [b_142b_0, b_142b_1, b_142b_2, b_142b_3, b_142b_4, b_142b_5, g_11b, b2_f h, iI_lit, iI_neg, iI_add, iI_sub, iI_mul, t_lt, t_le, t_eq, iI_to, b2_to, if_10, if_11, nor_em, Decidable.not_not, Int.reduceEq, Int.reduceLT, Int.reduceLE, Int.reduceAdd, Int.reduceSub, Int.reduceMul, Int.reduceNeg, reduceIte, or_true, true_or, or_false, false_or, o_some]
theorem g_142bB (z : Int) (h1 : -2147483648 ≤ z) (h2 : z ≤ 2147483647) (h : ¬ (0 ≤ z ∧ z < 4)) {d N : Nat} {xs : Nat → Int32} {tb_ : List zz_B} {t_ : Nat} {ls_ : zz_L} {rest_ : List Value} (hd_ : 3 ≤ d) : (zz_o (zz_call_ d 142 [.ref 0, .ref 10, .int (iI z)] (zm N xs M L)) fun r => zz_X (zz_call_ d) tb_ t_ ls_ (r.1.toList ++ rest_) r.2) = zz_X (zz_call_ d) tb_ t_ ls_ ((.int (iI (-1))) :: rest_) (zm N xs M L) := (s_142bB M L z h1 h2 h).go hd_
theorem s_142bN (z : Int) (h1 : 0 ≤ z) (h2 : z < 4) (h : (M 16 z.toNat).toInt = -1) : zc 3 142 [.ref 0, .ref 10, .int (iI z)] M L (some (.int (iI (-3)))) (fnd M 1) L := by
  refine zc_of (n := 2) (ls := [some (.ref 0), some (.ref 10), some (.int (iI z))]) mk_142 rfl rfl rfl rfl (fun d hd N xs => ?_)
  simp (disch := omega) only [b_142b_0, b_142b_1, b_142b_2, b_142b_3, b_142b_4, b_142b_5, g_11b, g_12b, b2_t (show 0 ≤ z ∧ z < 4 from ⟨h1, h2⟩), b2_f (show ¬ ((0 ≤ z ∧ z < 4) ∧ (M 16 z.toNat).toInt ≠ -1) by omega), iI_lit, iI_neg, iI_add, iI_sub, iI_mul, t_lt, t_le, t_eq, iI_to, b2_to, if_10, if_11, nor_em, Decidable.not_not, Int.reduceEq, Int.reduceLT, Int.reduceLE, Int.reduceAdd, Int.reduceSub, Int.reduceMul, Int.reduceNeg, reduceIte, or_true, true_or, or_false, false_or, o_some]
  rw [show (iI 1 : Int32) = iI ((1 : Nat) : Int) from rfl, g_141 M L 1 (by omega) (by omega) (by omega), b_142b_5]
theorem g_142bN (z : Int) (h1 : 0 ≤ z) (h2 : z < 4) (h : (M 16 z.toNat).toInt = -1) {d N : Nat} {xs : Nat → Int32} {tb_ : List zz_B} {t_ : Nat} {ls_ : zz_L} {rest_ : List Value} (hd_ : 3 ≤ d) : (zz_o (zz_call_ d 142 [.ref 0, .ref 10, .int (iI z)] (zm N xs M L)) fun r => zz_X (zz_call_ d) tb_ t_ ls_ (r.1.toList ++ rest_) r.2) = zz_X (zz_call_ d) tb_ t_ ls_ ((.int (iI (-3))) :: rest_) (zm N xs (fnd M 1) L) := (s_142bN M L z h1 h2 h).go hd_
theorem s_142bO (z : Int) (h1 : 0 ≤ z) (h2 : z < 4) (h : (M 16 z.toNat).toInt ≠ -1) : zc 3 142 [.ref 0, .ref 10, .int (iI z)] M L (some (.int (iI 0))) M L := by
  refine zc_of (n := 2) (ls := [some (.ref 0), some (.ref 10), some (.int (iI z))]) mk_142 rfl rfl rfl rfl (fun d hd N xs => ?_)
  simp (disch := omega) only [b_142b_0, b_142b_1, b_142b_2, b_142b_3, b_142b_4, b_142b_5, g_11b, g_12b, b2_t (show 0 ≤ z ∧ z < 4 from ⟨h1, h2⟩), b2_t (show ((0 ≤ z ∧ z < 4) ∧ (M 16 z.toNat).toInt ≠ -1) by omega), iI_lit, iI_neg, iI_add, iI_sub, iI_mul, t_lt, t_le, t_eq, iI_to, b2_to, if_10, if_11, nor_em, Decidable.not_not, Int.reduceEq, Int.reduceLT, Int.reduceLE, Int.reduceAdd, Int.reduceSub, Int.reduceMul, Int.reduceNeg, reduceIte, or_true, true_or, or_false, false_or, o_some]
theorem g_142bO (z : Int) (h1 : 0 ≤ z) (h2 : z < 4) (h : (M 16 z.toNat).toInt ≠ -1) {d N : Nat} {xs : Nat → Int32} {tb_ : List zz_B} {t_ : Nat} {ls_ : zz_L} {rest_ : List Value} (hd_ : 3 ≤ d) : (zz_o (zz_call_ d 142 [.ref 0, .ref 10, .int (iI z)] (zm N xs M L)) fun r => zz_X (zz_call_ d) tb_ t_ ls_ (r.1.toList ++ rest_) r.2) = zz_X (zz_call_ d) tb_ t_ ls_ ((.int (iI 0)) :: rest_) (zm N xs M L) := (s_142bO M L z h1 h2 h).go hd_
theorem s_143bB (z i : Int) (h1 : -2147483648 ≤ z) (h2 : z ≤ 2147483647) (h : ¬ (0 ≤ z ∧ z < 4)) : zc 4 143 [.ref 0, .ref 10, .int (iI z), .int (iI i)] M L (some (.int (iI (-1)))) M L := by
  refine zc_of (n := 3) (ls := [some (.ref 0), some (.ref 10), some (.int (iI z)), some (.int (iI i)), none]) mk_143 rfl rfl rfl rfl (fun d hd N xs => ?_)
  rw [b_143b_0, g_142bB M L z h1 h2 h (by omega), b_143b_1, iI_lit, if_neg (by decide)]
theorem g_143bB (z i : Int) (h1 : -2147483648 ≤ z) (h2 : z ≤ 2147483647) (h : ¬ (0 ≤ z ∧ z < 4)) {d N : Nat} {xs : Nat → Int32} {tb_ : List zz_B} {t_ : Nat} {ls_ : zz_L} {rest_ : List Value} (hd_ : 4 ≤ d) : (zz_o (zz_call_ d 143 [.ref 0, .ref 10, .int (iI z), .int (iI i)] (zm N xs M L)) fun r => zz_X (zz_call_ d) tb_ t_ ls_ (r.1.toList ++ rest_) r.2) = zz_X (zz_call_ d) tb_ t_ ls_ ((.int (iI (-1))) :: rest_) (zm N xs M L) := (s_143bB M L z i h1 h2 h).go hd_
theorem s_143bN (z i : Int) (h1 : 0 ≤ z) (h2 : z < 4) (h : (M 16 z.toNat).toInt = -1) : zc 4 143 [.ref 0, .ref 10, .int (iI z), .int (iI i)] M L (some (.int (iI (-3)))) (fnd M 1) L := by
  refine zc_of (n := 3) (ls := [some (.ref 0), some (.ref 10), some (.int (iI z)), some (.int (iI i)), none]) mk_143 rfl rfl rfl rfl (fun d hd N xs => ?_)
  rw [b_143b_0, g_142bN M L z h1 h2 h (by omega), b_143b_1, iI_lit, if_neg (by decide)]
theorem g_143bN (z i : Int) (h1 : 0 ≤ z) (h2 : z < 4) (h : (M 16 z.toNat).toInt = -1) {d N : Nat} {xs : Nat → Int32} {tb_ : List zz_B} {t_ : Nat} {ls_ : zz_L} {rest_ : List Value} (hd_ : 4 ≤ d) : (zz_o (zz_call_ d 143 [.ref 0, .ref 10, .int (iI z), .int (iI i)] (zm N xs M L)) fun r => zz_X (zz_call_ d) tb_ t_ ls_ (r.1.toList ++ rest_) r.2) = zz_X (zz_call_ d) tb_ t_ ls_ ((.int (iI (-3))) :: rest_) (zm N xs (fnd M 1) L) := (s_143bN M L z i h1 h2 h).go hd_
theorem s_143bY (z i : Int) (h1 : 0 ≤ z) (h2 : z < 4) (h3 : -2147483648 ≤ i) (h4 : i ≤ 2147483647) (h : (M 16 z.toNat).toInt ≠ -1) (hi : ¬ (0 ≤ i ∧ i < (M 16 z.toNat).toInt)) : zc 4 143 [.ref 0, .ref 10, .int (iI z), .int (iI i)] M L (some (.int (iI (-3)))) (fnd M 2) L := by
  refine zc_of (n := 3) (ls := [some (.ref 0), some (.ref 10), some (.int (iI z)), some (.int (iI i)), none]) mk_143 rfl rfl rfl rfl (fun d hd N xs => ?_)
  rw [b_143b_0, g_142bO M L z h1 h2 h (by omega), b_143b_1, iI_lit, if_pos rfl, b_143b_2, g_13b M L z i (by omega) (by omega) h3 h4 (by omega), b2_f (by omega), b_143b_3, iI_lit, if_pos rfl, b_143b_4, show ((2 : Int32)) = iI ((2 : Nat) : Int) from rfl, g_141 M L 2 (by omega) (by omega) (by omega), b_143b_5]
theorem g_143bY (z i : Int) (h1 : 0 ≤ z) (h2 : z < 4) (h3 : -2147483648 ≤ i) (h4 : i ≤ 2147483647) (h : (M 16 z.toNat).toInt ≠ -1) (hi : ¬ (0 ≤ i ∧ i < (M 16 z.toNat).toInt)) {d N : Nat} {xs : Nat → Int32} {tb_ : List zz_B} {t_ : Nat} {ls_ : zz_L} {rest_ : List Value} (hd_ : 4 ≤ d) : (zz_o (zz_call_ d 143 [.ref 0, .ref 10, .int (iI z), .int (iI i)] (zm N xs M L)) fun r => zz_X (zz_call_ d) tb_ t_ ls_ (r.1.toList ++ rest_) r.2) = zz_X (zz_call_ d) tb_ t_ ls_ ((.int (iI (-3))) :: rest_) (zm N xs (fnd M 2) L) := (s_143bY M L z i h1 h2 h3 h4 h hi).go hd_
theorem s_143bO (z i : Int) (h1 : 0 ≤ z) (h2 : z < 4) (h : (M 16 z.toNat).toInt ≠ -1) (h3 : 0 ≤ i) (h4 : i < (M 16 z.toNat).toInt) (h5 : i ≤ 2147483647) : zc 4 143 [.ref 0, .ref 10, .int (iI z), .int (iI i)] M L (some (.int (iI 0))) M L := by
  refine zc_of (n := 3) (ls := [some (.ref 0), some (.ref 10), some (.int (iI z)), some (.int (iI i)), none]) mk_143 rfl rfl rfl rfl (fun d hd N xs => ?_)
  rw [b_143b_0, g_142bO M L z h1 h2 h (by omega), b_143b_1, iI_lit, if_pos rfl, b_143b_2, g_13b M L z i (by omega) (by omega) (by omega) h5 (by omega), b2_t (by omega), b_143b_3, iI_lit, if_neg (by decide), b_143b_5]
theorem g_143bO (z i : Int) (h1 : 0 ≤ z) (h2 : z < 4) (h : (M 16 z.toNat).toInt ≠ -1) (h3 : 0 ≤ i) (h4 : i < (M 16 z.toNat).toInt) (h5 : i ≤ 2147483647) {d N : Nat} {xs : Nat → Int32} {tb_ : List zz_B} {t_ : Nat} {ls_ : zz_L} {rest_ : List Value} (hd_ : 4 ≤ d) : (zz_o (zz_call_ d 143 [.ref 0, .ref 10, .int (iI z), .int (iI i)] (zm N xs M L)) fun r => zz_X (zz_call_ d) tb_ t_ ls_ (r.1.toList ++ rest_) r.2) = zz_X (zz_call_ d) tb_ t_ ls_ ((.int (iI 0)) :: rest_) (zm N xs M L) := (s_143bO M L z i h1 h2 h h3 h4 h5).go hd_
end ZR

/-! Rows and texts, call by call: the reference. And copy, of both. -/
theorem cpy_0 {M : Nat → Nat → Int32} {c sp dp : Nat} {f : Nat → Int32} : zz_rI M c (va_cpy f (M c) sp dp 0) = M := by
  funext b
  unfold zz_rI
  split
  · rename_i h; subst h; funext j; simp only [va_cpy]; rw [if_neg (by omega)]
  · rfl
theorem cpy_s {M : Nat → Nat → Int32} {c sp dp k : Nat} {f g : Nat → Int32} : zz_wI (zz_rI M c (va_cpy f g sp dp k)) c (dp + k) (f (sp + k)) = zz_rI M c (va_cpy f g sp dp (k + 1)) := by
  funext b
  unfold zz_wI zz_rI
  split
  · funext j
    simp only [if_true, upd, va_cpy]
    by_cases h : j = dp + k
    · rw [if_pos h, if_pos (by omega), show j - dp = k by omega]
    · rw [if_neg h]
      by_cases h2 : dp ≤ j ∧ j < dp + k
      · rw [if_pos h2, if_pos (by omega)]
      · rw [if_neg h2, if_neg (by omega)]
  · rfl
theorem rr_ne {M : Nat → Nat → Int32} {a b : Nat} {f : Nat → Int32} (h : b ≠ a) : zz_rI M a f b = M b := if_neg h
theorem rr_at {M : Nat → Nat → Int32} {a : Nat} {f : Nat → Int32} : zz_rI M a f a = f := if_pos rfl
theorem c_in {α : Type} {f g : Nat → α} {sp dp n k : Nat} (h : dp ≤ k) (h2 : k < dp + n) : va_cpy f g sp dp n k = f (sp + (k - dp)) := if_pos ⟨h, h2⟩
theorem c_out {α : Type} {f g : Nat → α} {sp dp n k : Nat} (h : k < dp ∨ dp + n ≤ k) : va_cpy f g sp dp n k = g k := if_neg (by omega)
section ZR
variable (M : Nat → Nat → Int32) (L : Nat → Nat → Int64)
theorem l_166 (C : zz_C) (N : Nat) (xs : Nat → Int32) (z : Int) (n : Int32) (h1 : 0 ≤ z) (h2 : z < 6) : ∀ j k : Nat, k + j = 40 → zz_X C tb_166 1 [some (.ref 52), some (.int (iI z)), some (.int n), some (.int (iI k))] [] (zm N xs (zfr M 55 (40 * z.toNat) k (iI 0)) L) = some (none, zm N xs (zfr M 55 (40 * z.toNat) 40 (iI 0)) L)
  | 0, k, hk => by
    rw [b_166_1]
    simp (disch := omega) only [iI_lit, t_le, iI_to]
    rw [if_pos (by omega), b_166_2, show k = 40 by omega]
  | j + 1, k, hk => by
    rw [b_166_1]
    simp (disch := omega) only [iI_lit, t_le, iI_to, iI_mul, iI_add, ix_in, o_some]
    rw [if_neg (by omega), show (40 * z + (k : Int)).toNat = 40 * z.toNat + k by omega, zfr_s]
    exact l_166 C N xs z n h1 h2 j (k + 1) (by omega)
theorem s_166 (z : Int) (n : Int32) (h1 : 0 ≤ z) (h2 : z < 6) : zc 1 166 [.ref 52, .int (iI z), .int n] M L none (zfr (zz_wI M 56 z.toNat n) 55 (40 * z.toNat) 40 (iI 0)) L := by
  refine zc_of (n := 0) (ls := [some (.ref 52), some (.int (iI z)), some (.int n), none]) mk_166 rfl rfl rfl rfl (fun d hd N xs => ?_)
  have := l_166 (zz_wI M 56 z.toNat n) L (zz_call_ d) N xs z n h1 h2 40 0 (by omega)
  rw [zfr_0] at this
  simp (disch := omega) only [b_166_0, ix_in, o_some, iI_lit]
  exact this
theorem g_166 (z : Int) (n : Int32) (h1 : 0 ≤ z) (h2 : z < 6) {d N : Nat} {xs : Nat → Int32} {tb_ : List zz_B} {t_ : Nat} {ls_ : zz_L} {rest_ : List Value} (hd_ : 1 ≤ d) : (zz_o (zz_call_ d 166 [.ref 52, .int (iI z), .int n] (zm N xs M L)) fun r => zz_X (zz_call_ d) tb_ t_ ls_ (r.1.toList ++ rest_) r.2) = zz_X (zz_call_ d) tb_ t_ ls_ rest_ (zm N xs (zfr (zz_wI M 56 z.toNat n) 55 (40 * z.toNat) 40 (iI 0)) L) := (s_166 M L z n h1 h2).gov hd_
-- row
theorem s_167B (z n : Int) (h1 : -2147483648 ≤ z) (h2 : z ≤ 2147483647) (h3 : -2147483648 ≤ n) (h4 : n ≤ 2147483647) (h : ¬ (0 ≤ z ∧ z < 6) ∨ 40 < n) : zc 3 167 [.ref 52, .int (iI z), .int (iI n)] M L (some (.int (iI (-1)))) M L := by
  refine zc_of (n := 2) (ls := [some (.ref 52), some (.int (iI z)), some (.int (iI n))]) mk_167 rfl rfl rfl rfl (fun d hd N xs => ?_)
  simp (disch := omega) only [b_167_0, b_167_1, b_167_2, g_164, iI_lit, iI_neg, iI_add, iI_sub, iI_mul, t_lt, t_le, t_eq, iI_to, b2_to, if_10, if_11, nor_em, Decidable.not_not, Int.reduceEq, Int.reduceLT, Int.reduceLE, Int.reduceAdd, Int.reduceSub, Int.reduceMul, Int.reduceNeg, reduceIte, or_true, true_or, or_false, false_or, o_some]
  by_cases q : 0 ≤ z ∧ z < 6
  · rw [if_neg (by simp [q]), if_neg (by omega)]
  · rw [if_pos (by simpa using q)]
theorem g_167B (z n : Int) (h1 : -2147483648 ≤ z) (h2 : z ≤ 2147483647) (h3 : -2147483648 ≤ n) (h4 : n ≤ 2147483647) (h : ¬ (0 ≤ z ∧ z < 6) ∨ 40 < n) {d N : Nat} {xs : Nat → Int32} {tb_ : List zz_B} {t_ : Nat} {ls_ : zz_L} {rest_ : List Value} (hd_ : 3 ≤ d) : (zz_o (zz_call_ d 167 [.ref 52, .int (iI z), .int (iI n)] (zm N xs M L)) fun r => zz_X (zz_call_ d) tb_ t_ ls_ (r.1.toList ++ rest_) r.2) = zz_X (zz_call_ d) tb_ t_ ls_ ((.int (iI (-1))) :: rest_) (zm N xs M L) := (s_167B M L z n h1 h2 h3 h4 h).go hd_
theorem s_167S (z n : Int) (h1 : 0 ≤ z) (h2 : z < 6) (h3 : -2147483648 ≤ n) (h4 : n < 0) : zc 3 167 [.ref 52, .int (iI z), .int (iI n)] M L (some (.int (iI (-3)))) (fndR M 5) L := by
  refine zc_of (n := 2) (ls := [some (.ref 52), some (.int (iI z)), some (.int (iI n))]) mk_167 rfl rfl rfl rfl (fun d hd N xs => ?_)
  simp (disch := omega) only [b_167_0, b_167_1, b_167_3, g_164, b2_t (show 0 ≤ z ∧ z < 6 from ⟨h1, h2⟩), iI_lit, iI_neg, iI_add, iI_sub, iI_mul, t_lt, t_le, t_eq, iI_to, b2_to, if_10, if_11, nor_em, Decidable.not_not, Int.reduceEq, Int.reduceLT, Int.reduceLE, Int.reduceAdd, Int.reduceSub, Int.reduceMul, Int.reduceNeg, reduceIte, or_true, true_or, or_false, false_or, o_some]
  rw [if_pos (by omega), if_neg (by omega), show (iI 5 : Int32) = iI ((5 : Nat) : Int) from rfl, g_161 M L 5 (by omega) (by omega) (by omega), b_167_4]
theorem g_167S (z n : Int) (h1 : 0 ≤ z) (h2 : z < 6) (h3 : -2147483648 ≤ n) (h4 : n < 0) {d N : Nat} {xs : Nat → Int32} {tb_ : List zz_B} {t_ : Nat} {ls_ : zz_L} {rest_ : List Value} (hd_ : 3 ≤ d) : (zz_o (zz_call_ d 167 [.ref 52, .int (iI z), .int (iI n)] (zm N xs M L)) fun r => zz_X (zz_call_ d) tb_ t_ ls_ (r.1.toList ++ rest_) r.2) = zz_X (zz_call_ d) tb_ t_ ls_ ((.int (iI (-3))) :: rest_) (zm N xs (fndR M 5) L) := (s_167S M L z n h1 h2 h3 h4).go hd_
theorem s_167O (z : Int) (n : Nat) (h1 : 0 ≤ z) (h2 : z < 6) (h4 : n ≤ 40) : zc 3 167 [.ref 52, .int (iI z), .int (iI n)] M L (some (.int (iI n))) (zfr (zz_wI M 56 z.toNat (iI n)) 55 (40 * z.toNat) 40 (iI 0)) L := by
  refine zc_of (n := 2) (ls := [some (.ref 52), some (.int (iI z)), some (.int (iI n))]) mk_167 rfl rfl rfl rfl (fun d hd N xs => ?_)
  simp (disch := omega) only [b_167_0, b_167_1, b_167_3, g_164, b2_t (show 0 ≤ z ∧ z < 6 from ⟨h1, h2⟩), iI_lit, iI_neg, iI_add, iI_sub, iI_mul, t_lt, t_le, t_eq, iI_to, b2_to, if_10, if_11, nor_em, Decidable.not_not, Int.reduceEq, Int.reduceLT, Int.reduceLE, Int.reduceAdd, Int.reduceSub, Int.reduceMul, Int.reduceNeg, reduceIte, or_true, true_or, or_false, false_or, o_some]
  rw [if_pos (by omega), if_pos (by omega), b_167_5, g_166 M L z (iI n) h1 h2 (by omega), b_167_6]
theorem g_167O (z : Int) (n : Nat) (h1 : 0 ≤ z) (h2 : z < 6) (h4 : n ≤ 40) {d N : Nat} {xs : Nat → Int32} {tb_ : List zz_B} {t_ : Nat} {ls_ : zz_L} {rest_ : List Value} (hd_ : 3 ≤ d) : (zz_o (zz_call_ d 167 [.ref 52, .int (iI z), .int (iI n)] (zm N xs M L)) fun r => zz_X (zz_call_ d) tb_ t_ ls_ (r.1.toList ++ rest_) r.2) = zz_X (zz_call_ d) tb_ t_ ls_ ((.int (iI n)) :: rest_) (zm N xs (zfr (zz_wI M 56 z.toNat (iI n)) 55 (40 * z.toNat) 40 (iI 0)) L) := (s_167O M L z n h1 h2 h4).go hd_
-- at
theorem s_169B (z i : Int) (h1 : -2147483648 ≤ z) (h2 : z ≤ 2147483647) (h : ¬ (0 ≤ z ∧ z < 6)) : zc 3 169 [.ref 52, .int (iI z), .int (iI i)] M L (some (.int (iI (-1)))) M L := by
  refine zc_of (n := 2) (ls := [some (.ref 52), some (.int (iI z)), some (.int (iI i))]) mk_169 rfl rfl rfl rfl (fun d hd N xs => ?_)
  simp (disch := omega) only [b_169_0, b_169_1, g_164, b2_f h, iI_lit, iI_neg, iI_add, iI_sub, iI_mul, t_lt, t_le, t_eq, iI_to, b2_to, if_10, if_11, nor_em, Decidable.not_not, Int.reduceEq, Int.reduceLT, Int.reduceLE, Int.reduceAdd, Int.reduceSub, Int.reduceMul, Int.reduceNeg, reduceIte, or_true, true_or, or_false, false_or, o_some]
theorem g_169B (z i : Int) (h1 : -2147483648 ≤ z) (h2 : z ≤ 2147483647) (h : ¬ (0 ≤ z ∧ z < 6)) {d N : Nat} {xs : Nat → Int32} {tb_ : List zz_B} {t_ : Nat} {ls_ : zz_L} {rest_ : List Value} (hd_ : 3 ≤ d) : (zz_o (zz_call_ d 169 [.ref 52, .int (iI z), .int (iI i)] (zm N xs M L)) fun r => zz_X (zz_call_ d) tb_ t_ ls_ (r.1.toList ++ rest_) r.2) = zz_X (zz_call_ d) tb_ t_ ls_ ((.int (iI (-1))) :: rest_) (zm N xs M L) := (s_169B M L z i h1 h2 h).go hd_
theorem s_169N (z i : Int) (h1 : 0 ≤ z) (h2 : z < 6) (h : (M 56 z.toNat).toInt < 0) : zc 3 169 [.ref 52, .int (iI z), .int (iI i)] M L (some (.int (iI (-3)))) (fndR M 1) L := by
  refine zc_of (n := 2) (ls := [some (.ref 52), some (.int (iI z)), some (.int (iI i))]) mk_169 rfl rfl rfl rfl (fun d hd N xs => ?_)
  simp (disch := omega) only [b_169_0, b_169_1, b_169_2, g_164, b2_t (show 0 ≤ z ∧ z < 6 from ⟨h1, h2⟩), ix_in, iI_lit, iI_neg, iI_add, iI_sub, iI_mul, t_lt, t_le, t_eq, iI_to, b2_to, if_10, if_11, nor_em, Decidable.not_not, Int.reduceEq, Int.reduceLT, Int.reduceLE, Int.reduceAdd, Int.reduceSub, Int.reduceMul, Int.reduceNeg, reduceIte, or_true, true_or, or_false, false_or, o_some]
  rw [if_neg (by omega), show (iI 1 : Int32) = iI ((1 : Nat) : Int) from rfl, g_161 M L 1 (by omega) (by omega) (by omega), b_169_3]
theorem g_169N (z i : Int) (h1 : 0 ≤ z) (h2 : z < 6) (h : (M 56 z.toNat).toInt < 0) {d N : Nat} {xs : Nat → Int32} {tb_ : List zz_B} {t_ : Nat} {ls_ : zz_L} {rest_ : List Value} (hd_ : 3 ≤ d) : (zz_o (zz_call_ d 169 [.ref 52, .int (iI z), .int (iI i)] (zm N xs M L)) fun r => zz_X (zz_call_ d) tb_ t_ ls_ (r.1.toList ++ rest_) r.2) = zz_X (zz_call_ d) tb_ t_ ls_ ((.int (iI (-3))) :: rest_) (zm N xs (fndR M 1) L) := (s_169N M L z i h1 h2 h).go hd_
theorem s_169Y (z i : Int) (h1 : 0 ≤ z) (h2 : z < 6) (h3 : -2147483648 ≤ i) (h4 : i ≤ 2147483647) (h : 0 ≤ (M 56 z.toNat).toInt) (hi : ¬ (0 ≤ i ∧ i < (M 56 z.toNat).toInt)) : zc 3 169 [.ref 52, .int (iI z), .int (iI i)] M L (some (.int (iI (-3)))) (fndR M 2) L := by
  refine zc_of (n := 2) (ls := [some (.ref 52), some (.int (iI z)), some (.int (iI i))]) mk_169 rfl rfl rfl rfl (fun d hd N xs => ?_)
  obtain ⟨s, q1, q2, q3⟩ := iI_of (M 56 z.toNat)
  have q4 : (M 56 z.toNat).toInt = s := by rw [q3, iI_to q1 q2]
  simp (disch := omega) only [b_169_0, b_169_1, b_169_2, b_169_4, g_164, b2_t (show 0 ≤ z ∧ z < 6 from ⟨h1, h2⟩), ix_in, q3, iI_long, lI_lit, g_157, iI_lit, iI_neg, iI_add, iI_sub, iI_mul, t_lt, t_le, t_eq, iI_to, b2_to, if_10, if_11, nor_em, Decidable.not_not, Int.reduceEq, Int.reduceLT, Int.reduceLE, Int.reduceAdd, Int.reduceSub, Int.reduceMul, Int.reduceNeg, reduceIte, or_true, true_or, or_false, false_or, o_some]
  rw [if_pos (by omega), b2_f (by omega), b_169_5, iI_lit, if_pos rfl, b_169_7, show ((2 : Int32)) = iI ((2 : Nat) : Int) from rfl, g_161 M L 2 (by omega) (by omega) (by omega), b_169_8]
theorem g_169Y (z i : Int) (h1 : 0 ≤ z) (h2 : z < 6) (h3 : -2147483648 ≤ i) (h4 : i ≤ 2147483647) (h : 0 ≤ (M 56 z.toNat).toInt) (hi : ¬ (0 ≤ i ∧ i < (M 56 z.toNat).toInt)) {d N : Nat} {xs : Nat → Int32} {tb_ : List zz_B} {t_ : Nat} {ls_ : zz_L} {rest_ : List Value} (hd_ : 3 ≤ d) : (zz_o (zz_call_ d 169 [.ref 52, .int (iI z), .int (iI i)] (zm N xs M L)) fun r => zz_X (zz_call_ d) tb_ t_ ls_ (r.1.toList ++ rest_) r.2) = zz_X (zz_call_ d) tb_ t_ ls_ ((.int (iI (-3))) :: rest_) (zm N xs (fndR M 2) L) := (s_169Y M L z i h1 h2 h3 h4 h hi).go hd_
theorem s_169O (z i : Int) (h1 : 0 ≤ z) (h2 : z < 6) (h3 : 0 ≤ i) (h4 : i < (M 56 z.toNat).toInt) (hs : (M 56 z.toNat).toInt ≤ 40) : zc 3 169 [.ref 52, .int (iI z), .int (iI i)] M L (some (.int (iI 1))) (zz_wI M 52 10 (M 55 (40 * z.toNat + i.toNat))) L := by
  refine zc_of (n := 2) (ls := [some (.ref 52), some (.int (iI z)), some (.int (iI i))]) mk_169 rfl rfl rfl rfl (fun d hd N xs => ?_)
  obtain ⟨s, q1, q2, q3⟩ := iI_of (M 56 z.toNat)
  have q4 : (M 56 z.toNat).toInt = s := by rw [q3, iI_to q1 q2]
  simp (disch := omega) only [b_169_0, b_169_1, b_169_2, b_169_4, g_164, b2_t (show 0 ≤ z ∧ z < 6 from ⟨h1, h2⟩), ix_in, q3, iI_long, lI_lit, g_157, iI_lit, iI_neg, iI_add, iI_sub, iI_mul, t_lt, t_le, t_eq, iI_to, b2_to, if_10, if_11, nor_em, Decidable.not_not, Int.reduceEq, Int.reduceLT, Int.reduceLE, Int.reduceAdd, Int.reduceSub, Int.reduceMul, Int.reduceNeg, reduceIte, or_true, true_or, or_false, false_or, o_some]
  rw [if_pos (by omega), b2_t (by omega), b_169_5, iI_lit, if_neg (by decide)]
  simp (disch := omega) only [iI_lit, iI_mul, iI_add, ix_in, o_some]
  rw [g_162 M L _ _ (by omega), b_169_6, b_169_8, show (40 * z + i).toNat = 40 * z.toNat + i.toNat by omega]
theorem g_169O (z i : Int) (h1 : 0 ≤ z) (h2 : z < 6) (h3 : 0 ≤ i) (h4 : i < (M 56 z.toNat).toInt) (hs : (M 56 z.toNat).toInt ≤ 40) {d N : Nat} {xs : Nat → Int32} {tb_ : List zz_B} {t_ : Nat} {ls_ : zz_L} {rest_ : List Value} (hd_ : 3 ≤ d) : (zz_o (zz_call_ d 169 [.ref 52, .int (iI z), .int (iI i)] (zm N xs M L)) fun r => zz_X (zz_call_ d) tb_ t_ ls_ (r.1.toList ++ rest_) r.2) = zz_X (zz_call_ d) tb_ t_ ls_ ((.int (iI 1)) :: rest_) (zm N xs (zz_wI M 52 10 (M 55 (40 * z.toNat + i.toNat))) L) := (s_169O M L z i h1 h2 h3 h4 hs).go hd_
-- lay
theorem s_168B (z i : Int) (x : Int32) (h1 : -2147483648 ≤ z) (h2 : z ≤ 2147483647) (h : ¬ (0 ≤ z ∧ z < 6)) : zc 4 168 [.ref 52, .int (iI z), .int (iI i), .int x] M L (some (.int (iI (-1)))) M L := by
  refine zc_of (n := 3) (ls := [some (.ref 52), some (.int (iI z)), some (.int (iI i)), some (.int x), none]) mk_168 rfl rfl rfl rfl (fun d hd N xs => ?_)
  rw [b_168_0, g_169B M L z i h1 h2 h (by omega), b_168_1, iI_lit, if_neg (by decide), b_168_2]
theorem g_168B (z i : Int) (x : Int32) (h1 : -2147483648 ≤ z) (h2 : z ≤ 2147483647) (h : ¬ (0 ≤ z ∧ z < 6)) {d N : Nat} {xs : Nat → Int32} {tb_ : List zz_B} {t_ : Nat} {ls_ : zz_L} {rest_ : List Value} (hd_ : 4 ≤ d) : (zz_o (zz_call_ d 168 [.ref 52, .int (iI z), .int (iI i), .int x] (zm N xs M L)) fun r => zz_X (zz_call_ d) tb_ t_ ls_ (r.1.toList ++ rest_) r.2) = zz_X (zz_call_ d) tb_ t_ ls_ ((.int (iI (-1))) :: rest_) (zm N xs M L) := (s_168B M L z i x h1 h2 h).go hd_
theorem s_168N (z i : Int) (x : Int32) (h1 : 0 ≤ z) (h2 : z < 6) (h : (M 56 z.toNat).toInt < 0) : zc 4 168 [.ref 52, .int (iI z), .int (iI i), .int x] M L (some (.int (iI (-3)))) (fndR M 1) L := by
  refine zc_of (n := 3) (ls := [some (.ref 52), some (.int (iI z)), some (.int (iI i)), some (.int x), none]) mk_168 rfl rfl rfl rfl (fun d hd N xs => ?_)
  rw [b_168_0, g_169N M L z i h1 h2 h (by omega), b_168_1, iI_lit, if_neg (by decide), b_168_2]
theorem g_168N (z i : Int) (x : Int32) (h1 : 0 ≤ z) (h2 : z < 6) (h : (M 56 z.toNat).toInt < 0) {d N : Nat} {xs : Nat → Int32} {tb_ : List zz_B} {t_ : Nat} {ls_ : zz_L} {rest_ : List Value} (hd_ : 4 ≤ d) : (zz_o (zz_call_ d 168 [.ref 52, .int (iI z), .int (iI i), .int x] (zm N xs M L)) fun r => zz_X (zz_call_ d) tb_ t_ ls_ (r.1.toList ++ rest_) r.2) = zz_X (zz_call_ d) tb_ t_ ls_ ((.int (iI (-3))) :: rest_) (zm N xs (fndR M 1) L) := (s_168N M L z i x h1 h2 h).go hd_
theorem s_168Y (z i : Int) (x : Int32) (h1 : 0 ≤ z) (h2 : z < 6) (h3 : -2147483648 ≤ i) (h4 : i ≤ 2147483647) (h : 0 ≤ (M 56 z.toNat).toInt) (hi : ¬ (0 ≤ i ∧ i < (M 56 z.toNat).toInt)) : zc 4 168 [.ref 52, .int (iI z), .int (iI i), .int x] M L (some (.int (iI (-3)))) (fndR M 2) L := by
  refine zc_of (n := 3) (ls := [some (.ref 52), some (.int (iI z)), some (.int (iI i)), some (.int x), none]) mk_168 rfl rfl rfl rfl (fun d hd N xs => ?_)
  rw [b_168_0, g_169Y M L z i h1 h2 h3 h4 h hi (by omega), b_168_1, iI_lit, if_neg (by decide), b_168_2]
theorem g_168Y (z i : Int) (x : Int32) (h1 : 0 ≤ z) (h2 : z < 6) (h3 : -2147483648 ≤ i) (h4 : i ≤ 2147483647) (h : 0 ≤ (M 56 z.toNat).toInt) (hi : ¬ (0 ≤ i ∧ i < (M 56 z.toNat).toInt)) {d N : Nat} {xs : Nat → Int32} {tb_ : List zz_B} {t_ : Nat} {ls_ : zz_L} {rest_ : List Value} (hd_ : 4 ≤ d) : (zz_o (zz_call_ d 168 [.ref 52, .int (iI z), .int (iI i), .int x] (zm N xs M L)) fun r => zz_X (zz_call_ d) tb_ t_ ls_ (r.1.toList ++ rest_) r.2) = zz_X (zz_call_ d) tb_ t_ ls_ ((.int (iI (-3))) :: rest_) (zm N xs (fndR M 2) L) := (s_168Y M L z i x h1 h2 h3 h4 h hi).go hd_
theorem s_168O (z i : Int) (x : Int32) (h1 : 0 ≤ z) (h2 : z < 6) (h3 : 0 ≤ i) (h4 : i < (M 56 z.toNat).toInt) (hs : (M 56 z.toNat).toInt ≤ 40) : zc 4 168 [.ref 52, .int (iI z), .int (iI i), .int x] M L (some (.int (iI 1))) (zz_wI (zz_wI M 52 10 (M 55 (40 * z.toNat + i.toNat))) 55 (40 * z.toNat + i.toNat) x) L := by
  refine zc_of (n := 3) (ls := [some (.ref 52), some (.int (iI z)), some (.int (iI i)), some (.int x), none]) mk_168 rfl rfl rfl rfl (fun d hd N xs => ?_)
  rw [b_168_0, g_169O M L z i h1 h2 h3 h4 hs (by omega), b_168_1, iI_lit, if_pos rfl]
  simp (disch := omega) only [iI_lit, iI_mul, iI_add, ix_in, o_some]
  rw [b_168_2, show (40 * z + i).toNat = 40 * z.toNat + i.toNat by omega]
theorem g_168O (z i : Int) (x : Int32) (h1 : 0 ≤ z) (h2 : z < 6) (h3 : 0 ≤ i) (h4 : i < (M 56 z.toNat).toInt) (hs : (M 56 z.toNat).toInt ≤ 40) {d N : Nat} {xs : Nat → Int32} {tb_ : List zz_B} {t_ : Nat} {ls_ : zz_L} {rest_ : List Value} (hd_ : 4 ≤ d) : (zz_o (zz_call_ d 168 [.ref 52, .int (iI z), .int (iI i), .int x] (zm N xs M L)) fun r => zz_X (zz_call_ d) tb_ t_ ls_ (r.1.toList ++ rest_) r.2) = zz_X (zz_call_ d) tb_ t_ ls_ ((.int (iI 1)) :: rest_) (zm N xs (zz_wI (zz_wI M 52 10 (M 55 (40 * z.toNat + i.toNat))) 55 (40 * z.toNat + i.toNat) x) L) := (s_168O M L z i x h1 h2 h3 h4 hs).go hd_
-- tear
theorem s_170B (z : Int) (h1 : -2147483648 ≤ z) (h2 : z ≤ 2147483647) (h : ¬ (0 ≤ z ∧ z < 6)) : zc 3 170 [.ref 52, .int (iI z)] M L (some (.int (iI (-1)))) M L := by
  refine zc_of (n := 2) (ls := [some (.ref 52), some (.int (iI z))]) mk_170 rfl rfl rfl rfl (fun d hd N xs => ?_)
  simp (disch := omega) only [b_170_0, b_170_1, g_164, b2_f h, iI_lit, iI_neg, iI_add, iI_sub, iI_mul, t_lt, t_le, t_eq, iI_to, b2_to, if_10, if_11, nor_em, Decidable.not_not, Int.reduceEq, Int.reduceLT, Int.reduceLE, Int.reduceAdd, Int.reduceSub, Int.reduceMul, Int.reduceNeg, reduceIte, or_true, true_or, or_false, false_or, o_some]
theorem g_170B (z : Int) (h1 : -2147483648 ≤ z) (h2 : z ≤ 2147483647) (h : ¬ (0 ≤ z ∧ z < 6)) {d N : Nat} {xs : Nat → Int32} {tb_ : List zz_B} {t_ : Nat} {ls_ : zz_L} {rest_ : List Value} (hd_ : 3 ≤ d) : (zz_o (zz_call_ d 170 [.ref 52, .int (iI z)] (zm N xs M L)) fun r => zz_X (zz_call_ d) tb_ t_ ls_ (r.1.toList ++ rest_) r.2) = zz_X (zz_call_ d) tb_ t_ ls_ ((.int (iI (-1))) :: rest_) (zm N xs M L) := (s_170B M L z h1 h2 h).go hd_
theorem s_170N (z : Int) (h1 : 0 ≤ z) (h2 : z < 6) (h : (M 56 z.toNat).toInt < 0) : zc 3 170 [.ref 52, .int (iI z)] M L (some (.int (iI (-3)))) (fndR M 1) L := by
  refine zc_of (n := 2) (ls := [some (.ref 52), some (.int (iI z))]) mk_170 rfl rfl rfl rfl (fun d hd N xs => ?_)
  simp (disch := omega) only [b_170_0, b_170_1, b_170_2, g_164, b2_t (show 0 ≤ z ∧ z < 6 from ⟨h1, h2⟩), ix_in, iI_lit, iI_neg, iI_add, iI_sub, iI_mul, t_lt, t_le, t_eq, iI_to, b2_to, if_10, if_11, nor_em, Decidable.not_not, Int.reduceEq, Int.reduceLT, Int.reduceLE, Int.reduceAdd, Int.reduceSub, Int.reduceMul, Int.reduceNeg, reduceIte, or_true, true_or, or_false, false_or, o_some]
  rw [if_neg (by omega), show (iI 1 : Int32) = iI ((1 : Nat) : Int) from rfl, g_161 M L 1 (by omega) (by omega) (by omega), b_170_3]
theorem g_170N (z : Int) (h1 : 0 ≤ z) (h2 : z < 6) (h : (M 56 z.toNat).toInt < 0) {d N : Nat} {xs : Nat → Int32} {tb_ : List zz_B} {t_ : Nat} {ls_ : zz_L} {rest_ : List Value} (hd_ : 3 ≤ d) : (zz_o (zz_call_ d 170 [.ref 52, .int (iI z)] (zm N xs M L)) fun r => zz_X (zz_call_ d) tb_ t_ ls_ (r.1.toList ++ rest_) r.2) = zz_X (zz_call_ d) tb_ t_ ls_ ((.int (iI (-3))) :: rest_) (zm N xs (fndR M 1) L) := (s_170N M L z h1 h2 h).go hd_
theorem s_170O (z : Int) (h1 : 0 ≤ z) (h2 : z < 6) (h : 0 ≤ (M 56 z.toNat).toInt) : zc 3 170 [.ref 52, .int (iI z)] M L (some (.int (iI 1))) (zz_wI M 56 z.toNat (iI (-1))) L := by
  refine zc_of (n := 2) (ls := [some (.ref 52), some (.int (iI z))]) mk_170 rfl rfl rfl rfl (fun d hd N xs => ?_)
  simp (disch := omega) only [b_170_0, b_170_1, b_170_2, b_170_4, g_164, b2_t (show 0 ≤ z ∧ z < 6 from ⟨h1, h2⟩), ix_in, iI_lit, iI_neg, iI_add, iI_sub, iI_mul, t_lt, t_le, t_eq, iI_to, b2_to, if_10, if_11, nor_em, Decidable.not_not, Int.reduceEq, Int.reduceLT, Int.reduceLE, Int.reduceAdd, Int.reduceSub, Int.reduceMul, Int.reduceNeg, reduceIte, or_true, true_or, or_false, false_or, o_some]
  rw [if_pos (by omega)]
theorem g_170O (z : Int) (h1 : 0 ≤ z) (h2 : z < 6) (h : 0 ≤ (M 56 z.toNat).toInt) {d N : Nat} {xs : Nat → Int32} {tb_ : List zz_B} {t_ : Nat} {ls_ : zz_L} {rest_ : List Value} (hd_ : 3 ≤ d) : (zz_o (zz_call_ d 170 [.ref 52, .int (iI z)] (zm N xs M L)) fun r => zz_X (zz_call_ d) tb_ t_ ls_ (r.1.toList ++ rest_) r.2) = zz_X (zz_call_ d) tb_ t_ ls_ ((.int (iI 1)) :: rest_) (zm N xs (zz_wI M 56 z.toNat (iI (-1))) L) := (s_170O M L z h1 h2 h).go hd_
-- text
theorem l_174 (C : zz_C) (N : Nat) (xs : Nat → Int32) (z : Int) (n : Int32) (h1 : 0 ≤ z) (h2 : z < 4) : ∀ j k : Nat, k + j = 60 → zz_X C tb_174 6 [some (.ref 52), some (.int (iI z)), some (.int n), some (.int (iI k))] [] (zm N xs (zfr M 57 (60 * z.toNat) k (iI 32)) L) = some (some (.int n), zm N xs (zfr M 57 (60 * z.toNat) 60 (iI 32)) L)
  | 0, k, hk => by
    rw [b_174_6]
    simp (disch := omega) only [iI_lit, t_le, iI_to]
    rw [if_pos (by omega), b_174_7, show k = 60 by omega]
  | j + 1, k, hk => by
    rw [b_174_6]
    simp (disch := omega) only [iI_lit, t_le, iI_to, iI_mul, iI_add, ix_in, o_some]
    rw [if_neg (by omega), show (60 * z + (k : Int)).toNat = 60 * z.toNat + k by omega, zfr_s]
    exact l_174 C N xs z n h1 h2 j (k + 1) (by omega)
theorem s_174B (z n : Int) (h1 : -2147483648 ≤ z) (h2 : z ≤ 2147483647) (h3 : -2147483648 ≤ n) (h4 : n ≤ 2147483647) (h : ¬ (0 ≤ z ∧ z < 4) ∨ 60 < n) : zc 3 174 [.ref 52, .int (iI z), .int (iI n)] M L (some (.int (iI (-1)))) M L := by
  refine zc_of (n := 2) (ls := [some (.ref 52), some (.int (iI z)), some (.int (iI n)), none]) mk_174 rfl rfl rfl rfl (fun d hd N xs => ?_)
  simp (disch := omega) only [b_174_0, b_174_1, b_174_2, g_165, iI_lit, iI_neg, iI_add, iI_sub, iI_mul, t_lt, t_le, t_eq, iI_to, b2_to, if_10, if_11, nor_em, Decidable.not_not, Int.reduceEq, Int.reduceLT, Int.reduceLE, Int.reduceAdd, Int.reduceSub, Int.reduceMul, Int.reduceNeg, reduceIte, or_true, true_or, or_false, false_or, o_some]
  by_cases q : 0 ≤ z ∧ z < 4
  · rw [if_neg (by simp [q]), if_neg (by omega)]
  · rw [if_pos (by simpa using q)]
theorem g_174B (z n : Int) (h1 : -2147483648 ≤ z) (h2 : z ≤ 2147483647) (h3 : -2147483648 ≤ n) (h4 : n ≤ 2147483647) (h : ¬ (0 ≤ z ∧ z < 4) ∨ 60 < n) {d N : Nat} {xs : Nat → Int32} {tb_ : List zz_B} {t_ : Nat} {ls_ : zz_L} {rest_ : List Value} (hd_ : 3 ≤ d) : (zz_o (zz_call_ d 174 [.ref 52, .int (iI z), .int (iI n)] (zm N xs M L)) fun r => zz_X (zz_call_ d) tb_ t_ ls_ (r.1.toList ++ rest_) r.2) = zz_X (zz_call_ d) tb_ t_ ls_ ((.int (iI (-1))) :: rest_) (zm N xs M L) := (s_174B M L z n h1 h2 h3 h4 h).go hd_
theorem s_174S (z n : Int) (h1 : 0 ≤ z) (h2 : z < 4) (h3 : -2147483648 ≤ n) (h4 : n < 0) : zc 3 174 [.ref 52, .int (iI z), .int (iI n)] M L (some (.int (iI (-3)))) (fndR M 5) L := by
  refine zc_of (n := 2) (ls := [some (.ref 52), some (.int (iI z)), some (.int (iI n)), none]) mk_174 rfl rfl rfl rfl (fun d hd N xs => ?_)
  simp (disch := omega) only [b_174_0, b_174_1, b_174_3, g_165, b2_t (show 0 ≤ z ∧ z < 4 from ⟨h1, h2⟩), iI_lit, iI_neg, iI_add, iI_sub, iI_mul, t_lt, t_le, t_eq, iI_to, b2_to, if_10, if_11, nor_em, Decidable.not_not, Int.reduceEq, Int.reduceLT, Int.reduceLE, Int.reduceAdd, Int.reduceSub, Int.reduceMul, Int.reduceNeg, reduceIte, or_true, true_or, or_false, false_or, o_some]
  rw [if_pos (by omega), if_neg (by omega), show (iI 5 : Int32) = iI ((5 : Nat) : Int) from rfl, g_161 M L 5 (by omega) (by omega) (by omega), b_174_4]
theorem g_174S (z n : Int) (h1 : 0 ≤ z) (h2 : z < 4) (h3 : -2147483648 ≤ n) (h4 : n < 0) {d N : Nat} {xs : Nat → Int32} {tb_ : List zz_B} {t_ : Nat} {ls_ : zz_L} {rest_ : List Value} (hd_ : 3 ≤ d) : (zz_o (zz_call_ d 174 [.ref 52, .int (iI z), .int (iI n)] (zm N xs M L)) fun r => zz_X (zz_call_ d) tb_ t_ ls_ (r.1.toList ++ rest_) r.2) = zz_X (zz_call_ d) tb_ t_ ls_ ((.int (iI (-3))) :: rest_) (zm N xs (fndR M 5) L) := (s_174S M L z n h1 h2 h3 h4).go hd_
theorem s_174O (z : Int) (n : Nat) (h1 : 0 ≤ z) (h2 : z < 4) (h4 : n ≤ 60) : zc 3 174 [.ref 52, .int (iI z), .int (iI n)] M L (some (.int (iI n))) (zfr (zz_wI M 58 z.toNat (iI n)) 57 (60 * z.toNat) 60 (iI 32)) L := by
  refine zc_of (n := 2) (ls := [some (.ref 52), some (.int (iI z)), some (.int (iI n)), none]) mk_174 rfl rfl rfl rfl (fun d hd N xs => ?_)
  have := l_174 (zz_wI M 58 z.toNat (iI n)) L (zz_call_ d) N xs z (iI n) h1 h2 60 0 (by omega)
  rw [zfr_0] at this
  simp (disch := omega) only [b_174_0, b_174_1, b_174_3, b_174_5, g_165, b2_t (show 0 ≤ z ∧ z < 4 from ⟨h1, h2⟩), ix_in, iI_lit, iI_neg, iI_add, iI_sub, iI_mul, t_lt, t_le, t_eq, iI_to, b2_to, if_10, if_11, nor_em, Decidable.not_not, Int.reduceEq, Int.reduceLT, Int.reduceLE, Int.reduceAdd, Int.reduceSub, Int.reduceMul, Int.reduceNeg, reduceIte, or_true, true_or, or_false, false_or, o_some]
  rw [if_pos (by omega), if_pos (by omega)]
  exact this
theorem g_174O (z : Int) (n : Nat) (h1 : 0 ≤ z) (h2 : z < 4) (h4 : n ≤ 60) {d N : Nat} {xs : Nat → Int32} {tb_ : List zz_B} {t_ : Nat} {ls_ : zz_L} {rest_ : List Value} (hd_ : 3 ≤ d) : (zz_o (zz_call_ d 174 [.ref 52, .int (iI z), .int (iI n)] (zm N xs M L)) fun r => zz_X (zz_call_ d) tb_ t_ ls_ (r.1.toList ++ rest_) r.2) = zz_X (zz_call_ d) tb_ t_ ls_ ((.int (iI n)) :: rest_) (zm N xs (zfr (zz_wI M 58 z.toNat (iI n)) 57 (60 * z.toNat) 60 (iI 32)) L) := (s_174O M L z n h1 h2 h4).go hd_
-- put
theorem s_175B (z i : Int) (x : Int32) (h1 : -2147483648 ≤ z) (h2 : z ≤ 2147483647) (h : ¬ (0 ≤ z ∧ z < 4)) : zc 3 175 [.ref 52, .int (iI z), .int (iI i), .int x] M L (some (.int (iI (-1)))) M L := by
  refine zc_of (n := 2) (ls := [some (.ref 52), some (.int (iI z)), some (.int (iI i)), some (.int x), none]) mk_175 rfl rfl rfl rfl (fun d hd N xs => ?_)
  simp (disch := omega) only [b_175_0, b_175_1, g_165, b2_f h, iI_lit, iI_neg, iI_add, iI_sub, iI_mul, t_lt, t_le, t_eq, iI_to, b2_to, if_10, if_11, nor_em, Decidable.not_not, Int.reduceEq, Int.reduceLT, Int.reduceLE, Int.reduceAdd, Int.reduceSub, Int.reduceMul, Int.reduceNeg, reduceIte, or_true, true_or, or_false, false_or, o_some]
theorem g_175B (z i : Int) (x : Int32) (h1 : -2147483648 ≤ z) (h2 : z ≤ 2147483647) (h : ¬ (0 ≤ z ∧ z < 4)) {d N : Nat} {xs : Nat → Int32} {tb_ : List zz_B} {t_ : Nat} {ls_ : zz_L} {rest_ : List Value} (hd_ : 3 ≤ d) : (zz_o (zz_call_ d 175 [.ref 52, .int (iI z), .int (iI i), .int x] (zm N xs M L)) fun r => zz_X (zz_call_ d) tb_ t_ ls_ (r.1.toList ++ rest_) r.2) = zz_X (zz_call_ d) tb_ t_ ls_ ((.int (iI (-1))) :: rest_) (zm N xs M L) := (s_175B M L z i x h1 h2 h).go hd_
theorem s_175N (z i : Int) (x : Int32) (h1 : 0 ≤ z) (h2 : z < 4) (h : (M 58 z.toNat).toInt < 0) : zc 3 175 [.ref 52, .int (iI z), .int (iI i), .int x] M L (some (.int (iI (-3)))) (fndR M 1) L := by
  refine zc_of (n := 2) (ls := [some (.ref 52), some (.int (iI z)), some (.int (iI i)), some (.int x), none]) mk_175 rfl rfl rfl rfl (fun d hd N xs => ?_)
  simp (disch := omega) only [b_175_0, b_175_1, b_175_2, g_165, b2_t (show 0 ≤ z ∧ z < 4 from ⟨h1, h2⟩), ix_in, iI_lit, iI_neg, iI_add, iI_sub, iI_mul, t_lt, t_le, t_eq, iI_to, b2_to, if_10, if_11, nor_em, Decidable.not_not, Int.reduceEq, Int.reduceLT, Int.reduceLE, Int.reduceAdd, Int.reduceSub, Int.reduceMul, Int.reduceNeg, reduceIte, or_true, true_or, or_false, false_or, o_some]
  rw [if_neg (by omega), show (iI 1 : Int32) = iI ((1 : Nat) : Int) from rfl, g_161 M L 1 (by omega) (by omega) (by omega), b_175_3]
theorem g_175N (z i : Int) (x : Int32) (h1 : 0 ≤ z) (h2 : z < 4) (h : (M 58 z.toNat).toInt < 0) {d N : Nat} {xs : Nat → Int32} {tb_ : List zz_B} {t_ : Nat} {ls_ : zz_L} {rest_ : List Value} (hd_ : 3 ≤ d) : (zz_o (zz_call_ d 175 [.ref 52, .int (iI z), .int (iI i), .int x] (zm N xs M L)) fun r => zz_X (zz_call_ d) tb_ t_ ls_ (r.1.toList ++ rest_) r.2) = zz_X (zz_call_ d) tb_ t_ ls_ ((.int (iI (-3))) :: rest_) (zm N xs (fndR M 1) L) := (s_175N M L z i x h1 h2 h).go hd_
theorem s_175Y (z i : Int) (x : Int32) (h1 : 0 ≤ z) (h2 : z < 4) (h3 : -2147483648 ≤ i) (h4 : i ≤ 2147483647) (h : 0 ≤ (M 58 z.toNat).toInt) (hi : ¬ (0 ≤ i ∧ i < (M 58 z.toNat).toInt)) : zc 3 175 [.ref 52, .int (iI z), .int (iI i), .int x] M L (some (.int (iI (-3)))) (fndR M 2) L := by
  refine zc_of (n := 2) (ls := [some (.ref 52), some (.int (iI z)), some (.int (iI i)), some (.int x), none]) mk_175 rfl rfl rfl rfl (fun d hd N xs => ?_)
  obtain ⟨s, q1, q2, q3⟩ := iI_of (M 58 z.toNat)
  have q4 : (M 58 z.toNat).toInt = s := by rw [q3, iI_to q1 q2]
  simp (disch := omega) only [b_175_0, b_175_1, b_175_2, b_175_4, g_165, b2_t (show 0 ≤ z ∧ z < 4 from ⟨h1, h2⟩), ix_in, q3, iI_long, lI_lit, g_157, iI_lit, iI_neg, iI_add, iI_sub, iI_mul, t_lt, t_le, t_eq, iI_to, b2_to, if_10, if_11, nor_em, Decidable.not_not, Int.reduceEq, Int.reduceLT, Int.reduceLE, Int.reduceAdd, Int.reduceSub, Int.reduceMul, Int.reduceNeg, reduceIte, or_true, true_or, or_false, false_or, o_some]
  rw [if_pos (by omega), b2_f (by omega), b_175_5, iI_lit, if_pos rfl, show ((2 : Int32)) = iI ((2 : Nat) : Int) from rfl, g_161 M L 2 (by omega) (by omega) (by omega), b_175_6]
theorem g_175Y (z i : Int) (x : Int32) (h1 : 0 ≤ z) (h2 : z < 4) (h3 : -2147483648 ≤ i) (h4 : i ≤ 2147483647) (h : 0 ≤ (M 58 z.toNat).toInt) (hi : ¬ (0 ≤ i ∧ i < (M 58 z.toNat).toInt)) {d N : Nat} {xs : Nat → Int32} {tb_ : List zz_B} {t_ : Nat} {ls_ : zz_L} {rest_ : List Value} (hd_ : 3 ≤ d) : (zz_o (zz_call_ d 175 [.ref 52, .int (iI z), .int (iI i), .int x] (zm N xs M L)) fun r => zz_X (zz_call_ d) tb_ t_ ls_ (r.1.toList ++ rest_) r.2) = zz_X (zz_call_ d) tb_ t_ ls_ ((.int (iI (-3))) :: rest_) (zm N xs (fndR M 2) L) := (s_175Y M L z i x h1 h2 h3 h4 h hi).go hd_
theorem s_175O (z i : Int) (x : Int32) (h1 : 0 ≤ z) (h2 : z < 4) (h3 : 0 ≤ i) (h4 : i < (M 58 z.toNat).toInt) (hs : (M 58 z.toNat).toInt ≤ 60) : zc 3 175 [.ref 52, .int (iI z), .int (iI i), .int x] M L (some (.int (M 57 (60 * z.toNat + i.toNat) + iI 1000))) (zz_wI M 57 (60 * z.toNat + i.toNat) x.toInt8.toInt32) L := by
  refine zc_of (n := 2) (ls := [some (.ref 52), some (.int (iI z)), some (.int (iI i)), some (.int x), none]) mk_175 rfl rfl rfl rfl (fun d hd N xs => ?_)
  obtain ⟨s, q1, q2, q3⟩ := iI_of (M 58 z.toNat)
  have q4 : (M 58 z.toNat).toInt = s := by rw [q3, iI_to q1 q2]
  simp (disch := omega) only [b_175_0, b_175_1, b_175_2, b_175_4, g_165, b2_t (show 0 ≤ z ∧ z < 4 from ⟨h1, h2⟩), ix_in, q3, iI_long, lI_lit, g_157, iI_lit, iI_neg, iI_add, iI_sub, iI_mul, t_lt, t_le, t_eq, iI_to, b2_to, if_10, if_11, nor_em, Decidable.not_not, Int.reduceEq, Int.reduceLT, Int.reduceLE, Int.reduceAdd, Int.reduceSub, Int.reduceMul, Int.reduceNeg, reduceIte, or_true, true_or, or_false, false_or, o_some]
  rw [if_pos (by omega), b2_t (by omega), b_175_5, iI_lit, if_neg (by decide), b_175_7]
  simp (disch := omega) only [iI_lit, iI_mul, iI_add, ix_in, o_some]
  rw [show (60 * z + i).toNat = 60 * z.toNat + i.toNat by omega]
theorem g_175O (z i : Int) (x : Int32) (h1 : 0 ≤ z) (h2 : z < 4) (h3 : 0 ≤ i) (h4 : i < (M 58 z.toNat).toInt) (hs : (M 58 z.toNat).toInt ≤ 60) {d N : Nat} {xs : Nat → Int32} {tb_ : List zz_B} {t_ : Nat} {ls_ : zz_L} {rest_ : List Value} (hd_ : 3 ≤ d) : (zz_o (zz_call_ d 175 [.ref 52, .int (iI z), .int (iI i), .int x] (zm N xs M L)) fun r => zz_X (zz_call_ d) tb_ t_ ls_ (r.1.toList ++ rest_) r.2) = zz_X (zz_call_ d) tb_ t_ ls_ ((.int (M 57 (60 * z.toNat + i.toNat) + iI 1000)) :: rest_) (zm N xs (zz_wI M 57 (60 * z.toNat + i.toNat) x.toInt8.toInt32) L) := (s_175O M L z i x h1 h2 h3 h4 hs).go hd_
-- mean
theorem l_173 {d : Nat} (N : Nat) (xs : Nat → Int32) (r : Nat) (hr : r < 6) (n : Nat) (hn : M 56 r = iI n) (hs : n ≤ 40) : ∀ j k : Nat, k + j = n → zz_X (zz_call_ d) tb_173 7 [some (.ref 52), some (.int (iI r)), some (.long (lI (sZ (fun i => M 55 (40 * r + i)) k))), none, some (.int (iI k))] [] (zm N xs M L) = zz_X (zz_call_ d) tb_173 8 [some (.ref 52), some (.int (iI r)), some (.long (lI (sZ (fun i => M 55 (40 * r + i)) n))), none, some (.int (iI n))] [] (zm N xs M L)
  | 0, k, hk => by
    rw [b_173_7, ix_nat hr (by omega), o_some, hn]
    simp (disch := omega) only [t_le, iI_to]
    rw [if_pos (by omega), show k = n by omega]
  | j + 1, k, hk => by
    rw [b_173_7, ix_nat hr (by omega), o_some, hn]
    simp (disch := omega) only [t_le, iI_to, iI_lit, iI_mul, iI_add, ix_in, o_some]
    rw [if_neg (by omega), show (40 * (r : Int) + (k : Int)).toNat = 40 * r + k by omega]
    have e : lI (sZ (fun i => M 55 (40 * r + i)) k) + (M 55 (40 * r + k)).toInt64 = lI (sZ (fun i => M 55 (40 * r + i)) (k + 1)) := by
      obtain ⟨z, h1, h2, h3⟩ := iI_of (M 55 (40 * r + k))
      simp only [sZ]
      rw [h3, iI_long h1 h2, lI_add, iI_to h1 h2]
    rw [e]
    exact l_173 N xs r hr n hn hs j (k + 1) (by omega)
theorem s_173B (z : Int) (h1 : -2147483648 ≤ z) (h2 : z ≤ 2147483647) (h : ¬ (0 ≤ z ∧ z < 6)) : zc 3 173 [.ref 52, .int (iI z)] M L (some (.int (iI (-1)))) M L := by
  refine zc_of (n := 2) (ls := [some (.ref 52), some (.int (iI z)), none, none, none]) mk_173 rfl rfl rfl rfl (fun d hd N xs => ?_)
  simp (disch := omega) only [b_173_0, b_173_1, g_164, b2_f h, iI_lit, iI_neg, iI_add, iI_sub, iI_mul, t_lt, t_le, t_eq, iI_to, b2_to, if_10, if_11, nor_em, Decidable.not_not, Int.reduceEq, Int.reduceLT, Int.reduceLE, Int.reduceAdd, Int.reduceSub, Int.reduceMul, Int.reduceNeg, reduceIte, or_true, true_or, or_false, false_or, o_some]
theorem g_173B (z : Int) (h1 : -2147483648 ≤ z) (h2 : z ≤ 2147483647) (h : ¬ (0 ≤ z ∧ z < 6)) {d N : Nat} {xs : Nat → Int32} {tb_ : List zz_B} {t_ : Nat} {ls_ : zz_L} {rest_ : List Value} (hd_ : 3 ≤ d) : (zz_o (zz_call_ d 173 [.ref 52, .int (iI z)] (zm N xs M L)) fun r => zz_X (zz_call_ d) tb_ t_ ls_ (r.1.toList ++ rest_) r.2) = zz_X (zz_call_ d) tb_ t_ ls_ ((.int (iI (-1))) :: rest_) (zm N xs M L) := (s_173B M L z h1 h2 h).go hd_
theorem s_173N (z : Int) (h1 : 0 ≤ z) (h2 : z < 6) (h : (M 56 z.toNat).toInt < 0) : zc 3 173 [.ref 52, .int (iI z)] M L (some (.int (iI (-3)))) (fndR M 1) L := by
  refine zc_of (n := 2) (ls := [some (.ref 52), some (.int (iI z)), none, none, none]) mk_173 rfl rfl rfl rfl (fun d hd N xs => ?_)
  simp (disch := omega) only [b_173_0, b_173_1, b_173_2, g_164, b2_t (show 0 ≤ z ∧ z < 6 from ⟨h1, h2⟩), ix_in, iI_lit, iI_neg, iI_add, iI_sub, iI_mul, t_lt, t_le, t_eq, iI_to, b2_to, if_10, if_11, nor_em, Decidable.not_not, Int.reduceEq, Int.reduceLT, Int.reduceLE, Int.reduceAdd, Int.reduceSub, Int.reduceMul, Int.reduceNeg, reduceIte, or_true, true_or, or_false, false_or, o_some]
  rw [if_neg (by omega), show (iI 1 : Int32) = iI ((1 : Nat) : Int) from rfl, g_161 M L 1 (by omega) (by omega) (by omega), b_173_3]
theorem g_173N (z : Int) (h1 : 0 ≤ z) (h2 : z < 6) (h : (M 56 z.toNat).toInt < 0) {d N : Nat} {xs : Nat → Int32} {tb_ : List zz_B} {t_ : Nat} {ls_ : zz_L} {rest_ : List Value} (hd_ : 3 ≤ d) : (zz_o (zz_call_ d 173 [.ref 52, .int (iI z)] (zm N xs M L)) fun r => zz_X (zz_call_ d) tb_ t_ ls_ (r.1.toList ++ rest_) r.2) = zz_X (zz_call_ d) tb_ t_ ls_ ((.int (iI (-3))) :: rest_) (zm N xs (fndR M 1) L) := (s_173N M L z h1 h2 h).go hd_
theorem s_173Z (z : Int) (h1 : 0 ≤ z) (h2 : z < 6) (h : (M 56 z.toNat).toInt = 0) : zc 3 173 [.ref 52, .int (iI z)] M L (some (.int (iI (-3)))) (fndR M 4) L := by
  refine zc_of (n := 2) (ls := [some (.ref 52), some (.int (iI z)), none, none, none]) mk_173 rfl rfl rfl rfl (fun d hd N xs => ?_)
  simp (disch := omega) only [b_173_0, b_173_1, b_173_2, b_173_4, g_164, b2_t (show 0 ≤ z ∧ z < 6 from ⟨h1, h2⟩), ix_in, iI_lit, iI_neg, iI_add, iI_sub, iI_mul, t_lt, t_le, t_eq, iI_to, b2_to, if_10, if_11, nor_em, Decidable.not_not, Int.reduceEq, Int.reduceLT, Int.reduceLE, Int.reduceAdd, Int.reduceSub, Int.reduceMul, Int.reduceNeg, reduceIte, or_true, true_or, or_false, false_or, o_some]
  rw [if_pos (by omega), if_pos (by omega), show (iI 4 : Int32) = iI ((4 : Nat) : Int) from rfl, g_161 M L 4 (by omega) (by omega) (by omega), b_173_5]
theorem g_173Z (z : Int) (h1 : 0 ≤ z) (h2 : z < 6) (h : (M 56 z.toNat).toInt = 0) {d N : Nat} {xs : Nat → Int32} {tb_ : List zz_B} {t_ : Nat} {ls_ : zz_L} {rest_ : List Value} (hd_ : 3 ≤ d) : (zz_o (zz_call_ d 173 [.ref 52, .int (iI z)] (zm N xs M L)) fun r => zz_X (zz_call_ d) tb_ t_ ls_ (r.1.toList ++ rest_) r.2) = zz_X (zz_call_ d) tb_ t_ ls_ ((.int (iI (-3))) :: rest_) (zm N xs (fndR M 4) L) := (s_173Z M L z h1 h2 h).go hd_
theorem s_173O (r n : Nat) (hr : r < 6) (hn : M 56 r = iI n) (h0 : 0 < n) (hs : n ≤ 40) : zc 3 173 [.ref 52, .int (iI r)] M L (some (.int (iI 1))) (zz_wI M 52 10 (iI ((sZ (fun i => M 55 (40 * r + i)) n).tdiv n))) L := by
  refine zc_of (n := 2) (ls := [some (.ref 52), some (.int (iI r)), none, none, none]) mk_173 rfl rfl rfl rfl (fun d hd N xs => ?_)
  have hb := sZ_b (fun i => M 55 (40 * r + i)) n
  rw [b_173_0, g_164 M L r (by omega) (by omega) (by omega), b2_t (by omega), b_173_1, iI_lit, if_neg (by decide), b_173_2, ix_nat hr (by omega), o_some, hn, iI_lit, if_pos (by rw [t_le, iI_to (by omega) (by omega), iI_to (by omega) (by omega)]; omega), b_173_4, ix_nat hr (by omega), o_some, hn, iI_lit, if_neg (by rw [t_eq, iI_to (by omega) (by omega), iI_to (by omega) (by omega)]; omega), b_173_6, iI_lit, lI_lit]
  refine (l_173 M L N xs r hr n hn hs n 0 (by omega)).trans ?_
  rw [b_173_8, ix_nat hr (by omega), o_some, hn, iI_long (by omega) (by omega), if_neg (by rw [lI_lit, lI_eq (by omega) (by omega) (by omega) (by omega)]; omega), lI_div (by omega) (by omega) (by omega) (by omega), lI_int, g_162 M L _ _ (by omega), b_173_9, iI_lit]
theorem g_173O (r n : Nat) (hr : r < 6) (hn : M 56 r = iI n) (h0 : 0 < n) (hs : n ≤ 40) {d N : Nat} {xs : Nat → Int32} {tb_ : List zz_B} {t_ : Nat} {ls_ : zz_L} {rest_ : List Value} (hd_ : 3 ≤ d) : (zz_o (zz_call_ d 173 [.ref 52, .int (iI r)] (zm N xs M L)) fun r => zz_X (zz_call_ d) tb_ t_ ls_ (r.1.toList ++ rest_) r.2) = zz_X (zz_call_ d) tb_ t_ ls_ ((.int (iI 1)) :: rest_) (zm N xs (zz_wI M 52 10 (iI ((sZ (fun i => M 55 (40 * r + i)) n).tdiv n))) L) := (s_173O M L r n hr hn h0 hs).go hd_
end ZR

/-! undo, on, of both. -/
section ZR
variable (M : Nat → Nat → Int32) (L : Nat → Nat → Int64)
theorem s_110B (z : Int) (m : Nat) (hm : m ≤ 40) (h13 : M 23 13 = iI m) (h1 : -2147483648 ≤ z) (h2 : z ≤ 2147483647) (h : ¬ (0 ≤ z ∧ z ≤ m)) : zc 6 110 [.ref 0, .int (iI z)] M L (some (.int (iI (-1)))) M L := by
  refine zc_of (n := 5) (ls := [some (.ref 0), some (.int (iI z)), none]) mk_110 rfl rfl rfl rfl (fun d hd N xs => ?_)
  simp (disch := first | omega | assumption) only [b_110_0, b_110_1, h13, iI_lit, iI_neg, iI_add, iI_sub, iI_mul, t_lt, t_le, t_eq, iI_to, b2_to, if_10, if_11, nor_em, Decidable.not_not, Int.reduceEq, Int.reduceLT, Int.reduceLE, Int.reduceAdd, Int.reduceSub, Int.reduceMul, Int.reduceNeg, reduceIte, or_true, true_or, or_false, false_or, o_some]
  repeat' split
  all_goals first | rfl | (exfalso; omega)
theorem g_110B (z : Int) (m : Nat) (hm : m ≤ 40) (h13 : M 23 13 = iI m) (h1 : -2147483648 ≤ z) (h2 : z ≤ 2147483647) (h : ¬ (0 ≤ z ∧ z ≤ m)) {d N : Nat} {xs : Nat → Int32} {tb_ : List zz_B} {t_ : Nat} {ls_ : zz_L} {rest_ : List Value} (hd_ : 6 ≤ d) : (zz_o (zz_call_ d 110 [.ref 0, .int (iI z)] (zm N xs M L)) fun r => zz_X (zz_call_ d) tb_ t_ ls_ (r.1.toList ++ rest_) r.2) = zz_X (zz_call_ d) tb_ t_ ls_ ((.int (iI (-1))) :: rest_) (zm N xs M L) := (s_110B M L z m hm h13 h1 h2 h).go hd_
theorem s_110O (V : Vw) (hk : Vk V) (h0 : V.day = 0) (ht : V.tset = 0) (hs : Hs V M) (D : Nat → Nat) (n m : Nat) (hn : n ≤ m) (hm : m ≤ 40) (h13 : M 23 13 = iI m) (hd2 : ∀ k, k < n → dOk V.n (D k)) (h30 : ∀ k, k < n → M 30 k = iI (D k)) : zc 6 110 [.ref 0, .int (iI n)] M L (some (.int (iI ((m : Int) - n)))) (gb V M D n) L := by
  refine zc_of (n := 5) (ls := [some (.ref 0), some (.int (iI n)), none]) mk_110 rfl rfl rfl rfl (fun d hd N xs => ?_)
  rw [b_110_0, h13, iI_lit, if_neg (by rw [t_lt, iI_to (by omega) (by omega), iI_to (by omega) (by omega)]; omega), if_pos (by rw [t_le, iI_to (by omega) (by omega), iI_to (by omega) (by omega)]; omega), b_110_2, h13, iI_sub, g_57 M L V hk h0 ht hs D n (by omega) hd2 h30 (by omega), b_110_3]
theorem g_110O (V : Vw) (hk : Vk V) (h0 : V.day = 0) (ht : V.tset = 0) (hs : Hs V M) (D : Nat → Nat) (n m : Nat) (hn : n ≤ m) (hm : m ≤ 40) (h13 : M 23 13 = iI m) (hd2 : ∀ k, k < n → dOk V.n (D k)) (h30 : ∀ k, k < n → M 30 k = iI (D k)) {d N : Nat} {xs : Nat → Int32} {tb_ : List zz_B} {t_ : Nat} {ls_ : zz_L} {rest_ : List Value} (hd_ : 6 ≤ d) : (zz_o (zz_call_ d 110 [.ref 0, .int (iI n)] (zm N xs M L)) fun r => zz_X (zz_call_ d) tb_ t_ ls_ (r.1.toList ++ rest_) r.2) = zz_X (zz_call_ d) tb_ t_ ls_ ((.int (iI ((m : Int) - n))) :: rest_) (zm N xs (gb V M D n) L) := (s_110O M L V hk h0 ht hs D n m hn hm h13 hd2 h30).go hd_
theorem s_206B (z : Int) (m : Nat) (hm : m ≤ 40) (h1 : M 52 1 = iI m) (h2 : -2147483648 ≤ z) (h3 : z ≤ 2147483647) (h : ¬ (0 ≤ z ∧ z ≤ m)) : zc 3 206 [.ref 52, .int (iI z)] M L (some (.int (iI (-1)))) M L := by
  refine zc_of (n := 2) (ls := [some (.ref 52), some (.int (iI z)), none]) mk_206 rfl rfl rfl rfl (fun d hd N xs => ?_)
  rw [b_206_0, h1, iI_long h2 h3, iI_long (by omega) (by omega), lI_lit, g_157 M L z 0 m (by omega) (by omega) (by omega) (by omega) (by omega) (by omega) (by omega), b2_f (by omega), b_206_1, iI_lit 0, if_pos rfl]
  rfl
theorem g_206B (z : Int) (m : Nat) (hm : m ≤ 40) (h1 : M 52 1 = iI m) (h2 : -2147483648 ≤ z) (h3 : z ≤ 2147483647) (h : ¬ (0 ≤ z ∧ z ≤ m)) {d N : Nat} {xs : Nat → Int32} {tb_ : List zz_B} {t_ : Nat} {ls_ : zz_L} {rest_ : List Value} (hd_ : 3 ≤ d) : (zz_o (zz_call_ d 206 [.ref 52, .int (iI z)] (zm N xs M L)) fun r => zz_X (zz_call_ d) tb_ t_ ls_ (r.1.toList ++ rest_) r.2) = zz_X (zz_call_ d) tb_ t_ ls_ ((.int (iI (-1))) :: rest_) (zm N xs M L) := (s_206B M L z m hm h1 h2 h3 h).go hd_
theorem s_206E (m : Nat) (hm : m ≤ 40) (h1 : M 52 1 = iI m) : zc 3 206 [.ref 52, .int (iI m)] M L (some (.int (iI ((m : Int) - m)))) M L := by
  refine zc_of (n := 2) (ls := [some (.ref 52), some (.int (iI m)), none]) mk_206 rfl rfl rfl rfl (fun d hd N xs => ?_)
  rw [b_206_0, h1, iI_long (by omega) (by omega), lI_lit, g_157 M L m 0 m (by omega) (by omega) (by omega) (by omega) (by omega) (by omega) (by omega), b2_t (by omega), b_206_1, iI_lit 0, if_neg iI10, b_206_2, h1, iI_sub, iI_lit, if_pos (by rw [t_le, iI_to (by omega) (by omega), iI_to (by omega) (by omega)]; omega), b_206_4]
theorem g_206E (m : Nat) (hm : m ≤ 40) (h1 : M 52 1 = iI m) {d N : Nat} {xs : Nat → Int32} {tb_ : List zz_B} {t_ : Nat} {ls_ : zz_L} {rest_ : List Value} (hd_ : 3 ≤ d) : (zz_o (zz_call_ d 206 [.ref 52, .int (iI m)] (zm N xs M L)) fun r => zz_X (zz_call_ d) tb_ t_ ls_ (r.1.toList ++ rest_) r.2) = zz_X (zz_call_ d) tb_ t_ ls_ ((.int (iI ((m : Int) - m))) :: rest_) (zm N xs M L) := (s_206E M L m hm h1).go hd_
theorem s_206O (n m : Nat) (hn : n < m) (hm : m ≤ 40) (h1 : M 52 1 = iI m) : zc 3 206 [.ref 52, .int (iI n)] M L (some (.int (iI ((m : Int) - n)))) (zz_wI (zz_rI M 53 (va_cpy (M 53) (M 53) (40 * (n + 1)) 0 40)) 52 1 (iI n)) L := by
  refine zc_of (n := 2) (ls := [some (.ref 52), some (.int (iI n)), none]) mk_206 rfl rfl rfl rfl (fun d hd N xs => ?_)
  have g := g_163 (d := d) (N := N) (xs := xs) (tb_ := tb_206) (t_ := 3) (ls_ := [some (.ref 52), some (.int (iI n)), some (.int (iI ((m : Int) - n)))]) (rest_ := []) M L (40 * (n + 1)) 0 40 (by omega) (by omega) (by omega) (by omega)
  rw [show ((40 * (n + 1) : Nat) : Int) = 40 * ((n : Int) + 1) by omega] at g
  rw [b_206_0, h1, iI_long (by omega) (by omega), iI_long (by omega) (by omega), lI_lit, g_157 M L n 0 m (by omega) (by omega) (by omega) (by omega) (by omega) (by omega) (by omega), b2_t (by omega), b_206_1, iI_lit 0, if_neg iI10, b_206_2, h1, iI_sub]
  simp only [iI_lit, iI_add, iI_mul]
  rw [if_neg (by rw [t_le, iI_to (by omega) (by omega), iI_to (by omega) (by omega)]; omega)]
  refine Eq.trans g ?_
  rw [b_206_3, b_206_4]
theorem g_206O (n m : Nat) (hn : n < m) (hm : m ≤ 40) (h1 : M 52 1 = iI m) {d N : Nat} {xs : Nat → Int32} {tb_ : List zz_B} {t_ : Nat} {ls_ : zz_L} {rest_ : List Value} (hd_ : 3 ≤ d) : (zz_o (zz_call_ d 206 [.ref 52, .int (iI n)] (zm N xs M L)) fun r => zz_X (zz_call_ d) tb_ t_ ls_ (r.1.toList ++ rest_) r.2) = zz_X (zz_call_ d) tb_ t_ ls_ ((.int (iI ((m : Int) - n))) :: rest_) (zm N xs (zz_wI (zz_rI M 53 (va_cpy (M 53) (M 53) (40 * (n + 1)) 0 40)) 52 1 (iI n)) L) := (s_206O M L n m hn hm h1).go hd_
end ZR

/-! piece, heat, minute, what is told, and the calls that go day by day over one or two. -/
abbrev Vw.mt (V : Vw) (i j n : Nat) : Prop := met (V.minAt i n) (span (V.kind i)) (V.minAt j n) (span (V.kind j))
theorem minAt_s (V : Vw) (i n : Nat) : V.minAt i (n + 1) = (V.minAt i n + gn (V.kind i) (V.rate i) 1 (V.heatAt (V.day + n))) % 60 := by
  unfold Vw.minAt
  have e : gn (V.kind i) (V.rate i) ((n + 1 : Nat) : Int) (V.warm (n + 1)) = gn (V.kind i) (V.rate i) n (V.warm n) + gn (V.kind i) (V.rate i) 1 (V.heatAt (V.day + n)) := by
    rw [← gn_add]
    rfl
  rw [e]
  omega
theorem minAt_0 {V : Vw} (hk : Vk V) (i : Nat) : V.minAt i 0 = V.minute i := by
  have := hk.minute i
  unfold Vw.minAt
  rw [show ((0 : Nat) : Int) = 0 from rfl, show V.warm 0 = 0 from rfl, gn_0]
  omega
theorem minAt_b (V : Vw) (i n : Nat) : 0 ≤ V.minAt i n ∧ V.minAt i n < 60 := by
  unfold Vw.minAt
  omega
theorem gn1_b {V : Vw} (hk : Vk V) (i n : Nat) : -7 ≤ gn (V.kind i) (V.rate i) 1 (V.heatAt n) ∧ gn (V.kind i) (V.rate i) 1 (V.heatAt n) ≤ 8 := by
  have h := heatAt_b hk n
  have := @gn_b (V.kind i) (V.rate i) 1 (V.heatAt n) (hk.rate i) (by omega) (by omega)
  omega
/-- the first from k on, at most j, that is so; or k + j -/
def fx (p : Nat → Prop) [DecidablePred p] : Nat → Nat → Nat
  | 0, k => k
  | j + 1, k => if p k then k else fx p j (k + 1)
def m2 (M : Nat → Nat → Int32) (x y : Int) : Nat → Nat → Int32 := zz_wI (zz_wI M 52 17 (iI x)) 52 18 (iI y)
theorem m2_m2 (M : Nat → Nat → Int32) (x y a b : Int) : m2 (m2 M x y) a b = m2 M a b := by
  funext c k
  unfold m2
  simp only [w_val]
  repeat' split
  all_goals first | rfl | (exfalso; omega)
theorem m2_53 (M : Nat → Nat → Int32) (x y : Int) : m2 M x y 53 = M 53 := by
  unfold m2
  rw [w_ne (by omega), w_ne (by omega)]
theorem m2_17 (M : Nat → Nat → Int32) (x y : Int) : m2 M x y 52 17 = iI x := by
  unfold m2
  rw [w_nk (by omega), w_at]
theorem m2_18 (M : Nat → Nat → Int32) (x y : Int) : m2 M x y 52 18 = iI y := by
  unfold m2
  rw [w_at]
theorem m2_eqs (M : Nat → Nat → Int32) (x y : Int) : eqs M (m2 M x y) pA := (eqs.rf.w (by unfold pA pR pT pD pF pH; omega)).w (by unfold pA pR pT pD pF pH; omega)
section ZR
variable (M : Nat → Nat → Int32) (L : Nat → Nat → Int64)
theorem s_105B (V : Vw) (hk : Vk V) (hv : Hv V M) (z y : Int) (h1 : -2147483648 ≤ z) (h2 : z ≤ 2147483647) (h3 : -2147483648 ≤ y) (h4 : y ≤ 2147483647) (h : ¬ ((0 ≤ z ∧ z < V.n) ∧ 0 ≤ y ∧ y < 6)) : zc 5 105 [.ref 0, .int (iI z), .int (iI y)] M L (some (.int (iI (-1)))) M L := by
  refine zc_of (n := 4) (ls := [some (.ref 0), some (.int (iI z)), some (.int (iI y))]) mk_105 rfl rfl rfl rfl (fun d hd N xs => ?_)
  simp (disch := first | omega | assumption) only [b_105_0, b_105_1, b_105_2, g_31 M L V hk hv, iI_lit, iI_neg, iI_add, iI_sub, iI_mul, t_lt, t_le, t_eq, iI_to, b2_to, if_10, if_11, nor_em, Decidable.not_not, Int.reduceEq, Int.reduceLT, Int.reduceLE, Int.reduceAdd, Int.reduceSub, Int.reduceMul, Int.reduceNeg, reduceIte, or_true, true_or, or_false, false_or, o_some]
  repeat' split
  all_goals first | rfl | (exfalso; omega)
theorem g_105B (V : Vw) (hk : Vk V) (hv : Hv V M) (z y : Int) (h1 : -2147483648 ≤ z) (h2 : z ≤ 2147483647) (h3 : -2147483648 ≤ y) (h4 : y ≤ 2147483647) (h : ¬ ((0 ≤ z ∧ z < V.n) ∧ 0 ≤ y ∧ y < 6)) {d N : Nat} {xs : Nat → Int32} {tb_ : List zz_B} {t_ : Nat} {ls_ : zz_L} {rest_ : List Value} (hd_ : 5 ≤ d) : (zz_o (zz_call_ d 105 [.ref 0, .int (iI z), .int (iI y)] (zm N xs M L)) fun r => zz_X (zz_call_ d) tb_ t_ ls_ (r.1.toList ++ rest_) r.2) = zz_X (zz_call_ d) tb_ t_ ls_ ((.int (iI (-1))) :: rest_) (zm N xs M L) := (s_105B M L V hk hv z y h1 h2 h3 h4 h).go hd_
theorem s_105O (V : Vw) (hk : Vk V) (hv : Hv V M) (i k : Nat) (h1 : i < V.n) (h2 : k < 6) : zc 5 105 [.ref 0, .int (iI i), .int (iI k)] M L (some (.int (iI 1))) (zz_wI M 0 10 (iI (V.part i k))) L := by
  refine zc_of (n := 4) (ls := [some (.ref 0), some (.int (iI i)), some (.int (iI k))]) mk_105 rfl rfl rfl rfl (fun d hd N xs => ?_)
  have hn := hk.n
  simp (disch := first | omega | assumption) only [b_105_0, b_105_1, g_31 M L V hk hv, iI_lit, iI_neg, iI_add, iI_sub, iI_mul, t_lt, t_le, t_eq, iI_to, b2_to, if_10, if_11, nor_em, Decidable.not_not, Int.reduceEq, Int.reduceLT, Int.reduceLE, Int.reduceAdd, Int.reduceSub, Int.reduceMul, Int.reduceNeg, reduceIte, or_true, true_or, or_false, false_or, o_some]
  rw [if_neg (by omega), if_neg (by omega), if_pos (by omega), b_105_3, g_39 M L V hk hv i k h1 h2 (by omega), b_105_4]
  rfl
theorem g_105O (V : Vw) (hk : Vk V) (hv : Hv V M) (i k : Nat) (h1 : i < V.n) (h2 : k < 6) {d N : Nat} {xs : Nat → Int32} {tb_ : List zz_B} {t_ : Nat} {ls_ : zz_L} {rest_ : List Value} (hd_ : 5 ≤ d) : (zz_o (zz_call_ d 105 [.ref 0, .int (iI i), .int (iI k)] (zm N xs M L)) fun r => zz_X (zz_call_ d) tb_ t_ ls_ (r.1.toList ++ rest_) r.2) = zz_X (zz_call_ d) tb_ t_ ls_ ((.int (iI 1)) :: rest_) (zm N xs (zz_wI M 0 10 (iI (V.part i k))) L) := (s_105O M L V hk hv i k h1 h2).go hd_
theorem s_193B (V : Vw) (hk : Vk V) (hr : Rv V (M 53) 0) (z y : Int) (h1 : -2147483648 ≤ z) (h2 : z ≤ 2147483647) (h3 : -2147483648 ≤ y) (h4 : y ≤ 2147483647) (h : ¬ ((0 ≤ z ∧ z < V.n) ∧ 0 ≤ y ∧ y < 6)) : zc 5 193 [.ref 52, .int (iI z), .int (iI y)] M L (some (.int (iI (-1)))) M L := by
  refine zc_of (n := 4) (ls := [some (.ref 52), some (.int (iI z)), some (.int (iI y))]) mk_193 rfl rfl rfl rfl (fun d hd N xs => ?_)
  simp (disch := first | omega | assumption) only [b_193_0, b_193_1, b_193_2, b_193_3, g_185 M L V hk hr, iI_long, lI_lit, g_157, iI_lit, iI_neg, iI_add, iI_sub, iI_mul, t_lt, t_le, t_eq, iI_to, b2_to, if_10, if_11, nor_em, Decidable.not_not, Int.reduceEq, Int.reduceLT, Int.reduceLE, Int.reduceAdd, Int.reduceSub, Int.reduceMul, Int.reduceNeg, reduceIte, or_true, true_or, or_false, false_or, o_some]
  repeat' split
  all_goals first | rfl | (exfalso; omega)
theorem g_193B (V : Vw) (hk : Vk V) (hr : Rv V (M 53) 0) (z y : Int) (h1 : -2147483648 ≤ z) (h2 : z ≤ 2147483647) (h3 : -2147483648 ≤ y) (h4 : y ≤ 2147483647) (h : ¬ ((0 ≤ z ∧ z < V.n) ∧ 0 ≤ y ∧ y < 6)) {d N : Nat} {xs : Nat → Int32} {tb_ : List zz_B} {t_ : Nat} {ls_ : zz_L} {rest_ : List Value} (hd_ : 5 ≤ d) : (zz_o (zz_call_ d 193 [.ref 52, .int (iI z), .int (iI y)] (zm N xs M L)) fun r => zz_X (zz_call_ d) tb_ t_ ls_ (r.1.toList ++ rest_) r.2) = zz_X (zz_call_ d) tb_ t_ ls_ ((.int (iI (-1))) :: rest_) (zm N xs M L) := (s_193B M L V hk hr z y h1 h2 h3 h4 h).go hd_
theorem s_193O (V : Vw) (hk : Vk V) (hr : Rv V (M 53) 0) (i k : Nat) (h1 : i < V.n) (h2 : k < 6) : zc 5 193 [.ref 52, .int (iI i), .int (iI k)] M L (some (.int (iI 1))) (zz_wI M 52 10 (iI (V.part i k))) L := by
  refine zc_of (n := 4) (ls := [some (.ref 52), some (.int (iI i)), some (.int (iI k))]) mk_193 rfl rfl rfl rfl (fun d hd N xs => ?_)
  have hn := hk.n
  simp (disch := first | omega | assumption) only [b_193_0, b_193_1, b_193_2, g_185 M L V hk hr, iI_long, lI_lit, g_157, iI_lit, iI_neg, iI_add, iI_sub, iI_mul, t_lt, t_le, t_eq, iI_to, b2_to, if_10, if_11, nor_em, Decidable.not_not, Int.reduceEq, Int.reduceLT, Int.reduceLE, Int.reduceAdd, Int.reduceSub, Int.reduceMul, Int.reduceNeg, reduceIte, or_true, true_or, or_false, false_or, o_some]
  rw [if_neg (by omega), if_neg (by omega), b_193_4, g_194 M L V hk hr i k h1 h2 (by omega), b_193_5, g_162 M L _ _ (by omega), b_193_6]
  rfl
theorem g_193O (V : Vw) (hk : Vk V) (hr : Rv V (M 53) 0) (i k : Nat) (h1 : i < V.n) (h2 : k < 6) {d N : Nat} {xs : Nat → Int32} {tb_ : List zz_B} {t_ : Nat} {ls_ : zz_L} {rest_ : List Value} (hd_ : 5 ≤ d) : (zz_o (zz_call_ d 193 [.ref 52, .int (iI i), .int (iI k)] (zm N xs M L)) fun r => zz_X (zz_call_ d) tb_ t_ ls_ (r.1.toList ++ rest_) r.2) = zz_X (zz_call_ d) tb_ t_ ls_ ((.int (iI 1)) :: rest_) (zm N xs (zz_wI M 52 10 (iI (V.part i k))) L) := (s_193O M L V hk hr i k h1 h2).go hd_
theorem s_107B (z : Int) (h1 : -2147483648 ≤ z) (h2 : z ≤ 2147483647) (h : ¬ (0 ≤ z ∧ z ≤ 999)) : zc 3 107 [.ref 0, .int (iI z)] M L (some (.int (iI (-1)))) M L := by
  refine zc_of (n := 2) (ls := [some (.ref 0), some (.int (iI z))]) mk_107 rfl rfl rfl rfl (fun d hd N xs => ?_)
  simp (disch := first | omega | assumption) only [b_107_0, b_107_1, iI_lit, iI_neg, iI_add, iI_sub, iI_mul, t_lt, t_le, t_eq, iI_to, b2_to, if_10, if_11, nor_em, Decidable.not_not, Int.reduceEq, Int.reduceLT, Int.reduceLE, Int.reduceAdd, Int.reduceSub, Int.reduceMul, Int.reduceNeg, reduceIte, or_true, true_or, or_false, false_or, o_some]
  repeat' split
  all_goals first | rfl | (exfalso; omega)
theorem g_107B (z : Int) (h1 : -2147483648 ≤ z) (h2 : z ≤ 2147483647) (h : ¬ (0 ≤ z ∧ z ≤ 999)) {d N : Nat} {xs : Nat → Int32} {tb_ : List zz_B} {t_ : Nat} {ls_ : zz_L} {rest_ : List Value} (hd_ : 3 ≤ d) : (zz_o (zz_call_ d 107 [.ref 0, .int (iI z)] (zm N xs M L)) fun r => zz_X (zz_call_ d) tb_ t_ ls_ (r.1.toList ++ rest_) r.2) = zz_X (zz_call_ d) tb_ t_ ls_ ((.int (iI (-1))) :: rest_) (zm N xs M L) := (s_107B M L z h1 h2 h).go hd_
theorem s_107O (V : Vw) (hk : Vk V) (hv : Hv V M) (k : Nat) (h : k ≤ 999) : zc 3 107 [.ref 0, .int (iI k)] M L (some (.int (iI (if V.n = 0 then -4 else V.heatAt k)))) M L := by
  refine zc_of (n := 2) (ls := [some (.ref 0), some (.int (iI k))]) mk_107 rfl rfl rfl rfl (fun d hd N xs => ?_)
  have hn := hk.n
  simp (disch := first | omega | assumption) only [b_107_0, b_107_2, hv.n, iI_lit, iI_neg, iI_add, iI_sub, iI_mul, t_lt, t_le, t_eq, iI_to, b2_to, if_10, if_11, nor_em, Decidable.not_not, Int.reduceEq, Int.reduceLT, Int.reduceLE, Int.reduceAdd, Int.reduceSub, Int.reduceMul, Int.reduceNeg, reduceIte, or_true, true_or, or_false, false_or, o_some]
  rw [if_neg (by omega), if_pos (by omega)]
  by_cases q : V.n = 0
  · rw [if_pos (by omega), if_pos q]
  · rw [if_neg (by omega), if_neg q, b_107_3, g_41 M L V hk hv k (by omega) (by omega), b_107_4]
theorem g_107O (V : Vw) (hk : Vk V) (hv : Hv V M) (k : Nat) (h : k ≤ 999) {d N : Nat} {xs : Nat → Int32} {tb_ : List zz_B} {t_ : Nat} {ls_ : zz_L} {rest_ : List Value} (hd_ : 3 ≤ d) : (zz_o (zz_call_ d 107 [.ref 0, .int (iI k)] (zm N xs M L)) fun r => zz_X (zz_call_ d) tb_ t_ ls_ (r.1.toList ++ rest_) r.2) = zz_X (zz_call_ d) tb_ t_ ls_ ((.int (iI (if V.n = 0 then -4 else V.heatAt k))) :: rest_) (zm N xs M L) := (s_107O M L V hk hv k h).go hd_
theorem s_197B (z : Int) (h1 : -2147483648 ≤ z) (h2 : z ≤ 2147483647) (h : ¬ (0 ≤ z ∧ z ≤ 999)) : zc 3 197 [.ref 52, .int (iI z)] M L (some (.int (iI (-1)))) M L := by
  refine zc_of (n := 2) (ls := [some (.ref 52), some (.int (iI z))]) mk_197 rfl rfl rfl rfl (fun d hd N xs => ?_)
  simp (disch := first | omega | assumption) only [b_197_0, b_197_1, iI_long, lI_lit, g_157, iI_lit, iI_neg, iI_add, iI_sub, iI_mul, t_lt, t_le, t_eq, iI_to, b2_to, if_10, if_11, nor_em, Decidable.not_not, Int.reduceEq, Int.reduceLT, Int.reduceLE, Int.reduceAdd, Int.reduceSub, Int.reduceMul, Int.reduceNeg, reduceIte, or_true, true_or, or_false, false_or, o_some]
  rw [if_pos h]
theorem g_197B (z : Int) (h1 : -2147483648 ≤ z) (h2 : z ≤ 2147483647) (h : ¬ (0 ≤ z ∧ z ≤ 999)) {d N : Nat} {xs : Nat → Int32} {tb_ : List zz_B} {t_ : Nat} {ls_ : zz_L} {rest_ : List Value} (hd_ : 3 ≤ d) : (zz_o (zz_call_ d 197 [.ref 52, .int (iI z)] (zm N xs M L)) fun r => zz_X (zz_call_ d) tb_ t_ ls_ (r.1.toList ++ rest_) r.2) = zz_X (zz_call_ d) tb_ t_ ls_ ((.int (iI (-1))) :: rest_) (zm N xs M L) := (s_197B M L z h1 h2 h).go hd_
theorem s_197O (V : Vw) (hk : Vk V) (hr : Rv V (M 53) 0) (k : Nat) (h : k ≤ 999) : zc 3 197 [.ref 52, .int (iI k)] M L (some (.int (iI (if V.n = 0 then -4 else V.heatAt k)))) M L := by
  refine zc_of (n := 2) (ls := [some (.ref 52), some (.int (iI k))]) mk_197 rfl rfl rfl rfl (fun d hd N xs => ?_)
  have hn := hk.n
  have e0 : M 53 0 = iI V.n := hr.n
  simp (disch := first | omega | assumption) only [b_197_0, b_197_1, b_197_2, iI_long, lI_lit, g_157, e0, iI_lit, iI_neg, iI_add, iI_sub, iI_mul, t_lt, t_le, t_eq, iI_to, b2_to, if_10, if_11, nor_em, Decidable.not_not, Int.reduceEq, Int.reduceLT, Int.reduceLE, Int.reduceAdd, Int.reduceSub, Int.reduceMul, Int.reduceNeg, reduceIte, or_true, true_or, or_false, false_or, o_some]
  rw [if_neg (by omega)]
  by_cases q : V.n = 0
  · rw [if_pos (by omega), if_pos q, b_197_4]
  · rw [if_neg (by omega), if_neg q, b_197_3, g_187 M L V hk hr (hk.hc0 (by omega)) k (by omega) (by omega), b_197_4]
theorem g_197O (V : Vw) (hk : Vk V) (hr : Rv V (M 53) 0) (k : Nat) (h : k ≤ 999) {d N : Nat} {xs : Nat → Int32} {tb_ : List zz_B} {t_ : Nat} {ls_ : zz_L} {rest_ : List Value} (hd_ : 3 ≤ d) : (zz_o (zz_call_ d 197 [.ref 52, .int (iI k)] (zm N xs M L)) fun r => zz_X (zz_call_ d) tb_ t_ ls_ (r.1.toList ++ rest_) r.2) = zz_X (zz_call_ d) tb_ t_ ls_ ((.int (iI (if V.n = 0 then -4 else V.heatAt k))) :: rest_) (zm N xs M L) := (s_197O M L V hk hr k h).go hd_
theorem s_113B (V : Vw) (hk : Vk V) (hv : Hv V M) (z y : Int) (h1 : -2147483648 ≤ z) (h2 : z ≤ 2147483647) (h3 : -2147483648 ≤ y) (h4 : y ≤ 2147483647) (h : ¬ ((0 ≤ z ∧ z < V.n) ∧ 0 ≤ y ∧ y ≤ 420)) : zc 5 113 [.ref 0, .int (iI z), .int (iI y)] M L (some (.int (iI (-1)))) M L := by
  refine zc_of (n := 4) (ls := [some (.ref 0), some (.int (iI z)), some (.int (iI y))]) mk_113 rfl rfl rfl rfl (fun d hd N xs => ?_)
  simp (disch := first | omega | assumption) only [b_113_0, b_113_1, b_113_2, b_113_3, g_31 M L V hk hv, g_149, iI_lit, iI_neg, iI_add, iI_sub, iI_mul, t_lt, t_le, t_eq, iI_to, b2_to, if_10, if_11, nor_em, Decidable.not_not, Int.reduceEq, Int.reduceLT, Int.reduceLE, Int.reduceAdd, Int.reduceSub, Int.reduceMul, Int.reduceNeg, reduceIte, or_true, true_or, or_false, false_or, o_some]
  repeat' split
  all_goals first | rfl | (exfalso; omega)
theorem g_113B (V : Vw) (hk : Vk V) (hv : Hv V M) (z y : Int) (h1 : -2147483648 ≤ z) (h2 : z ≤ 2147483647) (h3 : -2147483648 ≤ y) (h4 : y ≤ 2147483647) (h : ¬ ((0 ≤ z ∧ z < V.n) ∧ 0 ≤ y ∧ y ≤ 420)) {d N : Nat} {xs : Nat → Int32} {tb_ : List zz_B} {t_ : Nat} {ls_ : zz_L} {rest_ : List Value} (hd_ : 5 ≤ d) : (zz_o (zz_call_ d 113 [.ref 0, .int (iI z), .int (iI y)] (zm N xs M L)) fun r => zz_X (zz_call_ d) tb_ t_ ls_ (r.1.toList ++ rest_) r.2) = zz_X (zz_call_ d) tb_ t_ ls_ ((.int (iI (-1))) :: rest_) (zm N xs M L) := (s_113B M L V hk hv z y h1 h2 h3 h4 h).go hd_
theorem s_113O (V : Vw) (hk : Vk V) (hv : Hv V M) (i k : Nat) (h1 : i < V.n) (h2 : k ≤ 420) : zc 5 113 [.ref 0, .int (iI i), .int (iI k)] M L (some (.int (iI (V.minAt i k)))) M L := by
  refine zc_of (n := 4) (ls := [some (.ref 0), some (.int (iI i)), some (.int (iI k))]) mk_113 rfl rfl rfl rfl (fun d hd N xs => ?_)
  have hn := hk.n
  have hw := warm_b hk k
  simp (disch := first | omega | assumption) only [b_113_0, b_113_1, b_113_2, g_31 M L V hk hv, g_149, iI_lit, iI_neg, iI_add, iI_sub, iI_mul, t_lt, t_le, t_eq, iI_to, b2_to, if_10, if_11, nor_em, Decidable.not_not, Int.reduceEq, Int.reduceLT, Int.reduceLE, Int.reduceAdd, Int.reduceSub, Int.reduceMul, Int.reduceNeg, reduceIte, or_true, true_or, or_false, false_or, o_some]
  rw [if_neg (by omega), if_neg (by omega), b_113_4, g_43 M L V hk hv k (by omega) (by omega), b_113_5, g_44 M L V hk hv i k _ h1 (by omega) (by omega) (by omega) (by omega) (by omega), b_113_6]
  rfl
theorem g_113O (V : Vw) (hk : Vk V) (hv : Hv V M) (i k : Nat) (h1 : i < V.n) (h2 : k ≤ 420) {d N : Nat} {xs : Nat → Int32} {tb_ : List zz_B} {t_ : Nat} {ls_ : zz_L} {rest_ : List Value} (hd_ : 5 ≤ d) : (zz_o (zz_call_ d 113 [.ref 0, .int (iI i), .int (iI k)] (zm N xs M L)) fun r => zz_X (zz_call_ d) tb_ t_ ls_ (r.1.toList ++ rest_) r.2) = zz_X (zz_call_ d) tb_ t_ ls_ ((.int (iI (V.minAt i k))) :: rest_) (zm N xs M L) := (s_113O M L V hk hv i k h1 h2).go hd_
theorem s_210B (V : Vw) (hk : Vk V) (hr : Rv V (M 53) 0) (z y : Int) (h1 : -2147483648 ≤ z) (h2 : z ≤ 2147483647) (h3 : -2147483648 ≤ y) (h4 : y ≤ 2147483647) (h : ¬ ((0 ≤ z ∧ z < V.n) ∧ 0 ≤ y ∧ y ≤ 420)) : zc 6 210 [.ref 52, .int (iI z), .int (iI y)] M L (some (.int (iI (-1)))) M L := by
  refine zc_of (n := 5) (ls := [some (.ref 52), some (.int (iI z)), some (.int (iI y))]) mk_210 rfl rfl rfl rfl (fun d hd N xs => ?_)
  by_cases q : 0 ≤ z ∧ z < V.n
  · rw [b_210_0, g_185 M L V hk hr z h1 h2 (by omega), b2_t q, b_210_1, iI_lit 0, if_neg iI10, g_209 M L y h3 h4 (by omega), b2_f (by omega), b_210_2, iI_lit 0, if_pos rfl, b_210_4, b_210_5]
    rfl
  · rw [b_210_0, g_185 M L V hk hr z h1 h2 (by omega), b2_f q, b_210_1, iI_lit 0, if_pos rfl, b_210_4, b_210_5]
    rfl
theorem g_210B (V : Vw) (hk : Vk V) (hr : Rv V (M 53) 0) (z y : Int) (h1 : -2147483648 ≤ z) (h2 : z ≤ 2147483647) (h3 : -2147483648 ≤ y) (h4 : y ≤ 2147483647) (h : ¬ ((0 ≤ z ∧ z < V.n) ∧ 0 ≤ y ∧ y ≤ 420)) {d N : Nat} {xs : Nat → Int32} {tb_ : List zz_B} {t_ : Nat} {ls_ : zz_L} {rest_ : List Value} (hd_ : 6 ≤ d) : (zz_o (zz_call_ d 210 [.ref 52, .int (iI z), .int (iI y)] (zm N xs M L)) fun r => zz_X (zz_call_ d) tb_ t_ ls_ (r.1.toList ++ rest_) r.2) = zz_X (zz_call_ d) tb_ t_ ls_ ((.int (iI (-1))) :: rest_) (zm N xs M L) := (s_210B M L V hk hr z y h1 h2 h3 h4 h).go hd_
theorem s_210O (V : Vw) (hk : Vk V) (hr : Rv V (M 53) 0) (i k : Nat) (h1 : i < V.n) (h2 : k ≤ 420) : zc 6 210 [.ref 52, .int (iI i), .int (iI k)] M L (some (.int (iI (V.minAt i k)))) M L := by
  refine zc_of (n := 5) (ls := [some (.ref 52), some (.int (iI i)), some (.int (iI k))]) mk_210 rfl rfl rfl rfl (fun d hd N xs => ?_)
  have hn := hk.n
  rw [b_210_0, g_185 M L V hk hr i (by omega) (by omega) (by omega), b2_t (by omega), b_210_1, iI_lit 0, if_neg iI10, g_209 M L k (by omega) (by omega) (by omega), b2_t (by omega), b_210_2, iI_lit 0, if_neg iI10, g_190 M L V hk hr i k h1 (by omega) (by omega), b_210_3, b_210_5]
theorem g_210O (V : Vw) (hk : Vk V) (hr : Rv V (M 53) 0) (i k : Nat) (h1 : i < V.n) (h2 : k ≤ 420) {d N : Nat} {xs : Nat → Int32} {tb_ : List zz_B} {t_ : Nat} {ls_ : zz_L} {rest_ : List Value} (hd_ : 6 ≤ d) : (zz_o (zz_call_ d 210 [.ref 52, .int (iI i), .int (iI k)] (zm N xs M L)) fun r => zz_X (zz_call_ d) tb_ t_ ls_ (r.1.toList ++ rest_) r.2) = zz_X (zz_call_ d) tb_ t_ ls_ ((.int (iI (V.minAt i k))) :: rest_) (zm N xs M L) := (s_210O M L V hk hr i k h1 h2).go hd_
theorem s_134  : zc 1 134 [.ref 0] M L (some (.int (M 0 10))) M L := by
  refine zc_of (n := 0) (ls := [some (.ref 0)]) mk_134 rfl rfl rfl rfl (fun d hd N xs => ?_)
  rw [b_134_0]
theorem g_134  {d N : Nat} {xs : Nat → Int32} {tb_ : List zz_B} {t_ : Nat} {ls_ : zz_L} {rest_ : List Value} (hd_ : 1 ≤ d) : (zz_o (zz_call_ d 134 [.ref 0] (zm N xs M L)) fun r => zz_X (zz_call_ d) tb_ t_ ls_ (r.1.toList ++ rest_) r.2) = zz_X (zz_call_ d) tb_ t_ ls_ ((.int (M 0 10)) :: rest_) (zm N xs M L) := (s_134 M L).go hd_
theorem s_135  : zc 1 135 [.ref 0] M L (some (.long (L 48 2))) M L := by
  refine zc_of (n := 0) (ls := [some (.ref 0)]) mk_135 rfl rfl rfl rfl (fun d hd N xs => ?_)
  rw [b_135_0]
theorem g_135  {d N : Nat} {xs : Nat → Int32} {tb_ : List zz_B} {t_ : Nat} {ls_ : zz_L} {rest_ : List Value} (hd_ : 1 ≤ d) : (zz_o (zz_call_ d 135 [.ref 0] (zm N xs M L)) fun r => zz_X (zz_call_ d) tb_ t_ ls_ (r.1.toList ++ rest_) r.2) = zz_X (zz_call_ d) tb_ t_ ls_ ((.long (L 48 2)) :: rest_) (zm N xs M L) := (s_135 M L).go hd_
theorem s_136  : zc 1 136 [.ref 0] M L (some (.long (L 48 3))) M L := by
  refine zc_of (n := 0) (ls := [some (.ref 0)]) mk_136 rfl rfl rfl rfl (fun d hd N xs => ?_)
  rw [b_136_0]
theorem g_136  {d N : Nat} {xs : Nat → Int32} {tb_ : List zz_B} {t_ : Nat} {ls_ : zz_L} {rest_ : List Value} (hd_ : 1 ≤ d) : (zz_o (zz_call_ d 136 [.ref 0] (zm N xs M L)) fun r => zz_X (zz_call_ d) tb_ t_ ls_ (r.1.toList ++ rest_) r.2) = zz_X (zz_call_ d) tb_ t_ ls_ ((.long (L 48 3)) :: rest_) (zm N xs M L) := (s_136 M L).go hd_
theorem s_138  : zc 1 138 [.ref 0] M L (some (.int (M 0 9))) M L := by
  refine zc_of (n := 0) (ls := [some (.ref 0)]) mk_138 rfl rfl rfl rfl (fun d hd N xs => ?_)
  rw [b_138_0]
theorem g_138  {d N : Nat} {xs : Nat → Int32} {tb_ : List zz_B} {t_ : Nat} {ls_ : zz_L} {rest_ : List Value} (hd_ : 1 ≤ d) : (zz_o (zz_call_ d 138 [.ref 0] (zm N xs M L)) fun r => zz_X (zz_call_ d) tb_ t_ ls_ (r.1.toList ++ rest_) r.2) = zz_X (zz_call_ d) tb_ t_ ls_ ((.int (M 0 9)) :: rest_) (zm N xs M L) := (s_138 M L).go hd_
theorem s_250  : zc 1 250 [.ref 52] M L (some (.int (M 52 10))) M L := by
  refine zc_of (n := 0) (ls := [some (.ref 52)]) mk_250 rfl rfl rfl rfl (fun d hd N xs => ?_)
  rw [b_250_0]
theorem g_250  {d N : Nat} {xs : Nat → Int32} {tb_ : List zz_B} {t_ : Nat} {ls_ : zz_L} {rest_ : List Value} (hd_ : 1 ≤ d) : (zz_o (zz_call_ d 250 [.ref 52] (zm N xs M L)) fun r => zz_X (zz_call_ d) tb_ t_ ls_ (r.1.toList ++ rest_) r.2) = zz_X (zz_call_ d) tb_ t_ ls_ ((.int (M 52 10)) :: rest_) (zm N xs M L) := (s_250 M L).go hd_
theorem s_251  : zc 1 251 [.ref 52] M L (some (.long (L 52 11))) M L := by
  refine zc_of (n := 0) (ls := [some (.ref 52)]) mk_251 rfl rfl rfl rfl (fun d hd N xs => ?_)
  rw [b_251_0]
theorem g_251  {d N : Nat} {xs : Nat → Int32} {tb_ : List zz_B} {t_ : Nat} {ls_ : zz_L} {rest_ : List Value} (hd_ : 1 ≤ d) : (zz_o (zz_call_ d 251 [.ref 52] (zm N xs M L)) fun r => zz_X (zz_call_ d) tb_ t_ ls_ (r.1.toList ++ rest_) r.2) = zz_X (zz_call_ d) tb_ t_ ls_ ((.long (L 52 11)) :: rest_) (zm N xs M L) := (s_251 M L).go hd_
theorem s_252  : zc 1 252 [.ref 52] M L (some (.long (L 52 12))) M L := by
  refine zc_of (n := 0) (ls := [some (.ref 52)]) mk_252 rfl rfl rfl rfl (fun d hd N xs => ?_)
  rw [b_252_0]
theorem g_252  {d N : Nat} {xs : Nat → Int32} {tb_ : List zz_B} {t_ : Nat} {ls_ : zz_L} {rest_ : List Value} (hd_ : 1 ≤ d) : (zz_o (zz_call_ d 252 [.ref 52] (zm N xs M L)) fun r => zz_X (zz_call_ d) tb_ t_ ls_ (r.1.toList ++ rest_) r.2) = zz_X (zz_call_ d) tb_ t_ ls_ ((.long (L 52 12)) :: rest_) (zm N xs M L) := (s_252 M L).go hd_
theorem s_256  : zc 1 256 [.ref 52] M L (some (.int (M 52 8))) M L := by
  refine zc_of (n := 0) (ls := [some (.ref 52)]) mk_256 rfl rfl rfl rfl (fun d hd N xs => ?_)
  rw [b_256_0]
theorem g_256  {d N : Nat} {xs : Nat → Int32} {tb_ : List zz_B} {t_ : Nat} {ls_ : zz_L} {rest_ : List Value} (hd_ : 1 ≤ d) : (zz_o (zz_call_ d 256 [.ref 52] (zm N xs M L)) fun r => zz_X (zz_call_ d) tb_ t_ ls_ (r.1.toList ++ rest_) r.2) = zz_X (zz_call_ d) tb_ t_ ls_ ((.int (M 52 8)) :: rest_) (zm N xs M L) := (s_256 M L).go hd_
theorem s_139 (z : Int) (h1 : -2147483648 ≤ z) (h2 : z ≤ 2147483647) : zc 1 139 [.ref 0, .int (iI z)] M L (some (.int (if 1 ≤ z ∧ z ≤ 5 then M 51 z.toNat else iI (-1)))) M L := by
  refine zc_of (n := 0) (ls := [some (.ref 0), some (.int (iI z))]) mk_139 rfl rfl rfl rfl (fun d hd N xs => ?_)
  simp (disch := first | omega | assumption) only [b_139_0, b_139_1, iI_lit, iI_neg, iI_add, iI_sub, iI_mul, t_lt, t_le, t_eq, iI_to, b2_to, if_10, if_11, nor_em, Decidable.not_not, Int.reduceEq, Int.reduceLT, Int.reduceLE, Int.reduceAdd, Int.reduceSub, Int.reduceMul, Int.reduceNeg, reduceIte, or_true, true_or, or_false, false_or, o_some]
  by_cases q : 1 ≤ z ∧ z ≤ 5
  · rw [if_neg (by omega), if_pos (by omega), if_pos q, b_139_2, ix_in (by omega) (by omega) (by omega), o_some]
  · rw [if_neg q]
    repeat' split
    all_goals first | rfl | (exfalso; omega)
theorem g_139 (z : Int) (h1 : -2147483648 ≤ z) (h2 : z ≤ 2147483647) {d N : Nat} {xs : Nat → Int32} {tb_ : List zz_B} {t_ : Nat} {ls_ : zz_L} {rest_ : List Value} (hd_ : 1 ≤ d) : (zz_o (zz_call_ d 139 [.ref 0, .int (iI z)] (zm N xs M L)) fun r => zz_X (zz_call_ d) tb_ t_ ls_ (r.1.toList ++ rest_) r.2) = zz_X (zz_call_ d) tb_ t_ ls_ ((.int (if 1 ≤ z ∧ z ≤ 5 then M 51 z.toNat else iI (-1))) :: rest_) (zm N xs M L) := (s_139 M L z h1 h2).go hd_
theorem s_257 (z : Int) (h1 : -2147483648 ≤ z) (h2 : z ≤ 2147483647) : zc 2 257 [.ref 52, .int (iI z)] M L (some (.int (if 1 ≤ z ∧ z ≤ 5 then M 60 z.toNat else iI (-1)))) M L := by
  refine zc_of (n := 1) (ls := [some (.ref 52), some (.int (iI z))]) mk_257 rfl rfl rfl rfl (fun d hd N xs => ?_)
  simp (disch := first | omega | assumption) only [b_257_0, iI_long, lI_lit, g_157]
  by_cases q : 1 ≤ z ∧ z ≤ 5
  · rw [b2_t q, b_257_1, iI_lit 0, if_neg iI10, if_pos q, ix_in (by omega) (by omega) (by omega), o_some, b_257_3]
  · rw [b2_f q, b_257_1, iI_lit 0, if_pos rfl, if_neg q, b_257_2, b_257_3]
    rfl
theorem g_257 (z : Int) (h1 : -2147483648 ≤ z) (h2 : z ≤ 2147483647) {d N : Nat} {xs : Nat → Int32} {tb_ : List zz_B} {t_ : Nat} {ls_ : zz_L} {rest_ : List Value} (hd_ : 2 ≤ d) : (zz_o (zz_call_ d 257 [.ref 52, .int (iI z)] (zm N xs M L)) fun r => zz_X (zz_call_ d) tb_ t_ ls_ (r.1.toList ++ rest_) r.2) = zz_X (zz_call_ d) tb_ t_ ls_ ((.int (if 1 ≤ z ∧ z ≤ 5 then M 60 z.toNat else iI (-1))) :: rest_) (zm N xs M L) := (s_257 M L z h1 h2).go hd_
theorem s_114B (V : Vw) (hk : Vk V) (hv : Hv V M) (z y : Int) (h1 : -2147483648 ≤ z) (h2 : z ≤ 2147483647) (h3 : -2147483648 ≤ y) (h4 : y ≤ 2147483647) (h : ¬ ((0 ≤ z ∧ z < V.n) ∧ (0 ≤ y ∧ y < V.n) ∧ z ≠ y)) : zc 5 114 [.ref 0, .int (iI z), .int (iI y)] M L (some (.int (iI (-1)))) M L := by
  refine zc_of (n := 4) (ls := [some (.ref 0), some (.int (iI z)), some (.int (iI y)), none, none]) mk_114 rfl rfl rfl rfl (fun d hd N xs => ?_)
  rw [b_114_0, g_32 M L V hk hv z y h1 h2 h3 h4 (by omega), b2_f h, b_114_1, iI_lit 0, if_pos rfl]
  rfl
theorem g_114B (V : Vw) (hk : Vk V) (hv : Hv V M) (z y : Int) (h1 : -2147483648 ≤ z) (h2 : z ≤ 2147483647) (h3 : -2147483648 ≤ y) (h4 : y ≤ 2147483647) (h : ¬ ((0 ≤ z ∧ z < V.n) ∧ (0 ≤ y ∧ y < V.n) ∧ z ≠ y)) {d N : Nat} {xs : Nat → Int32} {tb_ : List zz_B} {t_ : Nat} {ls_ : zz_L} {rest_ : List Value} (hd_ : 5 ≤ d) : (zz_o (zz_call_ d 114 [.ref 0, .int (iI z), .int (iI y)] (zm N xs M L)) fun r => zz_X (zz_call_ d) tb_ t_ ls_ (r.1.toList ++ rest_) r.2) = zz_X (zz_call_ d) tb_ t_ ls_ ((.int (iI (-1))) :: rest_) (zm N xs M L) := (s_114B M L V hk hv z y h1 h2 h3 h4 h).go hd_
theorem g_46V (V : Vw) (hk : Vk V) (hv : Hv V M) (i j k : Nat) (hi : i < V.n) (hj : j < V.n) (h3 : k ≤ 1000) {d N : Nat} {xs : Nat → Int32} {tb_ : List zz_B} {t_ : Nat} {ls_ : zz_L} {rest_ : List Value} (hd_ : 4 ≤ d) : (zz_o (zz_call_ d 46 [.ref 23, .int (iI i), .int (iI j), .int (iI k), .int (iI (V.warm k))] (zm N xs M L)) fun r => zz_X (zz_call_ d) tb_ t_ ls_ (r.1.toList ++ rest_) r.2) = zz_X (zz_call_ d) tb_ t_ ls_ ((.int (b2 (V.mt i j k))) :: rest_) (zm N xs M L) := g_46 M L V hk hv i j k (V.warm k) hi hj (by omega) (by omega) (warm_b hk k).1 (by have := warm_b hk k; omega) hd_
theorem g_44V (V : Vw) (hk : Vk V) (hv : Hv V M) (i k : Nat) (hi : i < V.n) (h3 : k ≤ 1000) {d N : Nat} {xs : Nat → Int32} {tb_ : List zz_B} {t_ : Nat} {ls_ : zz_L} {rest_ : List Value} (hd_ : 2 ≤ d) : (zz_o (zz_call_ d 44 [.ref 23, .int (iI i), .int (iI k), .int (iI (V.warm k))] (zm N xs M L)) fun r => zz_X (zz_call_ d) tb_ t_ ls_ (r.1.toList ++ rest_) r.2) = zz_X (zz_call_ d) tb_ t_ ls_ ((.int (iI (V.minAt i k))) :: rest_) (zm N xs M L) := g_44 M L V hk hv i k (V.warm k) hi (by omega) (by omega) (warm_b hk k).1 (by have := warm_b hk k; omega) hd_
theorem g_45V (V : Vw) (hk : Vk V) (hv : Hv V M) (i k : Nat) (hi : i < V.n) (h3 : k ≤ 1000) {d N : Nat} {xs : Nat → Int32} {tb_ : List zz_B} {t_ : Nat} {ls_ : zz_L} {rest_ : List Value} (hd_ : 3 ≤ d) : (zz_o (zz_call_ d 45 [.ref 23, .int (iI i), .int (iI k), .int (iI (V.warm k))] (zm N xs M L)) fun r => zz_X (zz_call_ d) tb_ t_ ls_ (r.1.toList ++ rest_) r.2) = zz_X (zz_call_ d) tb_ t_ ls_ ((.long (lI (rg (V.minAt i k).toNat (span (V.kind i))))) :: rest_) (zm N xs M L) := g_45 M L V hk hv i k (V.warm k) hi (by omega) (by omega) (warm_b hk k).1 (by have := warm_b hk k; omega) hd_
theorem l_114 {d : Nat} (hd : 4 ≤ d) (N : Nat) (xs : Nat → Int32) (V : Vw) (hk : Vk V) (hv : Hv V M) (i j : Nat) (hi : i < V.n) (hj : j < V.n) : ∀ c k : Nat, k + c = 421 → zz_X (zz_call_ d) tb_114 3 [some (.ref 0), some (.int (iI i)), some (.int (iI j)), some (.int (iI (V.warm k))), some (.int (iI k))] [] (zm N xs M L) = some (some (.int (iI (if fx (V.mt i j) c k < 421 then (fx (V.mt i j) c k : Int) else -9))), zm N xs M L)
  | 0, k, hc => by
    rw [b_114_3, iI_lit, if_pos (by rw [t_lt, iI_to (by omega) (by omega), iI_to (by omega) (by omega)]; omega), b_114_7]
    unfold fx
    rw [if_neg (by omega)]
    rfl
  | c + 1, k, hc => by
    have hw := warm_b hk k
    rw [b_114_3, iI_lit, if_neg (by rw [t_lt, iI_to (by omega) (by omega), iI_to (by omega) (by omega)]; omega), g_46V M L V hk hv i j k hi hj (by omega) (by omega)]
    unfold fx
    by_cases q : V.mt i j k
    · rw [b2_t q, b_114_4, iI_lit 0, if_neg iI10, if_pos q, if_pos (by omega)]
    · rw [b2_f q, b_114_4, iI_lit 0, if_pos rfl, if_neg q, b_114_5, g_42 M L V hk hv k (by omega) (by omega), b_114_6, iI_add, iI_lit, iI_add]
      exact l_114 hd N xs V hk hv i j hi hj c (k + 1) (by omega)
theorem s_114O (V : Vw) (hk : Vk V) (hv : Hv V M) (i j : Nat) (h1 : i < V.n) (h2 : j < V.n) (h3 : i ≠ j) : zc 5 114 [.ref 0, .int (iI i), .int (iI j)] M L (some (.int (iI (if fx (V.mt i j) 421 0 < 421 then (fx (V.mt i j) 421 0 : Int) else -9)))) M L := by
  refine zc_of (n := 4) (ls := [some (.ref 0), some (.int (iI i)), some (.int (iI j)), none, none]) mk_114 rfl rfl rfl rfl (fun d hd N xs => ?_)
  have hn := hk.n
  rw [b_114_0, g_32 M L V hk hv i j (by omega) (by omega) (by omega) (by omega) (by omega), b2_t (by omega), b_114_1, iI_lit 0, if_neg iI10, b_114_2]
  exact l_114 M L hd N xs V hk hv i j h1 h2 421 0 (by omega)
theorem g_114O (V : Vw) (hk : Vk V) (hv : Hv V M) (i j : Nat) (h1 : i < V.n) (h2 : j < V.n) (h3 : i ≠ j) {d N : Nat} {xs : Nat → Int32} {tb_ : List zz_B} {t_ : Nat} {ls_ : zz_L} {rest_ : List Value} (hd_ : 5 ≤ d) : (zz_o (zz_call_ d 114 [.ref 0, .int (iI i), .int (iI j)] (zm N xs M L)) fun r => zz_X (zz_call_ d) tb_ t_ ls_ (r.1.toList ++ rest_) r.2) = zz_X (zz_call_ d) tb_ t_ ls_ ((.int (iI (if fx (V.mt i j) 421 0 < 421 then (fx (V.mt i j) 421 0 : Int) else -9))) :: rest_) (zm N xs M L) := (s_114O M L V hk hv i j h1 h2 h3).go hd_
theorem s_212 (V : Vw) (hk : Vk V) (hr : Rv V (M 53) 0) (i j : Nat) (hi : i < V.n) (hj : j < V.n) : zc 1 212 [.ref 52, .int (iI i), .int (iI j)] M L none (m2 M (V.minute i) (V.minute j)) L := by
  refine zc_of (n := 0) (ls := [some (.ref 52), some (.int (iI i)), some (.int (iI j))]) mk_212 rfl rfl rfl rfl (fun d hd N xs => ?_)
  have hn := hk.n
  rw [b_212_0]
  simp only [iI_lit, iI_add]
  rw [show (28 : Int) + (i : Int) = ((0 + (28 + i) : Nat) : Int) by omega, show (28 : Int) + (j : Int) = ((0 + (28 + j) : Nat) : Int) by omega, ix_nat (by omega) (by omega), o_some, ix_nat (by omega) (by omega), o_some, w_ne (by omega : (53 : Nat) ≠ 52), hr.minute i hi, hr.minute j hj]
  rfl
theorem g_212 (V : Vw) (hk : Vk V) (hr : Rv V (M 53) 0) (i j : Nat) (hi : i < V.n) (hj : j < V.n) {d N : Nat} {xs : Nat → Int32} {tb_ : List zz_B} {t_ : Nat} {ls_ : zz_L} {rest_ : List Value} (hd_ : 1 ≤ d) : (zz_o (zz_call_ d 212 [.ref 52, .int (iI i), .int (iI j)] (zm N xs M L)) fun r => zz_X (zz_call_ d) tb_ t_ ls_ (r.1.toList ++ rest_) r.2) = zz_X (zz_call_ d) tb_ t_ ls_ rest_ (zm N xs (m2 M (V.minute i) (V.minute j)) L) := (s_212 M L V hk hr i j hi hj).gov hd_
theorem s_213 (V : Vw) (hk : Vk V) (hr : Rv V (M 53) 0) (i j n : Nat) (a b : Int) (hi : i < V.n) (hj : j < V.n) (hn3 : n ≤ 1000) (ha : 0 ≤ a ∧ a < 60) (hb : 0 ≤ b ∧ b < 60) (h17 : M 52 17 = iI a) (h18 : M 52 18 = iI b) : zc 3 213 [.ref 52, .int (iI i), .int (iI j), .int (iI n)] M L none (m2 M ((a + gn (V.kind i) (V.rate i) 1 (V.heatAt (V.day + n))) % 60) ((b + gn (V.kind j) (V.rate j) 1 (V.heatAt (V.day + n))) % 60)) L := by
  refine zc_of (n := 2) (ls := [some (.ref 52), some (.int (iI i)), some (.int (iI j)), some (.int (iI n))]) mk_213 rfl rfl rfl rfl (fun d hd N xs => ?_)
  have hn := hk.n
  have hday := hk.day
  have h0 := hk.hc0 (by omega)
  have e1 : M 53 1 = iI V.day := hr.day
  have g1 := gn1_b hk i (V.day + n)
  have g2 := gn1_b hk j (V.day + n)
  rw [b_213_0]
  simp only [iI_lit, iI_add]
  rw [show (10 : Int) + (i : Int) = ((0 + (10 + i) : Nat) : Int) by omega, show (16 : Int) + (i : Int) = ((0 + (16 + i) : Nat) : Int) by omega, ix_nat (by omega) (by omega), o_some, ix_nat (by omega) (by omega), o_some, hr.kind i hi, hr.rate i hi, e1, iI_add, show (V.day : Int) + (n : Int) = ((V.day + n : Nat) : Int) by omega, g_188 M L V hk hr h0 _ _ (V.day + n) (hk.kind i) (by omega) (by omega), b_213_1, h17, iI_add, g_160 M L _ (by omega) (by omega) (by omega), b_213_2]
  simp only [iI_lit, iI_add]
  rw [show (10 : Int) + (j : Int) = ((0 + (10 + j) : Nat) : Int) by omega, show (16 : Int) + (j : Int) = ((0 + (16 + j) : Nat) : Int) by omega, ix_nat (by omega) (by omega), o_some, ix_nat (by omega) (by omega), o_some, w_ne (by omega : (53 : Nat) ≠ 52), w_nk (by omega : (18 : Nat) ≠ 17), hr.kind j hj, hr.rate j hj, e1, iI_add, show (V.day : Int) + (n : Int) = ((V.day + n : Nat) : Int) by omega, g_188 (zz_wI M 52 17 _) L V hk (by rw [w_ne (by omega : (53 : Nat) ≠ 52)]; exact hr) h0 _ _ (V.day + n) (hk.kind j) (by omega) (by omega), b_213_3, h18, iI_add, g_160 _ L _ (by omega) (by omega) (by omega), b_213_4]
  rfl
theorem g_213 (V : Vw) (hk : Vk V) (hr : Rv V (M 53) 0) (i j n : Nat) (a b : Int) (hi : i < V.n) (hj : j < V.n) (hn3 : n ≤ 1000) (ha : 0 ≤ a ∧ a < 60) (hb : 0 ≤ b ∧ b < 60) (h17 : M 52 17 = iI a) (h18 : M 52 18 = iI b) {d N : Nat} {xs : Nat → Int32} {tb_ : List zz_B} {t_ : Nat} {ls_ : zz_L} {rest_ : List Value} (hd_ : 3 ≤ d) : (zz_o (zz_call_ d 213 [.ref 52, .int (iI i), .int (iI j), .int (iI n)] (zm N xs M L)) fun r => zz_X (zz_call_ d) tb_ t_ ls_ (r.1.toList ++ rest_) r.2) = zz_X (zz_call_ d) tb_ t_ ls_ rest_ (zm N xs (m2 M ((a + gn (V.kind i) (V.rate i) 1 (V.heatAt (V.day + n))) % 60) ((b + gn (V.kind j) (V.rate j) 1 (V.heatAt (V.day + n))) % 60)) L) := (s_213 M L V hk hr i j n a b hi hj hn3 ha hb h17 h18).gov hd_
theorem l_214 {d : Nat} (hd : 3 ≤ d) (N : Nat) (xs : Nat → Int32) (V : Vw) (hk : Vk V) (hr : Rv V (M 53) 0) (i j : Nat) (hi : i < V.n) (hj : j < V.n) : ∀ c k : Nat, k + c = 421 → zz_X (zz_call_ d) tb_214 2 [some (.ref 52), some (.int (iI i)), some (.int (iI j)), some (.int (iI k))] [] (zm N xs (m2 M (V.minAt i k) (V.minAt j k)) L) = some (some (.int (iI (if fx (V.mt i j) c k < 421 then (fx (V.mt i j) c k : Int) else -9))), zm N xs (m2 M (V.minAt i (fx (V.mt i j) c k)) (V.minAt j (fx (V.mt i j) c k))) L)
  | 0, k, hc => by
    rw [b_214_2, iI_lit, if_pos (by rw [t_lt, iI_to (by omega) (by omega), iI_to (by omega) (by omega)]; omega), b_214_6]
    unfold fx
    rw [if_neg (by omega)]
    rfl
  | c + 1, k, hc => by
    have hri : Rv V (m2 M (V.minAt i k) (V.minAt j k) 53) 0 := by rw [m2_53]; exact hr
    have ha := minAt_b V i k
    have hb := minAt_b V j k
    rw [b_214_2, iI_lit, if_neg (by rw [t_lt, iI_to (by omega) (by omega), iI_to (by omega) (by omega)]; omega), m2_17, m2_18, g_192 _ L V hk hri i j _ _ hi hj (by omega) (by omega) (by omega) (by omega) (by omega)]
    unfold fx
    by_cases q : V.mt i j k
    · rw [b2_t q, b_214_3, iI_lit 0, if_neg iI10, if_pos q, if_pos (by omega)]
    · rw [b2_f q, b_214_3, iI_lit 0, if_pos rfl, if_neg q, b_214_4, g_213 _ L V hk hri i j k _ _ hi hj (by omega) ha hb (m2_17 _ _ _) (m2_18 _ _ _) (by omega), b_214_5, m2_m2, ← minAt_s, ← minAt_s, iI_lit, iI_add]
      exact l_214 hd N xs V hk hr i j hi hj c (k + 1) (by omega)
theorem s_214 (V : Vw) (hk : Vk V) (hr : Rv V (M 53) 0) (i j : Nat) (h1 : i < V.n) (h2 : j < V.n) : zc 4 214 [.ref 52, .int (iI i), .int (iI j)] M L (some (.int (iI (if fx (V.mt i j) 421 0 < 421 then (fx (V.mt i j) 421 0 : Int) else -9)))) (m2 M (V.minAt i (fx (V.mt i j) 421 0)) (V.minAt j (fx (V.mt i j) 421 0))) L := by
  refine zc_of (n := 3) (ls := [some (.ref 52), some (.int (iI i)), some (.int (iI j)), none]) mk_214 rfl rfl rfl rfl (fun d hd N xs => ?_)
  have hl := l_214 M L hd N xs V hk hr i j h1 h2 421 0 (by omega)
  rw [minAt_0 hk, minAt_0 hk] at hl
  rw [b_214_0, g_212 M L V hk hr i j h1 h2 (by omega), b_214_1]
  exact hl
theorem g_214 (V : Vw) (hk : Vk V) (hr : Rv V (M 53) 0) (i j : Nat) (h1 : i < V.n) (h2 : j < V.n) {d N : Nat} {xs : Nat → Int32} {tb_ : List zz_B} {t_ : Nat} {ls_ : zz_L} {rest_ : List Value} (hd_ : 4 ≤ d) : (zz_o (zz_call_ d 214 [.ref 52, .int (iI i), .int (iI j)] (zm N xs M L)) fun r => zz_X (zz_call_ d) tb_ t_ ls_ (r.1.toList ++ rest_) r.2) = zz_X (zz_call_ d) tb_ t_ ls_ ((.int (iI (if fx (V.mt i j) 421 0 < 421 then (fx (V.mt i j) 421 0 : Int) else -9))) :: rest_) (zm N xs (m2 M (V.minAt i (fx (V.mt i j) 421 0)) (V.minAt j (fx (V.mt i j) 421 0))) L) := (s_214 M L V hk hr i j h1 h2).go hd_
theorem s_215B (V : Vw) (hk : Vk V) (hr : Rv V (M 53) 0) (z y : Int) (h1 : -2147483648 ≤ z) (h2 : z ≤ 2147483647) (h3 : -2147483648 ≤ y) (h4 : y ≤ 2147483647) (h : ¬ ((0 ≤ z ∧ z < V.n) ∧ (0 ≤ y ∧ y < V.n) ∧ z ≠ y)) : zc 5 215 [.ref 52, .int (iI z), .int (iI y)] M L (some (.int (iI (-1)))) M L := by
  refine zc_of (n := 4) (ls := [some (.ref 52), some (.int (iI z)), some (.int (iI y))]) mk_215 rfl rfl rfl rfl (fun d hd N xs => ?_)
  rw [b_215_0, g_211 M L V hk hr z y h1 h2 h3 h4 (by omega), b2_f h, b_215_1, iI_lit 0, if_pos rfl, b_215_3, b_215_4]
  rfl
theorem g_215B (V : Vw) (hk : Vk V) (hr : Rv V (M 53) 0) (z y : Int) (h1 : -2147483648 ≤ z) (h2 : z ≤ 2147483647) (h3 : -2147483648 ≤ y) (h4 : y ≤ 2147483647) (h : ¬ ((0 ≤ z ∧ z < V.n) ∧ (0 ≤ y ∧ y < V.n) ∧ z ≠ y)) {d N : Nat} {xs : Nat → Int32} {tb_ : List zz_B} {t_ : Nat} {ls_ : zz_L} {rest_ : List Value} (hd_ : 5 ≤ d) : (zz_o (zz_call_ d 215 [.ref 52, .int (iI z), .int (iI y)] (zm N xs M L)) fun r => zz_X (zz_call_ d) tb_ t_ ls_ (r.1.toList ++ rest_) r.2) = zz_X (zz_call_ d) tb_ t_ ls_ ((.int (iI (-1))) :: rest_) (zm N xs M L) := (s_215B M L V hk hr z y h1 h2 h3 h4 h).go hd_
theorem s_215O (V : Vw) (hk : Vk V) (hr : Rv V (M 53) 0) (i j : Nat) (h1 : i < V.n) (h2 : j < V.n) (h3 : i ≠ j) : zc 5 215 [.ref 52, .int (iI i), .int (iI j)] M L (some (.int (iI (if fx (V.mt i j) 421 0 < 421 then (fx (V.mt i j) 421 0 : Int) else -9)))) (m2 M (V.minAt i (fx (V.mt i j) 421 0)) (V.minAt j (fx (V.mt i j) 421 0))) L := by
  refine zc_of (n := 4) (ls := [some (.ref 52), some (.int (iI i)), some (.int (iI j))]) mk_215 rfl rfl rfl rfl (fun d hd N xs => ?_)
  have hn := hk.n
  rw [b_215_0, g_211 M L V hk hr i j (by omega) (by omega) (by omega) (by omega) (by omega), b2_t (by omega), b_215_1, iI_lit 0, if_neg iI10, g_214 M L V hk hr i j h1 h2 (by omega), b_215_2, b_215_4]
theorem g_215O (V : Vw) (hk : Vk V) (hr : Rv V (M 53) 0) (i j : Nat) (h1 : i < V.n) (h2 : j < V.n) (h3 : i ≠ j) {d N : Nat} {xs : Nat → Int32} {tb_ : List zz_B} {t_ : Nat} {ls_ : zz_L} {rest_ : List Value} (hd_ : 5 ≤ d) : (zz_o (zz_call_ d 215 [.ref 52, .int (iI i), .int (iI j)] (zm N xs M L)) fun r => zz_X (zz_call_ d) tb_ t_ ls_ (r.1.toList ++ rest_) r.2) = zz_X (zz_call_ d) tb_ t_ ls_ ((.int (iI (if fx (V.mt i j) 421 0 < 421 then (fx (V.mt i j) 421 0 : Int) else -9))) :: rest_) (zm N xs (m2 M (V.minAt i (fx (V.mt i j) 421 0)) (V.minAt j (fx (V.mt i j) 421 0))) L) := (s_215O M L V hk hr i j h1 h2 h3).go hd_
end ZR

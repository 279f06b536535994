/-! often, right; and the calls of part 53 answered alike. -/
theorem cZ_t {p : Nat → Prop} [DecidablePred p] {n : Nat} (h : p n) : cZ p (n + 1) = cZ p n + 1 := by
  show cZ p n + (if p n then 1 else 0) = _
  rw [if_pos h]
theorem cZ_f {p : Nat → Prop} [DecidablePred p] {n : Nat} (h : ¬ p n) : cZ p (n + 1) = cZ p n := by
  conv => lhs; unfold cZ
  rw [if_neg h]
  rfl
section ZR
variable (M : Nat → Nat → Int32) (L : Nat → Nat → Int64)
theorem s_117B (V : Vw) (hk : Vk V) (hv : Hv V M) (z y n : Int) (h1 : -2147483648 ≤ z) (h2 : z ≤ 2147483647) (h3 : -2147483648 ≤ y) (h4 : y ≤ 2147483647) (h5 : -2147483648 ≤ n) (h6 : n ≤ 2147483647) (h : ¬ (((0 ≤ z ∧ z < V.n) ∧ (0 ≤ y ∧ y < V.n) ∧ z ≠ y) ∧ 0 ≤ n ∧ n ≤ 420)) : zc 5 117 [.ref 0, .int (iI z), .int (iI y), .int (iI n)] M L (some (.int (iI (-1)))) M L := by
  refine zc_of (n := 4) (ls := [some (.ref 0), some (.int (iI z)), some (.int (iI y)), some (.int (iI n)), none, none, none]) mk_117 rfl rfl rfl rfl (fun d hd N xs => ?_)
  rw [b_117_0, g_32 M L V hk hv z y h1 h2 h3 h4 (by omega), b_117_1]
  by_cases q : ((0 ≤ z ∧ z < V.n) ∧ (0 ≤ y ∧ y < V.n) ∧ z ≠ y)
  · rw [b2_t q, iI_lit 0, if_neg iI10, g_149 M L n h5 h6 (by omega), b2_f (by omega), b_117_2, iI_lit 0, if_pos rfl, b_117_3]
    rfl
  · rw [b2_f q, iI_lit 0, if_pos rfl, b_117_3]
    rfl
theorem g_117B (V : Vw) (hk : Vk V) (hv : Hv V M) (z y n : Int) (h1 : -2147483648 ≤ z) (h2 : z ≤ 2147483647) (h3 : -2147483648 ≤ y) (h4 : y ≤ 2147483647) (h5 : -2147483648 ≤ n) (h6 : n ≤ 2147483647) (h : ¬ (((0 ≤ z ∧ z < V.n) ∧ (0 ≤ y ∧ y < V.n) ∧ z ≠ y) ∧ 0 ≤ n ∧ n ≤ 420)) {d N : Nat} {xs : Nat → Int32} {tb_ : List zz_B} {t_ : Nat} {ls_ : zz_L} {rest_ : List Value} (hd_ : 5 ≤ d) : (zz_o (zz_call_ d 117 [.ref 0, .int (iI z), .int (iI y), .int (iI n)] (zm N xs M L)) fun r => zz_X (zz_call_ d) tb_ t_ ls_ (r.1.toList ++ rest_) r.2) = zz_X (zz_call_ d) tb_ t_ ls_ ((.int (iI (-1))) :: rest_) (zm N xs M L) := (s_117B M L V hk hv z y n h1 h2 h3 h4 h5 h6 h).go hd_
theorem s_117O (V : Vw) (hk : Vk V) (hv : Hv V M) (i j n : Nat) (h1 : i < V.n) (h2 : j < V.n) (h3 : i ≠ j) (h4 : n ≤ 420) : zc 5 117 [.ref 0, .int (iI i), .int (iI j), .int (iI n)] M L (some (.int (iI (cZ (V.mt i j) (n + 1))))) M L := by
  refine zc_of (n := 4) (ls := [some (.ref 0), some (.int (iI i)), some (.int (iI j)), some (.int (iI n)), none, none, none]) mk_117 rfl rfl rfl rfl (fun d hd N xs => ?_)
  have hn := hk.n
  rw [b_117_0, g_32 M L V hk hv i j (by omega) (by omega) (by omega) (by omega) (by omega), b2_t (by omega), b_117_1, iI_lit 0, if_neg iI10, g_149 M L n (by omega) (by omega) (by omega), b2_t (by omega), b_117_2, iI_lit 0, if_neg iI10, b_117_4]
  have hl := upto (fun k : Nat => zz_X (zz_call_ d) tb_117 5 [some (.ref 0), some (.int (iI i)), some (.int (iI j)), some (.int (iI n)), some (.int (iI (V.warm k))), some (.int (iI (cZ (V.mt i j) k))), some (.int (iI k))] [] (zm N xs M L)) (n + 1) (fun k hkc => by
    show zz_X (zz_call_ d) tb_117 5 _ _ _ = zz_X (zz_call_ d) tb_117 5 _ _ _
    rw [b_117_5, if_neg (by rw [t_lt, iI_to (by omega) (by omega), iI_to (by omega) (by omega)]; omega), g_46V M L V hk hv i j k h1 h2 (by omega) (by omega)]
    by_cases q : V.mt i j k
    · rw [b2_t q, b_117_6, iI_lit 0, if_neg iI10, b_117_7, g_42 M L V hk hv k (by omega) (by omega), b_117_8, iI_add, iI_lit, iI_add, iI_add, cZ_t q]
      rfl
    · rw [b2_f q, b_117_6, iI_lit 0, if_pos rfl, b_117_7, g_42 M L V hk hv k (by omega) (by omega), b_117_8, iI_add, iI_lit, iI_add, cZ_f q]
      rfl)
  refine hl.trans ?_
  show zz_X (zz_call_ d) tb_117 5 _ _ _ = _
  rw [b_117_5, if_pos (by rw [t_lt, iI_to (by omega) (by omega), iI_to (by omega) (by omega)]; omega), b_117_9]
theorem g_117O (V : Vw) (hk : Vk V) (hv : Hv V M) (i j n : Nat) (h1 : i < V.n) (h2 : j < V.n) (h3 : i ≠ j) (h4 : n ≤ 420) {d N : Nat} {xs : Nat → Int32} {tb_ : List zz_B} {t_ : Nat} {ls_ : zz_L} {rest_ : List Value} (hd_ : 5 ≤ d) : (zz_o (zz_call_ d 117 [.ref 0, .int (iI i), .int (iI j), .int (iI n)] (zm N xs M L)) fun r => zz_X (zz_call_ d) tb_ t_ ls_ (r.1.toList ++ rest_) r.2) = zz_X (zz_call_ d) tb_ t_ ls_ ((.int (iI (cZ (V.mt i j) (n + 1)))) :: rest_) (zm N xs M L) := (s_117O M L V hk hv i j n h1 h2 h3 h4).go hd_
theorem s_218B (V : Vw) (hk : Vk V) (hr : Rv V (M 53) 0) (z y n : Int) (h1 : -2147483648 ≤ z) (h2 : z ≤ 2147483647) (h3 : -2147483648 ≤ y) (h4 : y ≤ 2147483647) (h5 : -2147483648 ≤ n) (h6 : n ≤ 2147483647) (h : ¬ (((0 ≤ z ∧ z < V.n) ∧ (0 ≤ y ∧ y < V.n) ∧ z ≠ y) ∧ 0 ≤ n ∧ n ≤ 420)) : zc 5 218 [.ref 52, .int (iI z), .int (iI y), .int (iI n)] M L (some (.int (iI (-1)))) M L := by
  refine zc_of (n := 4) (ls := [some (.ref 52), some (.int (iI z)), some (.int (iI y)), some (.int (iI n)), none, none]) mk_218 rfl rfl rfl rfl (fun d hd N xs => ?_)
  rw [b_218_0, g_211 M L V hk hr z y h1 h2 h3 h4 (by omega), b_218_1]
  by_cases q : ((0 ≤ z ∧ z < V.n) ∧ (0 ≤ y ∧ y < V.n) ∧ z ≠ y)
  · rw [b2_t q, iI_lit 0, if_neg iI10, g_209 M L n h5 h6 (by omega), b2_f (by omega), b_218_2, iI_lit 0, if_pos rfl, b_218_3]
    rfl
  · rw [b2_f q, iI_lit 0, if_pos rfl, b_218_3]
    rfl
theorem g_218B (V : Vw) (hk : Vk V) (hr : Rv V (M 53) 0) (z y n : Int) (h1 : -2147483648 ≤ z) (h2 : z ≤ 2147483647) (h3 : -2147483648 ≤ y) (h4 : y ≤ 2147483647) (h5 : -2147483648 ≤ n) (h6 : n ≤ 2147483647) (h : ¬ (((0 ≤ z ∧ z < V.n) ∧ (0 ≤ y ∧ y < V.n) ∧ z ≠ y) ∧ 0 ≤ n ∧ n ≤ 420)) {d N : Nat} {xs : Nat → Int32} {tb_ : List zz_B} {t_ : Nat} {ls_ : zz_L} {rest_ : List Value} (hd_ : 5 ≤ d) : (zz_o (zz_call_ d 218 [.ref 52, .int (iI z), .int (iI y), .int (iI n)] (zm N xs M L)) fun r => zz_X (zz_call_ d) tb_ t_ ls_ (r.1.toList ++ rest_) r.2) = zz_X (zz_call_ d) tb_ t_ ls_ ((.int (iI (-1))) :: rest_) (zm N xs M L) := (s_218B M L V hk hr z y n h1 h2 h3 h4 h5 h6 h).go hd_
theorem s_218O (V : Vw) (hk : Vk V) (hr : Rv V (M 53) 0) (i j n : Nat) (h1 : i < V.n) (h2 : j < V.n) (h3 : i ≠ j) (h4 : n ≤ 420) : zc 5 218 [.ref 52, .int (iI i), .int (iI j), .int (iI n)] M L (some (.int (iI (cZ (V.mt i j) (n + 1))))) (m2 M (V.minAt i (n + 1)) (V.minAt j (n + 1))) L := by
  refine zc_of (n := 4) (ls := [some (.ref 52), some (.int (iI i)), some (.int (iI j)), some (.int (iI n)), none, none]) mk_218 rfl rfl rfl rfl (fun d hd N xs => ?_)
  have hn := hk.n
  rw [b_218_0, g_211 M L V hk hr i j (by omega) (by omega) (by omega) (by omega) (by omega), b2_t (by omega), b_218_1, iI_lit 0, if_neg iI10, g_209 M L n (by omega) (by omega) (by omega), b2_t (by omega), b_218_2, iI_lit 0, if_neg iI10, b_218_4, g_212 M L V hk hr i j h1 h2 (by omega), b_218_5, ← minAt_0 hk i, ← minAt_0 hk j]
  have hl := upto (fun k : Nat => zz_X (zz_call_ d) tb_218 6 [some (.ref 52), some (.int (iI i)), some (.int (iI j)), some (.int (iI n)), some (.int (iI (cZ (V.mt i j) k))), some (.int (iI k))] [] (zm N xs (m2 M (V.minAt i k) (V.minAt j k)) L)) (n + 1) (fun k hkc => by
    show zz_X (zz_call_ d) tb_218 6 _ _ _ = zz_X (zz_call_ d) tb_218 6 _ _ _
    have hri : Rv V (m2 M (V.minAt i k) (V.minAt j k) 53) 0 := by rw [m2_53]; exact hr
    have ha := minAt_b V i k
    have hb := minAt_b V j k
    rw [b_218_6, if_neg (by rw [t_lt, iI_to (by omega) (by omega), iI_to (by omega) (by omega)]; omega), m2_17, m2_18, g_192 _ L V hk hri i j _ _ h1 h2 (by omega) (by omega) (by omega) (by omega) (by omega)]
    by_cases q : V.mt i j k
    · rw [b2_t q, b_218_7, iI_lit 0, if_neg iI10, b_218_9, g_213 _ L V hk hri i j k _ _ h1 h2 (by omega) ha hb (m2_17 _ _ _) (m2_18 _ _ _) (by omega), b_218_10, m2_m2, ← minAt_s, ← minAt_s, iI_lit, iI_add, iI_add, cZ_t q]
      rfl
    · rw [b2_f q, b_218_7, iI_lit 0, if_pos rfl, b_218_8, b_218_9, g_213 _ L V hk hri i j k _ _ h1 h2 (by omega) ha hb (m2_17 _ _ _) (m2_18 _ _ _) (by omega), b_218_10, m2_m2, ← minAt_s, ← minAt_s, iI_lit 0, iI_lit 1, iI_add, iI_add, cZ_f q, show ((cZ (V.mt i j) k : Nat) : Int) + 0 = (cZ (V.mt i j) k : Nat) by omega]
      rfl)
  refine hl.trans ?_
  show zz_X (zz_call_ d) tb_218 6 _ _ _ = _
  rw [b_218_6, if_pos (by rw [t_lt, iI_to (by omega) (by omega), iI_to (by omega) (by omega)]; omega), b_218_11]
theorem g_218O (V : Vw) (hk : Vk V) (hr : Rv V (M 53) 0) (i j n : Nat) (h1 : i < V.n) (h2 : j < V.n) (h3 : i ≠ j) (h4 : n ≤ 420) {d N : Nat} {xs : Nat → Int32} {tb_ : List zz_B} {t_ : Nat} {ls_ : zz_L} {rest_ : List Value} (hd_ : 5 ≤ d) : (zz_o (zz_call_ d 218 [.ref 52, .int (iI i), .int (iI j), .int (iI n)] (zm N xs M L)) fun r => zz_X (zz_call_ d) tb_ t_ ls_ (r.1.toList ++ rest_) r.2) = zz_X (zz_call_ d) tb_ t_ ls_ ((.int (iI (cZ (V.mt i j) (n + 1)))) :: rest_) (zm N xs (m2 M (V.minAt i (n + 1)) (V.minAt j (n + 1))) L) := (s_218O M L V hk hr i j n h1 h2 h3 h4).go hd_
theorem s_120B (V : Vw) (hk : Vk V) (hv : Hv V M) (z y n : Int) (h1 : -2147483648 ≤ z) (h2 : z ≤ 2147483647) (h3 : -2147483648 ≤ y) (h4 : y ≤ 2147483647) (h5 : -2147483648 ≤ n) (h6 : n ≤ 2147483647) (h : ¬ ((0 ≤ z ∧ z < V.n) ∧ (0 ≤ y ∧ y < 60) ∧ 0 ≤ n ∧ n ≤ 420)) : zc 5 120 [.ref 0, .int (iI z), .int (iI y), .int (iI n)] M L (some (.int (iI (-1)))) M L := by
  refine zc_of (n := 4) (ls := [some (.ref 0), some (.int (iI z)), some (.int (iI y)), some (.int (iI n)), none, none, none]) mk_120 rfl rfl rfl rfl (fun d hd N xs => ?_)
  rw [b_120_0, g_31 M L V hk hv z h1 h2 (by omega), b_120_1]
  by_cases q : 0 ≤ z ∧ z < V.n
  · rw [b2_t q, iI_lit 0, if_neg iI10, g_150 M L y h3 h4 (by omega), b_120_2]
    by_cases q2 : 0 ≤ y ∧ y < 60
    · rw [b2_t q2, iI_lit 0, if_neg iI10, g_149 M L n h5 h6 (by omega), b2_f (by omega), b_120_3, iI_lit 0, if_pos rfl, b_120_4]
      rfl
    · rw [b2_f q2, iI_lit 0, if_pos rfl, b_120_4]
      rfl
  · rw [b2_f q, iI_lit 0, if_pos rfl, b_120_4]
    rfl
theorem g_120B (V : Vw) (hk : Vk V) (hv : Hv V M) (z y n : Int) (h1 : -2147483648 ≤ z) (h2 : z ≤ 2147483647) (h3 : -2147483648 ≤ y) (h4 : y ≤ 2147483647) (h5 : -2147483648 ≤ n) (h6 : n ≤ 2147483647) (h : ¬ ((0 ≤ z ∧ z < V.n) ∧ (0 ≤ y ∧ y < 60) ∧ 0 ≤ n ∧ n ≤ 420)) {d N : Nat} {xs : Nat → Int32} {tb_ : List zz_B} {t_ : Nat} {ls_ : zz_L} {rest_ : List Value} (hd_ : 5 ≤ d) : (zz_o (zz_call_ d 120 [.ref 0, .int (iI z), .int (iI y), .int (iI n)] (zm N xs M L)) fun r => zz_X (zz_call_ d) tb_ t_ ls_ (r.1.toList ++ rest_) r.2) = zz_X (zz_call_ d) tb_ t_ ls_ ((.int (iI (-1))) :: rest_) (zm N xs M L) := (s_120B M L V hk hv z y n h1 h2 h3 h4 h5 h6 h).go hd_
theorem s_120O (V : Vw) (hk : Vk V) (hv : Hv V M) (i : Nat) (y : Int) (n : Nat) (h1 : i < V.n) (h2 : 0 ≤ y) (h3 : y < 60) (h4 : n ≤ 420) : zc 5 120 [.ref 0, .int (iI i), .int (iI y), .int (iI n)] M L (some (.int (iI (cZ (fun k => V.minAt i k = y) (n + 1))))) M L := by
  refine zc_of (n := 4) (ls := [some (.ref 0), some (.int (iI i)), some (.int (iI y)), some (.int (iI n)), none, none, none]) mk_120 rfl rfl rfl rfl (fun d hd N xs => ?_)
  have hn := hk.n
  rw [b_120_0, g_31 M L V hk hv i (by omega) (by omega) (by omega), b2_t (by omega), b_120_1, iI_lit 0, if_neg iI10, g_150 M L y (by omega) (by omega) (by omega), b2_t (by omega), b_120_2, iI_lit 0, if_neg iI10, g_149 M L n (by omega) (by omega) (by omega), b2_t (by omega), b_120_3, iI_lit 0, if_neg iI10, b_120_5]
  have hl := upto (fun k : Nat => zz_X (zz_call_ d) tb_120 6 [some (.ref 0), some (.int (iI i)), some (.int (iI y)), some (.int (iI n)), some (.int (iI (V.warm k))), some (.int (iI (cZ (fun k => V.minAt i k = y) k))), some (.int (iI k))] [] (zm N xs M L)) (n + 1) (fun k hkc => by
    show zz_X (zz_call_ d) tb_120 6 _ _ _ = zz_X (zz_call_ d) tb_120 6 _ _ _
    have ha := minAt_b V i k
    rw [b_120_6, if_neg (by rw [t_lt, iI_to (by omega) (by omega), iI_to (by omega) (by omega)]; omega), g_44V M L V hk hv i k h1 (by omega) (by omega), b_120_7]
    by_cases q : V.minAt i k = y
    · rw [if_pos (by rw [q]), b_120_8, g_42 M L V hk hv k (by omega) (by omega), b_120_9, iI_add, iI_lit, iI_add, iI_add, cZ_t (p := fun k => V.minAt i k = y) q]
      rfl
    · rw [if_neg (by rw [t_eq, iI_to (by omega) (by omega), iI_to (by omega) (by omega)]; omega), b_120_8, g_42 M L V hk hv k (by omega) (by omega), b_120_9, iI_add, iI_lit, iI_add, cZ_f (p := fun k => V.minAt i k = y) q]
      rfl)
  refine hl.trans ?_
  show zz_X (zz_call_ d) tb_120 6 _ _ _ = _
  rw [b_120_6, if_pos (by rw [t_lt, iI_to (by omega) (by omega), iI_to (by omega) (by omega)]; omega), b_120_10]
theorem g_120O (V : Vw) (hk : Vk V) (hv : Hv V M) (i : Nat) (y : Int) (n : Nat) (h1 : i < V.n) (h2 : 0 ≤ y) (h3 : y < 60) (h4 : n ≤ 420) {d N : Nat} {xs : Nat → Int32} {tb_ : List zz_B} {t_ : Nat} {ls_ : zz_L} {rest_ : List Value} (hd_ : 5 ≤ d) : (zz_o (zz_call_ d 120 [.ref 0, .int (iI i), .int (iI y), .int (iI n)] (zm N xs M L)) fun r => zz_X (zz_call_ d) tb_ t_ ls_ (r.1.toList ++ rest_) r.2) = zz_X (zz_call_ d) tb_ t_ ls_ ((.int (iI (cZ (fun k => V.minAt i k = y) (n + 1)))) :: rest_) (zm N xs M L) := (s_120O M L V hk hv i y n h1 h2 h3 h4).go hd_
theorem s_222B (V : Vw) (hk : Vk V) (hr : Rv V (M 53) 0) (z y n : Int) (h1 : -2147483648 ≤ z) (h2 : z ≤ 2147483647) (h3 : -2147483648 ≤ y) (h4 : y ≤ 2147483647) (h5 : -2147483648 ≤ n) (h6 : n ≤ 2147483647) (h : ¬ ((0 ≤ z ∧ z < V.n) ∧ (0 ≤ y ∧ y < 60) ∧ 0 ≤ n ∧ n ≤ 420)) : zc 5 222 [.ref 52, .int (iI z), .int (iI y), .int (iI n)] M L (some (.int (iI (-1)))) M L := by
  refine zc_of (n := 4) (ls := [some (.ref 52), some (.int (iI z)), some (.int (iI y)), some (.int (iI n)), none, none, none]) mk_222 rfl rfl rfl rfl (fun d hd N xs => ?_)
  rw [b_222_0, g_185 M L V hk hr z h1 h2 (by omega), b_222_1]
  by_cases q : 0 ≤ z ∧ z < V.n
  · rw [b2_t q, iI_lit 0, if_neg iI10, iI_long h3 h4, lI_lit, lI_lit, g_157 M L y 0 59 (by omega) (by omega) (by omega) (by omega) (by omega) (by omega) (by omega), b_222_2]
    by_cases q2 : 0 ≤ y ∧ y ≤ 59
    · rw [b2_t q2, iI_lit 0, if_neg iI10, g_209 M L n h5 h6 (by omega), b2_f (by omega), b_222_3, iI_lit 0, if_pos rfl, b_222_4]
      rfl
    · rw [b2_f q2, iI_lit 0, if_pos rfl, b_222_4]
      rfl
  · rw [b2_f q, iI_lit 0, if_pos rfl, b_222_4]
    rfl
theorem g_222B (V : Vw) (hk : Vk V) (hr : Rv V (M 53) 0) (z y n : Int) (h1 : -2147483648 ≤ z) (h2 : z ≤ 2147483647) (h3 : -2147483648 ≤ y) (h4 : y ≤ 2147483647) (h5 : -2147483648 ≤ n) (h6 : n ≤ 2147483647) (h : ¬ ((0 ≤ z ∧ z < V.n) ∧ (0 ≤ y ∧ y < 60) ∧ 0 ≤ n ∧ n ≤ 420)) {d N : Nat} {xs : Nat → Int32} {tb_ : List zz_B} {t_ : Nat} {ls_ : zz_L} {rest_ : List Value} (hd_ : 5 ≤ d) : (zz_o (zz_call_ d 222 [.ref 52, .int (iI z), .int (iI y), .int (iI n)] (zm N xs M L)) fun r => zz_X (zz_call_ d) tb_ t_ ls_ (r.1.toList ++ rest_) r.2) = zz_X (zz_call_ d) tb_ t_ ls_ ((.int (iI (-1))) :: rest_) (zm N xs M L) := (s_222B M L V hk hr z y n h1 h2 h3 h4 h5 h6 h).go hd_
theorem s_222O (V : Vw) (hk : Vk V) (hr : Rv V (M 53) 0) (i : Nat) (y : Int) (n : Nat) (h1 : i < V.n) (h2 : 0 ≤ y) (h3 : y < 60) (h4 : n ≤ 420) : zc 5 222 [.ref 52, .int (iI i), .int (iI y), .int (iI n)] M L (some (.int (iI (cZ (fun k => V.minAt i k = y) (n + 1))))) M L := by
  refine zc_of (n := 4) (ls := [some (.ref 52), some (.int (iI i)), some (.int (iI y)), some (.int (iI n)), none, none, none]) mk_222 rfl rfl rfl rfl (fun d hd N xs => ?_)
  have hn := hk.n
  have hday := hk.day
  have h0 := hk.hc0 (by omega)
  have e1 : M 53 1 = iI V.day := hr.day
  rw [b_222_0, g_185 M L V hk hr i (by omega) (by omega) (by omega), b2_t (by omega), b_222_1, iI_lit 0, if_neg iI10, iI_long (by omega) (by omega), lI_lit, lI_lit, g_157 M L y 0 59 (by omega) (by omega) (by omega) (by omega) (by omega) (by omega) (by omega), b2_t (by omega), b_222_2, iI_lit 0, if_neg iI10, g_209 M L n (by omega) (by omega) (by omega), b2_t (by omega), b_222_3, iI_lit 0, if_neg iI10, b_222_5]
  simp only [iI_lit, iI_add]
  rw [show (28 : Int) + (i : Int) = ((0 + (28 + i) : Nat) : Int) by omega, ix_nat (by omega) (by omega), o_some, hr.minute i h1, ← minAt_0 hk i]
  have hl := upto (fun k : Nat => zz_X (zz_call_ d) tb_222 6 [some (.ref 52), some (.int (iI i)), some (.int (iI y)), some (.int (iI n)), some (.int (iI (cZ (fun k => V.minAt i k = y) k))), some (.int (iI (V.minAt i k))), some (.int (iI k))] [] (zm N xs M L)) (n + 1) (fun k hkc => by
    show zz_X (zz_call_ d) tb_222 6 _ _ _ = zz_X (zz_call_ d) tb_222 6 _ _ _
    have ha := minAt_b V i k
    have hg := gn1_b hk i (V.day + k)
    have e8 : ∀ s1 s0 : Int, zz_X (zz_call_ d) tb_222 8 [some (.ref 52), some (.int (iI i)), some (.int (iI y)), some (.int (iI n)), some (.int (iI (cZ (fun k => V.minAt i k = y) k))), some (.int (iI (V.minAt i k))), some (.int (iI k))] [.int (iI s1), .int (iI s0)] (zm N xs M L) = zz_X (zz_call_ d) tb_222 6 [some (.ref 52), some (.int (iI i)), some (.int (iI y)), some (.int (iI n)), some (.int (iI (s0 + s1))), some (.int (iI (V.minAt i (k + 1)))), some (.int (iI ((k + 1 : Nat) : Int)))] [] (zm N xs M L) := by
      intro s1 s0
      rw [b_222_8]
      simp only [iI_lit, iI_add]
      rw [show (10 : Int) + (i : Int) = ((0 + (10 + i) : Nat) : Int) by omega, show (16 : Int) + (i : Int) = ((0 + (16 + i) : Nat) : Int) by omega, ix_nat (by omega) (by omega), o_some, ix_nat (by omega) (by omega), o_some, hr.kind i h1, hr.rate i h1, e1, iI_add, show (V.day : Int) + (k : Int) = ((V.day + k : Nat) : Int) by omega, g_188 M L V hk hr h0 _ _ (V.day + k) (hk.kind i) (by omega) (by omega), b_222_9, iI_add, g_160 M L _ (by omega) (by omega) (by omega), b_222_10, iI_lit, iI_add, ← minAt_s]
      rfl
    rw [b_222_6, if_neg (by rw [t_lt, iI_to (by omega) (by omega), iI_to (by omega) (by omega)]; omega)]
    by_cases q : V.minAt i k = y
    · rw [if_pos (by rw [q]), iI_lit, e8, cZ_t (p := fun k => V.minAt i k = y) q]
      rfl
    · rw [if_neg (by rw [t_eq, iI_to (by omega) (by omega), iI_to (by omega) (by omega)]; omega), b_222_7, iI_lit, e8, cZ_f (p := fun k => V.minAt i k = y) q, show ((cZ (fun k => V.minAt i k = y) k : Nat) : Int) + 0 = (cZ (fun k => V.minAt i k = y) k : Nat) by omega])
  refine hl.trans ?_
  show zz_X (zz_call_ d) tb_222 6 _ _ _ = _
  rw [b_222_6, if_pos (by rw [t_lt, iI_to (by omega) (by omega), iI_to (by omega) (by omega)]; omega), b_222_11]
theorem g_222O (V : Vw) (hk : Vk V) (hr : Rv V (M 53) 0) (i : Nat) (y : Int) (n : Nat) (h1 : i < V.n) (h2 : 0 ≤ y) (h3 : y < 60) (h4 : n ≤ 420) {d N : Nat} {xs : Nat → Int32} {tb_ : List zz_B} {t_ : Nat} {ls_ : zz_L} {rest_ : List Value} (hd_ : 5 ≤ d) : (zz_o (zz_call_ d 222 [.ref 52, .int (iI i), .int (iI y), .int (iI n)] (zm N xs M L)) fun r => zz_X (zz_call_ d) tb_ t_ ls_ (r.1.toList ++ rest_) r.2) = zz_X (zz_call_ d) tb_ t_ ls_ ((.int (iI (cZ (fun k => V.minAt i k = y) (n + 1)))) :: rest_) (zm N xs M L) := (s_222O M L V hk hr i y n h1 h2 h3 h4).go hd_
end ZR

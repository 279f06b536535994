/-! What the reference tells of its house. -/
theorem gn_add (k : Nat) (r a b u v : Int) : gn k r (a + b) (u + v) = gn k r a u + gn k r b v := by
  unfold gn
  split
  · rfl
  · rw [Int.add_mul, Int.mul_add]
    omega
theorem b2_zo (p : Prop) [Decidable p] : b2 p = (0 : Int32) ∨ b2 p = (1 : Int32) := by
  unfold b2
  split
  · exact Or.inr rfl
  · exact Or.inl rfl
section ZR
variable (M : Nat → Nat → Int32) (L : Nat → Nat → Int64)
theorem s_185 (V : Vw) (hk : Vk V) (hr : Rv V (M 53) 0) (z : Int) (h1 : -2147483648 ≤ z) (h2 : z ≤ 2147483647) : zc 2 185 [.ref 52, .int (iI z)] M L (some (.int (b2 (0 ≤ z ∧ z < V.n)))) M L := by
  refine zc_of (n := 1) (ls := [some (.ref 52), some (.int (iI z))]) mk_185 rfl rfl rfl rfl (fun d hd N xs => ?_)
  have hn := hk.n
  rw [b_185_0, hr.n, show (1 : Int32) = iI 1 from rfl, iI_sub, iI_long h1 h2, iI_long (by omega) (by omega), lI_lit, g_157 M L z 0 (V.n - 1) (by omega) (by omega) (by omega) (by omega) (by omega) (by omega) (by omega), b_185_1, b2_cg (q := 0 ≤ z ∧ z < V.n) (by omega), if_pos]
  exact b2_zo _
theorem g_185 (V : Vw) (hk : Vk V) (hr : Rv V (M 53) 0) (z : Int) (h1 : -2147483648 ≤ z) (h2 : z ≤ 2147483647) {d N : Nat} {xs : Nat → Int32} {tb_ : List zz_B} {t_ : Nat} {ls_ : zz_L} {rest_ : List Value} (hd_ : 2 ≤ d) : (zz_o (zz_call_ d 185 [.ref 52, .int (iI z)] (zm N xs M L)) fun r => zz_X (zz_call_ d) tb_ t_ ls_ (r.1.toList ++ rest_) r.2) = zz_X (zz_call_ d) tb_ t_ ls_ ((.int (b2 (0 ≤ z ∧ z < V.n))) :: rest_) (zm N xs M L) := (s_185 M L V hk hr z h1 h2).go hd_
theorem s_186 (k : Nat) (h : k < 6) : zc 1 186 [.int (iI k)] M L (some (.int (iI (span k)))) M L := by
  refine zc_of (n := 0) (ls := [some (.int (iI k))]) mk_186 rfl rfl rfl rfl (fun d hd N xs => ?_)
  have e : span k = if k = 1 then 2 else if k = 4 then 3 else 1 := rfl
  simp (disch := omega) only [b_186_0, b_186_1, b_186_2, b_186_3, iI_lit, iI_neg, iI_add, iI_sub, iI_mul, t_lt, t_le, t_eq, iI_to, b2_to, if_10, if_11, nor_em, Decidable.not_not, Int.reduceEq, Int.reduceLT, Int.reduceLE, Int.reduceAdd, Int.reduceSub, Int.reduceMul, Int.reduceNeg, reduceIte, or_true, true_or, or_false, false_or, o_some]
  rw [e]
  by_cases q : k = 1
  · rw [if_pos (by omega), if_pos q]; rfl
  · by_cases q2 : k = 4
    · rw [if_neg (by omega), if_pos (by omega), if_neg q, if_pos q2]; rfl
    · rw [if_neg (by omega), if_neg (by omega), if_neg q, if_neg q2]; rfl
theorem g_186 (k : Nat) (h : k < 6) {d N : Nat} {xs : Nat → Int32} {tb_ : List zz_B} {t_ : Nat} {ls_ : zz_L} {rest_ : List Value} (hd_ : 1 ≤ d) : (zz_o (zz_call_ d 186 [.int (iI k)] (zm N xs M L)) fun r => zz_X (zz_call_ d) tb_ t_ ls_ (r.1.toList ++ rest_) r.2) = zz_X (zz_call_ d) tb_ t_ ls_ ((.int (iI (span k))) :: rest_) (zm N xs M L) := (s_186 M L k h).go hd_
theorem s_187 (V : Vw) (hk : Vk V) (hr : Rv V (M 53) 0) (h0 : 0 < V.hc) (k : Nat) (h : k ≤ 2000000000) : zc 1 187 [.ref 52, .int (iI k)] M L (some (.int (iI (V.heatAt k)))) M L := by
  refine zc_of (n := 0) (ls := [some (.ref 52), some (.int (iI k))]) mk_187 rfl rfl rfl rfl (fun d hd N xs => ?_)
  have hc := hk.hc
  have h2 : M 53 2 = iI V.hc := hr.hc
  have hm : k % V.hc < V.hc := Nat.mod_lt _ h0
  have e := hr.heat _ hm
  unfold Vw.heatAt
  rw [if_neg (by omega), b_187_0, h2, iI_lit, iI_lit, if_neg (by rw [t_eq, iI_to (by omega) (by omega), iI_to (by omega) (by omega)]; omega), iI_rem (by omega) (by omega) (by omega) (by omega), show (k : Int).tmod V.hc = (k % V.hc : Nat) from rfl, iI_add, show (3 : Int) + ((k % V.hc : Nat) : Int) = ((0 + (3 + k % V.hc) : Nat) : Int) by omega, ix_nat (by omega) (by omega), o_some, e]
theorem g_187 (V : Vw) (hk : Vk V) (hr : Rv V (M 53) 0) (h0 : 0 < V.hc) (k : Nat) (h : k ≤ 2000000000) {d N : Nat} {xs : Nat → Int32} {tb_ : List zz_B} {t_ : Nat} {ls_ : zz_L} {rest_ : List Value} (hd_ : 1 ≤ d) : (zz_o (zz_call_ d 187 [.ref 52, .int (iI k)] (zm N xs M L)) fun r => zz_X (zz_call_ d) tb_ t_ ls_ (r.1.toList ++ rest_) r.2) = zz_X (zz_call_ d) tb_ t_ ls_ ((.int (iI (V.heatAt k))) :: rest_) (zm N xs M L) := (s_187 M L V hk hr h0 k h).go hd_
theorem s_188 (V : Vw) (hk : Vk V) (hr : Rv V (M 53) 0) (h0 : 0 < V.hc) (k : Nat) (r : Int) (n : Nat) (h : k < 6) (h3 : n ≤ 2000000000) : zc 2 188 [.ref 52, .int (iI k), .int (iI r), .int (iI n)] M L (some (.int (iI (gn k r 1 (V.heatAt n))))) M L := by
  refine zc_of (n := 1) (ls := [some (.ref 52), some (.int (iI k)), some (.int (iI r)), some (.int (iI n))]) mk_188 rfl rfl rfl rfl (fun d hd N xs => ?_)
  rw [b_188_0]
  rcases (by omega : k = 0 ∨ k = 1 ∨ k = 2 ∨ k = 3 ∨ k = 4 ∨ k = 5) with rfl | rfl | rfl | rfl | rfl | rfl
  · show zz_X (zz_call_ d) tb_188 6 _ _ _ = _
    rw [b_188_6]
    simp [gn, sgn]
  · show zz_X (zz_call_ d) tb_188 6 _ _ _ = _
    rw [b_188_6]
    simp [gn, sgn]
  · show zz_X (zz_call_ d) tb_188 1 _ _ _ = _
    rw [b_188_1, g_187 M L V hk hr h0 n h3 (by omega), b_188_2, iI_add]
    simp [gn, sgn]
  · show zz_X (zz_call_ d) tb_188 3 _ _ _ = _
    rw [b_188_3]
    simp [gn, iI_lit]
  · show zz_X (zz_call_ d) tb_188 6 _ _ _ = _
    rw [b_188_6]
    simp [gn, sgn]
  · show zz_X (zz_call_ d) tb_188 4 _ _ _ = _
    rw [b_188_4, g_187 M L V hk hr h0 n h3 (by omega), b_188_5, iI_sub]
    simp [gn, sgn, Int.sub_eq_add_neg]
theorem g_188 (V : Vw) (hk : Vk V) (hr : Rv V (M 53) 0) (h0 : 0 < V.hc) (k : Nat) (r : Int) (n : Nat) (h : k < 6) (h3 : n ≤ 2000000000) {d N : Nat} {xs : Nat → Int32} {tb_ : List zz_B} {t_ : Nat} {ls_ : zz_L} {rest_ : List Value} (hd_ : 2 ≤ d) : (zz_o (zz_call_ d 188 [.ref 52, .int (iI k), .int (iI r), .int (iI n)] (zm N xs M L)) fun r => zz_X (zz_call_ d) tb_ t_ ls_ (r.1.toList ++ rest_) r.2) = zz_X (zz_call_ d) tb_ t_ ls_ ((.int (iI (gn k r 1 (V.heatAt n)))) :: rest_) (zm N xs M L) := (s_188 M L V hk hr h0 k r n h h3).go hd_
theorem s_189 (V : Vw) (hk : Vk V) (hr : Rv V (M 53) 0) (h0 : 0 < V.hc) (k : Nat) (r : Int) (n : Nat) (h : k < 6) (h3 : n ≤ 1000) : zc 3 189 [.ref 52, .int (iI k), .int (iI r), .int (iI n)] M L (some (.int (iI (gn k r n (V.warm n))))) M L := by
  refine zc_of (n := 2) (ls := [some (.ref 52), some (.int (iI k)), some (.int (iI r)), some (.int (iI n)), none, none]) mk_189 rfl rfl rfl rfl (fun d hd N xs => ?_)
  have hday := hk.day
  have h2 : M 53 1 = iI V.day := hr.day
  rw [b_189_0, iI_lit]
  have hl := upto (fun m : Nat => zz_X (zz_call_ d) tb_189 1 [some (.ref 52), some (.int (iI k)), some (.int (iI r)), some (.int (iI n)), some (.int (iI (gn k r m (V.warm m)))), some (.int (iI m))] [] (zm N xs M L)) n (fun m hm => by
    show zz_X (zz_call_ d) tb_189 1 _ _ _ = zz_X (zz_call_ d) tb_189 1 _ _ _
    rw [b_189_1, if_neg (by rw [t_le, iI_to (by omega) (by omega), iI_to (by omega) (by omega)]; omega), h2, iI_add, show (V.day : Int) + (m : Int) = ((V.day + m : Nat) : Int) by omega, g_188 M L V hk hr h0 k r (V.day + m) h (by omega) (by omega), b_189_2, iI_add, ← gn_add, iI_lit, iI_add]
    rfl)
  have e0 : gn k r (0 : Nat) (V.warm 0) = 0 := gn_0 k r
  simp only [e0] at hl
  refine hl.trans ?_
  rw [b_189_1, if_pos (by rw [t_le]; omega), b_189_3]
theorem g_189 (V : Vw) (hk : Vk V) (hr : Rv V (M 53) 0) (h0 : 0 < V.hc) (k : Nat) (r : Int) (n : Nat) (h : k < 6) (h3 : n ≤ 1000) {d N : Nat} {xs : Nat → Int32} {tb_ : List zz_B} {t_ : Nat} {ls_ : zz_L} {rest_ : List Value} (hd_ : 3 ≤ d) : (zz_o (zz_call_ d 189 [.ref 52, .int (iI k), .int (iI r), .int (iI n)] (zm N xs M L)) fun r => zz_X (zz_call_ d) tb_ t_ ls_ (r.1.toList ++ rest_) r.2) = zz_X (zz_call_ d) tb_ t_ ls_ ((.int (iI (gn k r n (V.warm n)))) :: rest_) (zm N xs M L) := (s_189 M L V hk hr h0 k r n h h3).go hd_
theorem s_190 (V : Vw) (hk : Vk V) (hr : Rv V (M 53) 0) (i n : Nat) (hi : i < V.n) (h3 : n ≤ 1000) : zc 4 190 [.ref 52, .int (iI i), .int (iI n)] M L (some (.int (iI (V.minAt i n)))) M L := by
  refine zc_of (n := 3) (ls := [some (.ref 52), some (.int (iI i)), some (.int (iI n))]) mk_190 rfl rfl rfl rfl (fun d hd N xs => ?_)
  have hn := hk.n
  have h0 := hk.hc0 (by omega)
  have hm := hk.minute i
  have hw := warm_b hk n
  have hg := @gn_b (V.kind i) (V.rate i) n (V.warm n) (hk.rate i) (by omega) (by omega)
  rw [b_190_0]
  simp only [iI_lit, iI_add]
  rw [show (28 : Int) + (i : Int) = ((0 + (28 + i) : Nat) : Int) by omega, show (10 : Int) + (i : Int) = ((0 + (10 + i) : Nat) : Int) by omega, show (16 : Int) + (i : Int) = ((0 + (16 + i) : Nat) : Int) by omega, ix_nat (by omega) (by omega), o_some, ix_nat (by omega) (by omega), o_some, ix_nat (by omega) (by omega), o_some, hr.kind i hi, hr.rate i hi, hr.minute i hi, g_189 M L V hk hr h0 _ _ n (hk.kind i) h3 (by omega), b_190_1, iI_add, g_160 M L _ (by omega) (by omega) (by omega), b_190_2]
  rfl
theorem g_190 (V : Vw) (hk : Vk V) (hr : Rv V (M 53) 0) (i n : Nat) (hi : i < V.n) (h3 : n ≤ 1000) {d N : Nat} {xs : Nat → Int32} {tb_ : List zz_B} {t_ : Nat} {ls_ : zz_L} {rest_ : List Value} (hd_ : 4 ≤ d) : (zz_o (zz_call_ d 190 [.ref 52, .int (iI i), .int (iI n)] (zm N xs M L)) fun r => zz_X (zz_call_ d) tb_ t_ ls_ (r.1.toList ++ rest_) r.2) = zz_X (zz_call_ d) tb_ t_ ls_ ((.int (iI (V.minAt i n))) :: rest_) (zm N xs M L) := (s_190 M L V hk hr i n hi h3).go hd_
theorem s_191 (a b : Int) (s t : Nat) (h1 : -10000 ≤ a) (h2 : a ≤ 10000) (h3 : -10000 ≤ b) (h4 : b ≤ 10000) (hs : s ≤ 9) (ht : t ≤ 9) : zc 2 191 [.int (iI a), .int (iI s), .int (iI b), .int (iI t)] M L (some (.int (b2 (met a s b t)))) M L := by
  refine zc_of (n := 1) (ls := [some (.int (iI a)), some (.int (iI s)), some (.int (iI b)), some (.int (iI t)), none]) mk_191 rfl rfl rfl rfl (fun d hd N xs => ?_)
  rw [b_191_0, iI_sub, g_160 M L _ (by omega) (by omega) (by omega), b_191_1, iI_lit, iI_sub]
  simp (disch := omega) only [t_lt, t_le, iI_to]
  by_cases q : met a s b t
  · rw [b2_t q]
    by_cases q2 : (b - a) % 60 < s
    · rw [if_pos q2, b_191_2, b_191_4, if_pos (Or.inr rfl)]
      rfl
    · unfold met at q
      rw [if_neg q2, if_neg (by omega), b_191_2, b_191_4, if_pos (Or.inr rfl)]
      rfl
  · rw [b2_f q]
    unfold met at q
    rw [if_neg (by omega), if_pos (by omega), b_191_3, b_191_4, if_pos (Or.inl rfl)]
    rfl
theorem g_191 (a b : Int) (s t : Nat) (h1 : -10000 ≤ a) (h2 : a ≤ 10000) (h3 : -10000 ≤ b) (h4 : b ≤ 10000) (hs : s ≤ 9) (ht : t ≤ 9) {d N : Nat} {xs : Nat → Int32} {tb_ : List zz_B} {t_ : Nat} {ls_ : zz_L} {rest_ : List Value} (hd_ : 2 ≤ d) : (zz_o (zz_call_ d 191 [.int (iI a), .int (iI s), .int (iI b), .int (iI t)] (zm N xs M L)) fun r => zz_X (zz_call_ d) tb_ t_ ls_ (r.1.toList ++ rest_) r.2) = zz_X (zz_call_ d) tb_ t_ ls_ ((.int (b2 (met a s b t))) :: rest_) (zm N xs M L) := (s_191 M L a b s t h1 h2 h3 h4 hs ht).go hd_
theorem s_192 (V : Vw) (hk : Vk V) (hr : Rv V (M 53) 0) (i j : Nat) (a b : Int) (hi : i < V.n) (hj : j < V.n) (h1 : -10000 ≤ a) (h2 : a ≤ 10000) (h3 : -10000 ≤ b) (h4 : b ≤ 10000) : zc 3 192 [.ref 52, .int (iI i), .int (iI a), .int (iI j), .int (iI b)] M L (some (.int (b2 (met a (span (V.kind i)) b (span (V.kind j)))))) M L := by
  refine zc_of (n := 2) (ls := [some (.ref 52), some (.int (iI i)), some (.int (iI a)), some (.int (iI j)), some (.int (iI b))]) mk_192 rfl rfl rfl rfl (fun d hd N xs => ?_)
  have hn := hk.n
  have hs := span_b (V.kind i)
  have ht := span_b (V.kind j)
  rw [b_192_0]
  simp only [iI_lit, iI_add]
  rw [show (10 : Int) + (i : Int) = ((0 + (10 + i) : Nat) : Int) by omega, ix_nat (by omega) (by omega), o_some, hr.kind i hi, g_186 M L _ (hk.kind i) (by omega), b_192_1]
  simp only [iI_lit, iI_add]
  rw [show (10 : Int) + (j : Int) = ((0 + (10 + j) : Nat) : Int) by omega, ix_nat (by omega) (by omega), o_some, hr.kind j hj, g_186 M L _ (hk.kind j) (by omega), b_192_2, g_191 M L a b _ _ h1 h2 h3 h4 (by omega) (by omega) (by omega), b_192_3, if_pos (b2_zo _)]
theorem g_192 (V : Vw) (hk : Vk V) (hr : Rv V (M 53) 0) (i j : Nat) (a b : Int) (hi : i < V.n) (hj : j < V.n) (h1 : -10000 ≤ a) (h2 : a ≤ 10000) (h3 : -10000 ≤ b) (h4 : b ≤ 10000) {d N : Nat} {xs : Nat → Int32} {tb_ : List zz_B} {t_ : Nat} {ls_ : zz_L} {rest_ : List Value} (hd_ : 3 ≤ d) : (zz_o (zz_call_ d 192 [.ref 52, .int (iI i), .int (iI a), .int (iI j), .int (iI b)] (zm N xs M L)) fun r => zz_X (zz_call_ d) tb_ t_ ls_ (r.1.toList ++ rest_) r.2) = zz_X (zz_call_ d) tb_ t_ ls_ ((.int (b2 (met a (span (V.kind i)) b (span (V.kind j))))) :: rest_) (zm N xs M L) := (s_192 M L V hk hr i j a b hi hj h1 h2 h3 h4).go hd_
theorem s_209 (z : Int) (h1 : -2147483648 ≤ z) (h2 : z ≤ 2147483647) : zc 2 209 [.int (iI z)] M L (some (.int (b2 (0 ≤ z ∧ z ≤ 420)))) M L := by
  refine zc_of (n := 1) (ls := [some (.int (iI z))]) mk_209 rfl rfl rfl rfl (fun d hd N xs => ?_)
  rw [b_209_0, iI_long h1 h2, lI_lit, lI_lit, g_157 M L z 0 420 (by omega) (by omega) (by omega) (by omega) (by omega) (by omega) (by omega), b_209_1, if_pos (b2_zo _)]
theorem g_209 (z : Int) (h1 : -2147483648 ≤ z) (h2 : z ≤ 2147483647) {d N : Nat} {xs : Nat → Int32} {tb_ : List zz_B} {t_ : Nat} {ls_ : zz_L} {rest_ : List Value} (hd_ : 2 ≤ d) : (zz_o (zz_call_ d 209 [.int (iI z)] (zm N xs M L)) fun r => zz_X (zz_call_ d) tb_ t_ ls_ (r.1.toList ++ rest_) r.2) = zz_X (zz_call_ d) tb_ t_ ls_ ((.int (b2 (0 ≤ z ∧ z ≤ 420))) :: rest_) (zm N xs M L) := (s_209 M L z h1 h2).go hd_
theorem s_211 (V : Vw) (hk : Vk V) (hr : Rv V (M 53) 0) (z y : Int) (h1 : -2147483648 ≤ z) (h2 : z ≤ 2147483647) (h3 : -2147483648 ≤ y) (h4 : y ≤ 2147483647) : zc 3 211 [.ref 52, .int (iI z), .int (iI y)] M L (some (.int (b2 ((0 ≤ z ∧ z < V.n) ∧ (0 ≤ y ∧ y < V.n) ∧ z ≠ y)))) M L := by
  refine zc_of (n := 2) (ls := [some (.ref 52), some (.int (iI z)), some (.int (iI y))]) mk_211 rfl rfl rfl rfl (fun d hd N xs => ?_)
  have hn := hk.n
  simp (disch := first | omega | assumption) only [b_211_0, b_211_1, b_211_2, b_211_3, b_211_4, g_185 M L V hk hr, iI_lit, iI_neg, iI_add, iI_sub, iI_mul, t_lt, t_le, t_eq, iI_to, b2_to, if_10, if_11, nor_em, Decidable.not_not, Int.reduceEq, Int.reduceLT, Int.reduceLE, Int.reduceAdd, Int.reduceSub, Int.reduceMul, Int.reduceNeg, reduceIte, or_true, true_or, or_false, false_or, o_some]
  unfold b2
  repeat' split
  all_goals first | rfl | (exfalso; omega)
theorem g_211 (V : Vw) (hk : Vk V) (hr : Rv V (M 53) 0) (z y : Int) (h1 : -2147483648 ≤ z) (h2 : z ≤ 2147483647) (h3 : -2147483648 ≤ y) (h4 : y ≤ 2147483647) {d N : Nat} {xs : Nat → Int32} {tb_ : List zz_B} {t_ : Nat} {ls_ : zz_L} {rest_ : List Value} (hd_ : 3 ≤ d) : (zz_o (zz_call_ d 211 [.ref 52, .int (iI z), .int (iI y)] (zm N xs M L)) fun r => zz_X (zz_call_ d) tb_ t_ ls_ (r.1.toList ++ rest_) r.2) = zz_X (zz_call_ d) tb_ t_ ls_ ((.int (b2 ((0 ≤ z ∧ z < V.n) ∧ (0 ≤ y ∧ y < V.n) ∧ z ≠ y))) :: rest_) (zm N xs M L) := (s_211 M L V hk hr z y h1 h2 h3 h4).go hd_
theorem s_194 (V : Vw) (hk : Vk V) (hr : Rv V (M 53) 0) (i k : Nat) (hi : i < V.n) (h : k < 6) : zc 2 194 [.ref 52, .int (iI i), .int (iI k)] M L (some (.int (iI (V.part i k)))) M L := by
  refine zc_of (n := 1) (ls := [some (.ref 52), some (.int (iI i)), some (.int (iI k))]) mk_194 rfl rfl rfl rfl (fun d hd N xs => ?_)
  have hn := hk.n
  rw [b_194_0]
  rcases (by omega : k = 0 ∨ k = 1 ∨ k = 2 ∨ k = 3 ∨ k = 4 ∨ k = 5) with rfl | rfl | rfl | rfl | rfl | rfl
  · show zz_X (zz_call_ d) tb_194 1 _ _ _ = _
    rw [b_194_1, iI_lit, iI_add, show (10 : Int) + (i : Int) = ((0 + (10 + i) : Nat) : Int) by omega, ix_nat (by omega) (by omega), o_some, hr.kind i hi]
    rfl
  · show zz_X (zz_call_ d) tb_194 2 _ _ _ = _
    rw [b_194_2, iI_lit, iI_add, show (28 : Int) + (i : Int) = ((0 + (28 + i) : Nat) : Int) by omega, ix_nat (by omega) (by omega), o_some, hr.minute i hi]
    rfl
  · show zz_X (zz_call_ d) tb_194 3 _ _ _ = _
    rw [b_194_3, iI_lit, iI_add, show (16 : Int) + (i : Int) = ((0 + (16 + i) : Nat) : Int) by omega, ix_nat (by omega) (by omega), o_some, hr.rate i hi]
    rfl
  · show zz_X (zz_call_ d) tb_194 4 _ _ _ = _
    rw [b_194_4, iI_lit, iI_add, show (22 : Int) + (i : Int) = ((0 + (22 + i) : Nat) : Int) by omega, ix_nat (by omega) (by omega), o_some, hr.floor i hi]
    rfl
  · show zz_X (zz_call_ d) tb_194 5 _ _ _ = _
    rw [b_194_5, iI_lit, iI_add, show (10 : Int) + (i : Int) = ((0 + (10 + i) : Nat) : Int) by omega, ix_nat (by omega) (by omega), o_some, hr.kind i hi, g_186 M L _ (hk.kind i) (by omega), b_194_6]
    rfl
  · show zz_X (zz_call_ d) tb_194 7 _ _ _ = _
    rw [b_194_7, iI_lit, iI_add, show (34 : Int) + (i : Int) = ((0 + (34 + i) : Nat) : Int) by omega, ix_nat (by omega) (by omega), o_some, hr.tou i hi]
    rfl
theorem g_194 (V : Vw) (hk : Vk V) (hr : Rv V (M 53) 0) (i k : Nat) (hi : i < V.n) (h : k < 6) {d N : Nat} {xs : Nat → Int32} {tb_ : List zz_B} {t_ : Nat} {ls_ : zz_L} {rest_ : List Value} (hd_ : 2 ≤ d) : (zz_o (zz_call_ d 194 [.ref 52, .int (iI i), .int (iI k)] (zm N xs M L)) fun r => zz_X (zz_call_ d) tb_ t_ ls_ (r.1.toList ++ rest_) r.2) = zz_X (zz_call_ d) tb_ t_ ls_ ((.int (iI (V.part i k))) :: rest_) (zm N xs M L) := (s_194 M L V hk hr i k hi h).go hd_
theorem s_39 (V : Vw) (hk : Vk V) (hv : Hv V M) (i k : Nat) (hi : i < V.n) (h : k < 6) : zc 3 39 [.ref 23, .int (iI i), .int (iI k)] M L (some (.int (iI (V.part i k)))) M L := by
  refine zc_of (n := 2) (ls := [some (.ref 23), some (.int (iI i)), some (.int (iI k))]) mk_39 rfl rfl rfl rfl (fun d hd N xs => ?_)
  have hm := hk.minute i
  rw [b_39_0]
  rcases (by omega : k = 0 ∨ k = 1 ∨ k = 2 ∨ k = 3 ∨ k = 4 ∨ k = 5) with rfl | rfl | rfl | rfl | rfl | rfl
  · show zz_X (zz_call_ d) tb_39 1 _ _ _ = _
    rw [b_39_1, g_34 M L V hk hv i hi (by omega), b_39_2]
    rfl
  · show zz_X (zz_call_ d) tb_39 3 _ _ _ = _
    rw [b_39_3, iI_lit, g_44 M L V hk hv i 0 0 hi (by omega) (by omega) (by omega) (by omega) (by omega), b_39_4, gn_0, Int.add_zero, mod60 hm.1 hm.2]
    rfl
  · show zz_X (zz_call_ d) tb_39 5 _ _ _ = _
    rw [b_39_5, g_35 M L V hk hv i hi (by omega), b_39_6]
    rfl
  · show zz_X (zz_call_ d) tb_39 7 _ _ _ = _
    rw [b_39_7, g_36 M L V hk hv i hi (by omega), b_39_8]
    rfl
  · show zz_X (zz_call_ d) tb_39 9 _ _ _ = _
    rw [b_39_9, g_37 M L V hk hv i hi (by omega), b_39_10]
    rfl
  · show zz_X (zz_call_ d) tb_39 11 _ _ _ = _
    rw [b_39_11, g_38 M L V hk hv i hi (by omega), b_39_12, iI_lit]
    show _ = some (some (Value.int (iI (if V.tset.testBit i = true then 1 else 0))), _)
    by_cases q : V.tset.testBit i = true
    · rw [b2_t q, if_neg iI10, b_39_14, if_pos q]
      rfl
    · rw [b2_f q, if_pos rfl, b_39_13, b_39_14, if_neg q]
      rfl
theorem g_39 (V : Vw) (hk : Vk V) (hv : Hv V M) (i k : Nat) (hi : i < V.n) (h : k < 6) {d N : Nat} {xs : Nat → Int32} {tb_ : List zz_B} {t_ : Nat} {ls_ : zz_L} {rest_ : List Value} (hd_ : 3 ≤ d) : (zz_o (zz_call_ d 39 [.ref 23, .int (iI i), .int (iI k)] (zm N xs M L)) fun r => zz_X (zz_call_ d) tb_ t_ ls_ (r.1.toList ++ rest_) r.2) = zz_X (zz_call_ d) tb_ t_ ls_ ((.int (iI (V.part i k))) :: rest_) (zm N xs M L) := (s_39 M L V hk hv i k hi h).go hd_
end ZR

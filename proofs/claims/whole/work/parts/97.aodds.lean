/-! chances in lowest terms; mid. -/
theorem half {x y : Nat} (hy : 0 < y) (hr : 0 < x % y) : 2 * (y % (x % y)) < y := by
  have h1 := Nat.mod_lt x hy
  have h2 := Nat.mod_lt y hr
  have h3 := Nat.div_add_mod y (x % y)
  have h4 : 1 ≤ y / (x % y) := (Nat.le_div_iff_mul_le hr).2 (by omega)
  have h5 : x % y ≤ (x % y) * (y / (x % y)) := by
    have := Nat.mul_le_mul_left (x % y) h4
    omega
  omega
theorem lN_rem {x y : Nat} (hx : x < 2 ^ 62) (hy : y < 2 ^ 62) : lI x - lI x / lI y * lI y = lI (x % y : Nat) := by
  rw [lI_rem (by omega) (by omega) (by omega) (by omega)]
  rfl
theorem lz0 {y : Nat} (hy : y < 2 ^ 62) : (lg_cmp (lI y) 0 = 0) ↔ y = 0 := by
  rw [lI_0, lg_lI (by omega) (by omega) (by omega) (by omega)]
  by_cases q : y = 0
  · rw [q]; simp
  · rw [if_pos (by omega)]
    constructor
    · intro h; exact absurd h (by decide)
    · intro h; exact absurd h q
theorem lz1 {y : Nat} (hy : y < 2 ^ 62) : (lI y = 0) ↔ y = 0 := by
  rw [lI_0, lI_eq (by omega) (by omega) (by omega) (by omega)]
  omega
theorem gcd_s (x y : Nat) : Nat.gcd y (x % y) = Nat.gcd x y := by
  rw [Nat.gcd_comm x y, Nat.gcd_rec y x, Nat.gcd_comm]
theorem gcd_z (x : Nat) : Nat.gcd x 0 = x := Nat.gcd_zero_right x
section ZR
variable (M : Nat → Nat → Int32) (L : Nat → Nat → Int64)
theorem l_94 {d : Nat} (N : Nat) (xs : Nat → Int32) (u w : Int64) : ∀ (k x y s : Nat) (o : Option Value), y < 2 ^ k → k ≤ 44 → x < 2 ^ 62 → s + 2 * k ≤ 99 → ∃ s' o', zz_X (zz_call_ d) tb_94 1 [some (.ref 48), some (.long u), none, some (.long w), none, some (.long (lI x)), none, some (.long (lI y)), none, some (.int (iI s)), o, none] [] (zm N xs M L) = zz_X (zz_call_ d) tb_94 2 [some (.ref 48), some (.long u), none, some (.long w), none, some (.long (lI (Nat.gcd x y))), none, some (.long (lI ((0 : Nat) : Int))), none, some (.int s'), o', none] [] (zm N xs M L)
  | 0, x, y, s, o, hy, hk, hx, hs => by
    have hy0 : y = 0 := by rw [Nat.pow_zero] at hy; omega
    refine ⟨iI s, o, ?_⟩
    rw [hy0, b_94_1, if_neg (by rw [t_le, show (100 : Int32).toInt = 100 from rfl, iI_to (by omega) (by omega)]; omega), if_pos ((lz0 (by omega)).2 rfl), gcd_z]
  | k + 1, x, y, s, o, hy, hk, hx, hs => by
    have hp : (2 : Nat) ^ (k + 1) ≤ 2 ^ 44 := Nat.pow_le_pow_right (by omega) hk
    have hps : (2 : Nat) ^ (k + 1) = 2 ^ k * 2 := Nat.pow_succ 2 k
    by_cases q : y = 0
    · refine ⟨iI s, o, ?_⟩
      rw [q, b_94_1, if_neg (by rw [t_le, show (100 : Int32).toInt = 100 from rfl, iI_to (by omega) (by omega)]; omega), if_pos ((lz0 (by omega)).2 rfl), gcd_z]
    · have hr := Nat.mod_lt x (show 0 < y by omega)
      by_cases q2 : x % y = 0
      · refine ⟨iI ((s + 1 : Nat) : Int), some (.long (lI ((x % y : Nat) : Int))), ?_⟩
        rw [b_94_1, if_neg (by rw [t_le, show (100 : Int32).toInt = 100 from rfl, iI_to (by omega) (by omega)]; omega), if_neg (fun e => q ((lz0 (by omega)).1 e)), if_neg (fun e => q ((lz1 (by omega)).1 e)), lN_rem hx (by omega), b_94_1, show (1 : Int32) = iI 1 from rfl, iI_add, if_neg (by rw [t_le, show (100 : Int32).toInt = 100 from rfl, iI_to (by omega) (by omega)]; omega), if_pos ((lz0 (by omega)).2 q2), ← gcd_s x y, q2, gcd_z]
        rfl
      · have hh := half (show 0 < y by omega) (show 0 < x % y by omega)
        obtain ⟨s', o', ih⟩ := l_94 (d := d) N xs u w k (x % y) (y % (x % y)) (s + 2) (some (.long (lI ((y % (x % y) : Nat) : Int)))) (by omega) (by omega) (by omega) (by omega)
        rw [gcd_s y (x % y), gcd_s x y] at ih
        refine ⟨s', o', Eq.trans ?_ ih⟩
        rw [b_94_1, if_neg (by rw [t_le, show (100 : Int32).toInt = 100 from rfl, iI_to (by omega) (by omega)]; omega), if_neg (fun e => q ((lz0 (by omega)).1 e)), if_neg (fun e => q ((lz1 (by omega)).1 e)), lN_rem hx (by omega), b_94_1, show (1 : Int32) = iI 1 from rfl, iI_add, if_neg (by rw [t_le, show (100 : Int32).toInt = 100 from rfl, iI_to (by omega) (by omega)]; omega), if_neg (fun e => q2 ((lz0 (by omega)).1 e)), if_neg (fun e => q2 ((lz1 (by omega)).1 e)), lN_rem (by omega) (by omega), iI_add]
        rfl
theorem s_94 (x y : Nat) (hx : x < 2 ^ 62) (hy : y < 2 ^ 44) (hy0 : 0 < y) : zc 1 94 [.ref 48, .long (lI x), .long (lI y)] M L none M (zz_wL (zz_wL L 48 2 (lI (x / Nat.gcd x y : Nat))) 48 3 (lI (y / Nat.gcd x y : Nat))) := by
  refine zc_of (n := 0) (ls := [some (.ref 48), some (.long (lI x)), none, some (.long (lI y)), none, none, none, none, none, none, none, none]) mk_94 rfl rfl rfl rfl (fun d hd N xs => ?_)
  have hg := Nat.gcd_pos_of_pos_right x hy0
  have hgl := Nat.gcd_le_right x hy0
  obtain ⟨s', o', hl⟩ := l_94 M L (d := d) N xs (lI x) (lI y) 44 x y 0 none hy (by omega) hx (by omega)
  rw [b_94_0]
  refine Eq.trans hl ?_
  have e1 : ¬ lg_cmp (lI (Nat.gcd x y)) 0 ≤ 0 := by
    rw [lI_0, lg_lI (by omega) (by omega) (by omega) (by omega), if_pos (by omega)]
    decide
  rw [b_94_2, if_neg e1, if_neg (fun e => by have := (lz1 (by omega)).1 e; omega), if_neg (fun e => by have := (lz1 (by omega)).1 e; omega), lI_div (by omega) (by omega) (by omega) (by omega), lI_div (by omega) (by omega) (by omega) (by omega), b_94_3]
  rfl
theorem g_94 (x y : Nat) (hx : x < 2 ^ 62) (hy : y < 2 ^ 44) (hy0 : 0 < y) {d N : Nat} {xs : Nat → Int32} {tb_ : List zz_B} {t_ : Nat} {ls_ : zz_L} {rest_ : List Value} (hd_ : 1 ≤ d) : (zz_o (zz_call_ d 94 [.ref 48, .long (lI x), .long (lI y)] (zm N xs M L)) fun r => zz_X (zz_call_ d) tb_ t_ ls_ (r.1.toList ++ rest_) r.2) = zz_X (zz_call_ d) tb_ t_ ls_ rest_ (zm N xs M (zz_wL (zz_wL L 48 2 (lI (x / Nat.gcd x y : Nat))) 48 3 (lI (y / Nat.gcd x y : Nat)))) := (s_94 M L x y hx hy hy0).gov hd_
theorem l_245 {d : Nat} (N : Nat) (xs : Nat → Int32) (u w : Int64) : ∀ (k x y : Nat) (o : Option Value), y < 2 ^ k → k ≤ 44 → x < 2 ^ 62 → ∃ o', zz_X (zz_call_ d) tb_245 1 [some (.ref 52), some (.long u), none, some (.long w), none, some (.long (lI x)), none, some (.long (lI y)), none, o, none] [] (zm N xs M L) = zz_X (zz_call_ d) tb_245 2 [some (.ref 52), some (.long u), none, some (.long w), none, some (.long (lI (Nat.gcd x y))), none, some (.long (lI ((0 : Nat) : Int))), none, o', none] [] (zm N xs M L)
  | 0, x, y, o, hy, hk, hx => by
    have hy0 : y = 0 := by rw [Nat.pow_zero] at hy; omega
    refine ⟨o, ?_⟩
    rw [hy0, b_245_1, if_pos ((lz0 (by omega)).2 rfl), gcd_z]
  | k + 1, x, y, o, hy, hk, hx => by
    have hp : (2 : Nat) ^ (k + 1) ≤ 2 ^ 44 := Nat.pow_le_pow_right (by omega) hk
    have hps : (2 : Nat) ^ (k + 1) = 2 ^ k * 2 := Nat.pow_succ 2 k
    by_cases q : y = 0
    · refine ⟨o, ?_⟩
      rw [q, b_245_1, if_pos ((lz0 (by omega)).2 rfl), gcd_z]
    · have hr := Nat.mod_lt x (show 0 < y by omega)
      by_cases q2 : x % y = 0
      · refine ⟨some (.long (lI ((x % y : Nat) : Int))), ?_⟩
        rw [b_245_1, if_neg (fun e => q ((lz0 (by omega)).1 e)), if_neg (fun e => q ((lz1 (by omega)).1 e)), lN_rem hx (by omega), b_245_1, if_pos ((lz0 (by omega)).2 q2), ← gcd_s x y, q2, gcd_z]
      · have hh := half (show 0 < y by omega) (show 0 < x % y by omega)
        obtain ⟨o', ih⟩ := l_245 (d := d) N xs u w k (x % y) (y % (x % y)) (some (.long (lI ((y % (x % y) : Nat) : Int)))) (by omega) (by omega) (by omega)
        rw [gcd_s y (x % y), gcd_s x y] at ih
        refine ⟨o', Eq.trans ?_ ih⟩
        rw [b_245_1, if_neg (fun e => q ((lz0 (by omega)).1 e)), if_neg (fun e => q ((lz1 (by omega)).1 e)), lN_rem hx (by omega), b_245_1, if_neg (fun e => q2 ((lz0 (by omega)).1 e)), if_neg (fun e => q2 ((lz1 (by omega)).1 e)), lN_rem (by omega) (by omega)]
theorem s_245 (x y : Nat) (hx : x < 2 ^ 62) (hy : y < 2 ^ 44) (hy0 : 0 < y) : zc 1 245 [.ref 52, .long (lI x), .long (lI y)] M L (some (.int (iI 1))) M (zz_wL (zz_wL L 52 11 (lI (x / Nat.gcd x y : Nat))) 52 12 (lI (y / Nat.gcd x y : Nat))) := by
  refine zc_of (n := 0) (ls := [some (.ref 52), some (.long (lI x)), none, some (.long (lI y)), none, none, none, none, none, none, none]) mk_245 rfl rfl rfl rfl (fun d hd N xs => ?_)
  have hg := Nat.gcd_pos_of_pos_right x hy0
  have hgl := Nat.gcd_le_right x hy0
  obtain ⟨o', hl⟩ := l_245 M L (d := d) N xs (lI x) (lI y) 44 x y none hy (by omega) hx
  rw [b_245_0]
  refine Eq.trans hl ?_
  rw [b_245_2, if_neg (fun e => by have := (lz1 (by omega)).1 e; omega), if_neg (fun e => by have := (lz1 (by omega)).1 e; omega), lI_div (by omega) (by omega) (by omega) (by omega), lI_div (by omega) (by omega) (by omega) (by omega)]
  rfl
theorem g_245 (x y : Nat) (hx : x < 2 ^ 62) (hy : y < 2 ^ 44) (hy0 : 0 < y) {d N : Nat} {xs : Nat → Int32} {tb_ : List zz_B} {t_ : Nat} {ls_ : zz_L} {rest_ : List Value} (hd_ : 1 ≤ d) : (zz_o (zz_call_ d 245 [.ref 52, .long (lI x), .long (lI y)] (zm N xs M L)) fun r => zz_X (zz_call_ d) tb_ t_ ls_ (r.1.toList ++ rest_) r.2) = zz_X (zz_call_ d) tb_ t_ ls_ ((.int (iI 1)) :: rest_) (zm N xs M (zz_wL (zz_wL L 52 11 (lI (x / Nat.gcd x y : Nat))) 52 12 (lI (y / Nat.gcd x y : Nat)))) := (s_245 M L x y hx hy hy0).go hd_
theorem s_132B (V : Vw) (hk : Vk V) (hv : Hv V M) (z y w : Int) (h1 : -2147483648 ≤ z) (h2 : z ≤ 2147483647) (h3 : -2147483648 ≤ y) (h4 : y ≤ 2147483647) (h5 : -2147483648 ≤ w) (h6 : w ≤ 2147483647) (h : ¬ ((0 ≤ z ∧ z < V.n) ∧ (0 ≤ y ∧ y ≤ 60) ∧ 0 ≤ w ∧ w ≤ 12)) : zc 6 132 [.ref 0, .int (iI z), .int (iI y), .int (iI w)] M L (some (.int (iI (-1)))) M L := by
  refine zc_of (n := 5) (ls := [some (.ref 0), some (.int (iI z)), some (.int (iI y)), some (.int (iI w))]) mk_132 rfl rfl rfl rfl (fun d hd N xs => ?_)
  simp (disch := first | omega | assumption) only [b_132_0, b_132_1, b_132_2, b_132_3, g_31 M L V hk hv, g_151, iI_lit, iI_neg, iI_add, iI_sub, iI_mul, t_lt, t_le, t_eq, iI_to, b2_to, if_10, if_11, nor_em, Decidable.not_not, Int.reduceEq, Int.reduceLT, Int.reduceLE, Int.reduceAdd, Int.reduceSub, Int.reduceMul, Int.reduceNeg, reduceIte, or_true, true_or, or_false, false_or, o_some]
  repeat' split
  all_goals first | rfl | (exfalso; omega)
theorem g_132B (V : Vw) (hk : Vk V) (hv : Hv V M) (z y w : Int) (h1 : -2147483648 ≤ z) (h2 : z ≤ 2147483647) (h3 : -2147483648 ≤ y) (h4 : y ≤ 2147483647) (h5 : -2147483648 ≤ w) (h6 : w ≤ 2147483647) (h : ¬ ((0 ≤ z ∧ z < V.n) ∧ (0 ≤ y ∧ y ≤ 60) ∧ 0 ≤ w ∧ w ≤ 12)) {d N : Nat} {xs : Nat → Int32} {tb_ : List zz_B} {t_ : Nat} {ls_ : zz_L} {rest_ : List Value} (hd_ : 6 ≤ d) : (zz_o (zz_call_ d 132 [.ref 0, .int (iI z), .int (iI y), .int (iI w)] (zm N xs M L)) fun r => zz_X (zz_call_ d) tb_ t_ ls_ (r.1.toList ++ rest_) r.2) = zz_X (zz_call_ d) tb_ t_ ls_ ((.int (iI (-1))) :: rest_) (zm N xs M L) := (s_132B M L V hk hv z y w h1 h2 h3 h4 h5 h6 h).go hd_
theorem s_132O (V : Vw) (hk : Vk V) (hv : Hv V M) (i n p : Nat) (hi : i < V.n) (hn : n ≤ 60) (hp : p ≤ 12) : zc 6 132 [.ref 0, .int (iI i), .int (iI n), .int (iI p)] M L (some (.int (iI 1))) M (zz_wL (zz_wL L 48 2 (lI ((if V.kind i = 3 then 0 else n * p) / Nat.gcd (if V.kind i = 3 then 0 else n * p) 12 : Nat))) 48 3 (lI (12 / Nat.gcd (if V.kind i = 3 then 0 else n * p) 12 : Nat))) := by
  refine zc_of (n := 5) (ls := [some (.ref 0), some (.int (iI i)), some (.int (iI n)), some (.int (iI p))]) mk_132 rfl rfl rfl rfl (fun d hd N xs => ?_)
  have hn6 := hk.n
  have hki := hk.kind i
  have hb : n * p ≤ 60 * 12 := Nat.mul_le_mul hn hp
  have l7 : ∀ x : Nat, x < 1000 → (if V.kind i = 3 then 0 else n * p) = x → zz_X (zz_call_ d) tb_132 7 [some (.ref 0), some (.int (iI i)), some (.int (iI n)), some (.int (iI p))] [.long (lI x), .ref 48] (zm N xs M L) = some (some (.int (iI 1)), zm N xs M (zz_wL (zz_wL L 48 2 (lI ((if V.kind i = 3 then 0 else n * p) / Nat.gcd (if V.kind i = 3 then 0 else n * p) 12 : Nat))) 48 3 (lI (12 / Nat.gcd (if V.kind i = 3 then 0 else n * p) 12 : Nat)))) := by
    intro x hx e
    rw [b_132_7, e, show (12 : Int64) = lI ((12 : Nat) : Int) from rfl, g_94 M L x 12 (by omega) (by omega) (by omega) (by omega), b_132_8]
    rfl
  rw [b_132_0, g_31 M L V hk hv i (by omega) (by omega) (by omega), b2_t (by omega), b_132_1, if_neg (show ¬ iI 1 = (0 : Int32) from iI10), if_neg (by rw [t_lt, show (0 : Int32).toInt = 0 from rfl, iI_to (by omega) (by omega)]; omega), if_neg (by rw [t_lt, show (60 : Int32).toInt = 60 from rfl, iI_to (by omega) (by omega)]; omega), g_151 M L p (by omega) (by omega) (by omega), b2_t (by omega), b_132_2, if_neg (show ¬ iI 1 = (0 : Int32) from iI10), b_132_4, g_34 M L V hk hv i hi (by omega), b_132_5]
  by_cases q : V.kind i = 3
  · rw [if_pos (by rw [q]; rfl)]
    exact l7 0 (by omega) (if_pos q)
  · rw [if_neg (by rw [t_eq, show (3 : Int32).toInt = 3 from rfl, iI_to (by omega) (by omega)]; omega), b_132_6, iI_long (by omega) (by omega), iI_long (by omega) (by omega), lI_mul, show (n : Int) * (p : Int) = ((n * p : Nat) : Int) from rfl]
    exact l7 (n * p) (by omega) (if_neg q)
theorem g_132O (V : Vw) (hk : Vk V) (hv : Hv V M) (i n p : Nat) (hi : i < V.n) (hn : n ≤ 60) (hp : p ≤ 12) {d N : Nat} {xs : Nat → Int32} {tb_ : List zz_B} {t_ : Nat} {ls_ : zz_L} {rest_ : List Value} (hd_ : 6 ≤ d) : (zz_o (zz_call_ d 132 [.ref 0, .int (iI i), .int (iI n), .int (iI p)] (zm N xs M L)) fun r => zz_X (zz_call_ d) tb_ t_ ls_ (r.1.toList ++ rest_) r.2) = zz_X (zz_call_ d) tb_ t_ ls_ ((.int (iI 1)) :: rest_) (zm N xs M (zz_wL (zz_wL L 48 2 (lI ((if V.kind i = 3 then 0 else n * p) / Nat.gcd (if V.kind i = 3 then 0 else n * p) 12 : Nat))) 48 3 (lI (12 / Nat.gcd (if V.kind i = 3 then 0 else n * p) 12 : Nat)))) := (s_132O M L V hk hv i n p hi hn hp).go hd_
theorem s_248B (V : Vw) (hk : Vk V) (hr : Rv V (M 53) 0) (z y w : Int) (h1 : -2147483648 ≤ z) (h2 : z ≤ 2147483647) (h3 : -2147483648 ≤ y) (h4 : y ≤ 2147483647) (h5 : -2147483648 ≤ w) (h6 : w ≤ 2147483647) (h : ¬ ((0 ≤ z ∧ z < V.n) ∧ (0 ≤ y ∧ y ≤ 60) ∧ 0 ≤ w ∧ w ≤ 12)) : zc 6 248 [.ref 52, .int (iI z), .int (iI y), .int (iI w)] M L (some (.int (iI (-1)))) M L := by
  refine zc_of (n := 5) (ls := [some (.ref 52), some (.int (iI z)), some (.int (iI y)), some (.int (iI w))]) mk_248 rfl rfl rfl rfl (fun d hd N xs => ?_)
  rw [b_248_0, g_185 M L V hk hr z h1 h2 (by omega), b_248_1]
  by_cases q : 0 ≤ z ∧ z < V.n
  · rw [b2_t q, if_neg (show ¬ iI 1 = (0 : Int32) from iI10), iI_long h3 h4, lI_lit, lI_lit, g_157 M L y 0 60 (by omega) (by omega) (by omega) (by omega) (by omega) (by omega) (by omega), b_248_2]
    by_cases q2 : 0 ≤ y ∧ y ≤ 60
    · rw [b2_t q2, if_neg (show ¬ iI 1 = (0 : Int32) from iI10), iI_long h5 h6, lI_lit, lI_lit, g_157 M L w 0 12 (by omega) (by omega) (by omega) (by omega) (by omega) (by omega) (by omega), b2_f (by omega), b_248_3, if_pos (show iI 0 = (0 : Int32) from rfl), b_248_4]
      rfl
    · rw [b2_f q2, if_pos (show iI 0 = (0 : Int32) from rfl), b_248_4]
      rfl
  · rw [b2_f q, if_pos (show iI 0 = (0 : Int32) from rfl), b_248_4]
    rfl
theorem g_248B (V : Vw) (hk : Vk V) (hr : Rv V (M 53) 0) (z y w : Int) (h1 : -2147483648 ≤ z) (h2 : z ≤ 2147483647) (h3 : -2147483648 ≤ y) (h4 : y ≤ 2147483647) (h5 : -2147483648 ≤ w) (h6 : w ≤ 2147483647) (h : ¬ ((0 ≤ z ∧ z < V.n) ∧ (0 ≤ y ∧ y ≤ 60) ∧ 0 ≤ w ∧ w ≤ 12)) {d N : Nat} {xs : Nat → Int32} {tb_ : List zz_B} {t_ : Nat} {ls_ : zz_L} {rest_ : List Value} (hd_ : 6 ≤ d) : (zz_o (zz_call_ d 248 [.ref 52, .int (iI z), .int (iI y), .int (iI w)] (zm N xs M L)) fun r => zz_X (zz_call_ d) tb_ t_ ls_ (r.1.toList ++ rest_) r.2) = zz_X (zz_call_ d) tb_ t_ ls_ ((.int (iI (-1))) :: rest_) (zm N xs M L) := (s_248B M L V hk hr z y w h1 h2 h3 h4 h5 h6 h).go hd_
theorem s_248O (V : Vw) (hk : Vk V) (hr : Rv V (M 53) 0) (i n p : Nat) (hi : i < V.n) (hn : n ≤ 60) (hp : p ≤ 12) : zc 6 248 [.ref 52, .int (iI i), .int (iI n), .int (iI p)] M L (some (.int (iI 1))) M (zz_wL (zz_wL L 52 11 (lI ((if V.kind i = 3 then 0 else n * p) / Nat.gcd (if V.kind i = 3 then 0 else n * p) 12 : Nat))) 52 12 (lI (12 / Nat.gcd (if V.kind i = 3 then 0 else n * p) 12 : Nat))) := by
  refine zc_of (n := 5) (ls := [some (.ref 52), some (.int (iI i)), some (.int (iI n)), some (.int (iI p))]) mk_248 rfl rfl rfl rfl (fun d hd N xs => ?_)
  have hn6 := hk.n
  have hki := hk.kind i
  have hb : n * p ≤ 60 * 12 := Nat.mul_le_mul hn hp
  have ek : M 53 (10 + i) = iI (V.kind i) := by have := hr.kind i hi; rwa [Nat.zero_add] at this
  have l7 : ∀ x : Nat, x < 1000 → (if V.kind i = 3 then 0 else n * p) = x → zz_X (zz_call_ d) tb_248 7 [some (.ref 52), some (.int (iI i)), some (.int (iI n)), some (.int (iI p))] [.long (lI x), .ref 52] (zm N xs M L) = some (some (.int (iI 1)), zm N xs M (zz_wL (zz_wL L 52 11 (lI ((if V.kind i = 3 then 0 else n * p) / Nat.gcd (if V.kind i = 3 then 0 else n * p) 12 : Nat))) 52 12 (lI (12 / Nat.gcd (if V.kind i = 3 then 0 else n * p) 12 : Nat)))) := by
    intro x hx e
    rw [b_248_7, e, show (12 : Int64) = lI ((12 : Nat) : Int) from rfl, g_245 M L x 12 (by omega) (by omega) (by omega) (by omega), b_248_8]
  rw [b_248_0, g_185 M L V hk hr i (by omega) (by omega) (by omega), b2_t (by omega), b_248_1, if_neg (show ¬ iI 1 = (0 : Int32) from iI10), iI_long (by omega) (by omega), lI_lit, lI_lit, g_157 M L n 0 60 (by omega) (by omega) (by omega) (by omega) (by omega) (by omega) (by omega), b2_t (by omega), b_248_2, if_neg (show ¬ iI 1 = (0 : Int32) from iI10), iI_long (by omega) (by omega), lI_lit, lI_lit, g_157 M L p 0 12 (by omega) (by omega) (by omega) (by omega) (by omega) (by omega) (by omega), b2_t (by omega), b_248_3, if_neg (show ¬ iI 1 = (0 : Int32) from iI10), b_248_5, show (10 : Int32) = iI 10 from rfl, iI_add, show (10 : Int) + (i : Int) = ((10 + i : Nat) : Int) by omega, ix_nat (by omega) (by omega), o_some, ek]
  by_cases q : V.kind i = 3
  · rw [if_pos (by rw [q]; rfl)]
    exact l7 0 (by omega) (if_pos q)
  · rw [if_neg (by rw [t_eq, show (3 : Int32).toInt = 3 from rfl, iI_to (by omega) (by omega)]; omega), b_248_6, iI_long (by omega) (by omega), iI_long (by omega) (by omega), lI_mul, show (n : Int) * (p : Int) = ((n * p : Nat) : Int) from rfl]
    exact l7 (n * p) (by omega) (if_neg q)
theorem g_248O (V : Vw) (hk : Vk V) (hr : Rv V (M 53) 0) (i n p : Nat) (hi : i < V.n) (hn : n ≤ 60) (hp : p ≤ 12) {d N : Nat} {xs : Nat → Int32} {tb_ : List zz_B} {t_ : Nat} {ls_ : zz_L} {rest_ : List Value} (hd_ : 6 ≤ d) : (zz_o (zz_call_ d 248 [.ref 52, .int (iI i), .int (iI n), .int (iI p)] (zm N xs M L)) fun r => zz_X (zz_call_ d) tb_ t_ ls_ (r.1.toList ++ rest_) r.2) = zz_X (zz_call_ d) tb_ t_ ls_ ((.int (iI 1)) :: rest_) (zm N xs M (zz_wL (zz_wL L 52 11 (lI ((if V.kind i = 3 then 0 else n * p) / Nat.gcd (if V.kind i = 3 then 0 else n * p) 12 : Nat))) 52 12 (lI (12 / Nat.gcd (if V.kind i = 3 then 0 else n * p) 12 : Nat)))) := (s_248O M L V hk hr i n p hi hn hp).go hd_
end ZR
theorem CH.two {L : Nat → Nat → Int64} (a b : Int64) : CH (zz_wL (zz_wL (zz_wL (zz_wL L 48 2 a) 48 3 b) 52 11 a) 52 12 b) := ⟨rfl, rfl⟩
theorem o_mid {M : Nat → Nat → Int32} {L : Nat → Nat → Int64} (a b c : Int32) (hI : Inv M L) : Ok 132 248 [.int a, .int b, .int c] M L := by
  obtain ⟨z, h1, h2, rfl⟩ := iI_of a
  obtain ⟨y, h3, h4, rfl⟩ := iI_of b
  obtain ⟨w, h5, h6, rfl⟩ := iI_of c
  obtain ⟨V, hk, hv, hr⟩ := hI.view
  by_cases q : (0 ≤ z ∧ z < V.n) ∧ (0 ≤ y ∧ y ≤ 60) ∧ 0 ≤ w ∧ w ≤ 12
  · obtain ⟨i, rfl⟩ : ∃ x : Nat, z = x := ⟨z.toNat, by omega⟩
    obtain ⟨n, rfl⟩ : ∃ x : Nat, y = x := ⟨y.toNat, by omega⟩
    obtain ⟨p, rfl⟩ : ∃ x : Nat, w = x := ⟨w.toNat, by omega⟩
    exact ⟨_, M, _, M, _, (s_132O M L V hk hv i n p (by omega) (by omega) (by omega)).mono (by omega), (s_248O M _ V hk hr i n p (by omega) (by omega) (by omega)).mono (by omega), hI.1, hI.2.1, hI.2.2.1, hI.2.2.2.1, hI.2.2.2.2.1, CH.two _ _⟩
  · exact Ok.same hI (s_132B M L V hk hv z y w h1 h2 h3 h4 h5 h6 q) (s_248B M L V hk hr z y w h1 h2 h3 h4 h5 h6 q) (by omega) (by omega)

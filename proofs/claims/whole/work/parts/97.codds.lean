/-! odds, the calls. -/
theorem SL_sL {L : Nat → Nat → Int64} {c : Nat} {f : Nat → Int64} {n : Nat} {x y : Nat} (h : x ≠ c) : sL L c f n x y = L x y := by rw [sL_ne h]
section ZR
variable (M : Nat → Nat → Int32) (L : Nat → Nat → Int64)
abbrev upC (V : Vw) (i j n p : Nat) : Nat := tot (Po V i j n) (wy (if V.kind i = 3 then 0 else p) n) (wy (if V.kind j = 3 then 0 else p) n) 7 7
theorem s_92 (V : Vw) (hk : Vk V) (hv : Hv V M) (i j n p : Nat) (hi : i < V.n) (hj : j < V.n) (hn : n ≤ 6) (hp : p ≤ 12) (hu : upC V i j n p < 2 ^ 62) : zc 4 92 [.ref 48, .ref 23, .int (iI i), .int (iI j), .int (iI n), .int (iI p)] M L none M (zz_wL (zz_wL (sL (sL L 49 (fun a => lI (wy (if V.kind i = 3 then 0 else p) n a)) 7) 50 (fun a => lI (wy (if V.kind j = 3 then 0 else p) n a)) 7) 48 2 (lI (upC V i j n p / Nat.gcd (upC V i j n p) (144 ^ n) : Nat))) 48 3 (lI (144 ^ n / Nat.gcd (upC V i j n p) (144 ^ n) : Nat))) := by
  refine zc_of (n := 3) (ls := [some (.ref 48), some (.ref 23), some (.int (iI i)), some (.int (iI j)), some (.int (iI n)), some (.int (iI p)), none, none, none, none, none, none, none, none, none, none]) mk_92 rfl rfl rfl rfl (fun d hd N xs => ?_)
  have hn6 := hk.n
  have hki := hk.kind i
  have hkj := hk.kind j
  have l3 : ∀ x : Nat, x ≤ 12 → (if V.kind i = 3 then 0 else p) = x → zz_X (zz_call_ d) tb_92 3 [some (.ref 48), some (.ref 23), some (.int (iI i)), some (.int (iI j)), some (.int (iI n)), some (.int (iI p)), none, none, none, none, none, none, none, none, none, none] [.int (iI x), .ref 49] (zm N xs M L) = zz_X (zz_call_ d) tb_92 4 [some (.ref 48), some (.ref 23), some (.int (iI i)), some (.int (iI j)), some (.int (iI n)), some (.int (iI p)), none, none, none, none, none, none, none, none, none, none] [] (zm N xs M (sL L 49 (fun a => lI (wy (if V.kind i = 3 then 0 else p) n a)) 7)) := by
    intro x hx e
    rw [b_92_3, g_93a M L x n hx hn (by omega), e]
  have l7 : ∀ x : Nat, x ≤ 12 → (if V.kind j = 3 then 0 else p) = x → zz_X (zz_call_ d) tb_92 7 [some (.ref 48), some (.ref 23), some (.int (iI i)), some (.int (iI j)), some (.int (iI n)), some (.int (iI p)), none, none, none, none, none, none, none, none, none, none] [.int (iI x), .ref 50] (zm N xs M (sL L 49 (fun a => lI (wy (if V.kind i = 3 then 0 else p) n a)) 7)) = zz_X (zz_call_ d) tb_92 8 [some (.ref 48), some (.ref 23), some (.int (iI i)), some (.int (iI j)), some (.int (iI n)), some (.int (iI p)), none, none, none, none, none, none, none, none, none, none] [] (zm N xs M (sL (sL L 49 (fun a => lI (wy (if V.kind i = 3 then 0 else p) n a)) 7) 50 (fun a => lI (wy (if V.kind j = 3 then 0 else p) n a)) 7)) := by
    intro x hx e
    rw [b_92_7, g_93b M _ x n hx hn (by omega), e]
  have s1 : zz_X (zz_call_ d) tb_92 0 [some (.ref 48), some (.ref 23), some (.int (iI i)), some (.int (iI j)), some (.int (iI n)), some (.int (iI p)), none, none, none, none, none, none, none, none, none, none] [] (zm N xs M L) = zz_X (zz_call_ d) tb_92 4 [some (.ref 48), some (.ref 23), some (.int (iI i)), some (.int (iI j)), some (.int (iI n)), some (.int (iI p)), none, none, none, none, none, none, none, none, none, none] [] (zm N xs M (sL L 49 (fun a => lI (wy (if V.kind i = 3 then 0 else p) n a)) 7)) := by
    rw [b_92_0, g_34 M L V hk hv i hi (by omega), b_92_1]
    by_cases q : V.kind i = 3
    · rw [if_pos (show iI ((V.kind i : Nat) : Int) = (3 : Int32) by rw [q]; rfl)]
      exact l3 0 (by omega) (if_pos q)
    · rw [if_neg (show ¬ iI ((V.kind i : Nat) : Int) = (3 : Int32) by rw [t_eq, show (3 : Int32).toInt = 3 from rfl, iI_to (by omega) (by omega)]; omega), b_92_2]
      exact l3 p hp (if_neg q)
  have s2 : zz_X (zz_call_ d) tb_92 4 [some (.ref 48), some (.ref 23), some (.int (iI i)), some (.int (iI j)), some (.int (iI n)), some (.int (iI p)), none, none, none, none, none, none, none, none, none, none] [] (zm N xs M (sL L 49 (fun a => lI (wy (if V.kind i = 3 then 0 else p) n a)) 7)) = zz_X (zz_call_ d) tb_92 8 [some (.ref 48), some (.ref 23), some (.int (iI i)), some (.int (iI j)), some (.int (iI n)), some (.int (iI p)), none, none, none, none, none, none, none, none, none, none] [] (zm N xs M (sL (sL L 49 (fun a => lI (wy (if V.kind i = 3 then 0 else p) n a)) 7) 50 (fun a => lI (wy (if V.kind j = 3 then 0 else p) n a)) 7)) := by
    rw [b_92_4, g_34 M _ V hk hv j hj (by omega), b_92_5]
    by_cases q : V.kind j = 3
    · rw [if_pos (show iI ((V.kind j : Nat) : Int) = (3 : Int32) by rw [q]; rfl)]
      exact l7 0 (by omega) (if_pos q)
    · rw [if_neg (show ¬ iI ((V.kind j : Nat) : Int) = (3 : Int32) by rw [t_eq, show (3 : Int32).toInt = 3 from rfl, iI_to (by omega) (by omega)]; omega), b_92_6]
      exact l7 p hp (if_neg q)
  rw [s1, s2]
  clear s1 s2 l3 l7
  have eu : upC V i j n p = tot (Po V i j n) (wy (if V.kind i = 3 then 0 else p) n) (wy (if V.kind j = 3 then 0 else p) n) 7 7 := rfl
  generalize wy (if V.kind i = 3 then 0 else p) n = U at *
  generalize wy (if V.kind j = 3 then 0 else p) n = W at *
  generalize hL2 : sL (sL L 49 (fun a => lI (U a)) 7) 50 (fun a => lI (W a)) 7 = L2 at *
  have h49 : ∀ a, a < 7 → L2 49 a = lI (U a) := fun a ha => by rw [← hL2, sL_ne (by omega), sL_in ha]
  have h50 : ∀ a, a < 7 → L2 50 a = lI (W a) := fun a ha => by rw [← hL2, sL_in ha]
  have bl1 : bt V n i < 2 ^ 60 := tn_lt _ _
  have bl2 : bt V n j < 2 ^ 60 := tn_lt _ _
  rw [b_92_8, g_43 M L2 V hk hv n (by omega) (by omega), b_92_9, g_45V M L2 V hk hv i n hi (by omega) (by omega), b_92_10, g_45V M L2 V hk hv j n hj (by omega) (by omega), b_92_11]
  have hl : ∀ (c a : Nat) (o : Option Value), a + c = 7 → zz_X (zz_call_ d) tb_92 12 [some (.ref 48), some (.ref 23), some (.int (iI i)), some (.int (iI j)), some (.int (iI n)), some (.int (iI p)), some (.int (iI (V.warm n))), some (.long (lI (bt V n i))), none, some (.long (lI (bt V n j))), none, some (.long (lI (tot (Po V i j n) U W a 7))), none, some (.int (iI a)), o, none] [] (zm N xs M L2) = zz_X (zz_call_ d) tb_92 18 [some (.ref 48), some (.ref 23), some (.int (iI i)), some (.int (iI j)), some (.int (iI n)), some (.int (iI p)), some (.int (iI (V.warm n))), some (.long (lI (bt V n i))), none, some (.long (lI (bt V n j))), none, some (.long (lI (tot (Po V i j n) U W 7 7))), none, some (.int (iI ((7 : Nat) : Int))), (if a = 7 then o else some (.int (iI ((7 : Nat) : Int)))), none] [] (zm N xs M L2) := by
    intro c
    induction c with
    | zero =>
      intro a o hc
      rw [b_92_12, if_pos (by rw [t_lt, show (6 : Int32).toInt = 6 from rfl, iI_to (by omega) (by omega)]; omega), if_pos (by omega), show a = 7 by omega]
    | succ c ih =>
      intro a o hc
      rw [b_92_12, if_neg (by rw [t_lt, show (6 : Int32).toInt = 6 from rfl, iI_to (by omega) (by omega)]; omega), if_neg (by omega)]
      have hin := upto (fun b : Nat => zz_X (zz_call_ d) tb_92 13 [some (.ref 48), some (.ref 23), some (.int (iI i)), some (.int (iI j)), some (.int (iI n)), some (.int (iI p)), some (.int (iI (V.warm n))), some (.long (lI (bt V n i))), none, some (.long (lI (bt V n j))), none, some (.long (lI ((tot (Po V i j n) U W a 7 + sN (cel (Po V i j n) U W a) b : Nat) : Int))), none, some (.int (iI a)), some (.int (iI b)), none] [] (zm N xs M L2)) 7 (fun b hb => by
        show zz_X (zz_call_ d) tb_92 13 _ _ _ = zz_X (zz_call_ d) tb_92 13 _ _ _
        have hz := lgz (a := tn (bt V n i) a) (b := tn (bt V n j) b) (tn_lt _ _) (tn_lt _ _)
        have hP := Po_b (V := V) (i := i) (j := j) (n := n) (a := a) (b := b) (by omega) (by omega)
        have ec : cel (Po V i j n) U W a b = if Po V i j n a b then U a * W b else 0 := rfl
        have es : sN (cel (Po V i j n) U W a) (b + 1) = sN (cel (Po V i j n) U W a) b + cel (Po V i j n) U W a b := rfl
        rw [b_92_13, if_neg (by rw [t_lt, show (6 : Int32).toInt = 6 from rfl, iI_to (by omega) (by omega)]; omega), g_155 M L2 _ a bl1 (by omega) (by omega), b_92_14, g_155 M L2 _ b bl2 (by omega) (by omega), b_92_15]
        by_cases q : Po V i j n a b
        · rw [if_neg (fun e => hz.1 e (hP.2 q)), ix_nat (by omega) (by omega), o_some, ix_nat (by omega) (by omega), o_some, h49 a (by omega), h50 b hb, lI_mul, lI_add, b_92_16, es, ec, if_pos q, show (1 : Int32) = iI 1 from rfl, iI_add, ← Nat.add_assoc, Int.natCast_add (tot (Po V i j n) U W a 7 + sN (cel (Po V i j n) U W a) b), Int.natCast_mul]
          rfl
        · rw [if_pos (hz.2 (fun e => q (hP.1 e))), b_92_16, es, ec, if_neg q, Nat.add_zero, show (1 : Int32) = iI 1 from rfl, iI_add]
          rfl)
      refine Eq.trans hin ?_
      show zz_X (zz_call_ d) tb_92 13 _ _ _ = _
      have iha := ih (a + 1) (some (.int (iI ((7 : Nat) : Int)))) (by omega)
      rw [b_92_13, if_pos (by rw [t_lt, show (6 : Int32).toInt = 6 from rfl, iI_to (by omega) (by omega)]; omega), b_92_17, show (1 : Int32) = iI 1 from rfl, iI_add]
      refine Eq.trans iha ?_
      by_cases e : a + 1 = 7
      · rw [if_pos e]
      · rw [if_neg e]
  refine Eq.trans (hl 7 0 none (by omega)) ?_
  rw [b_92_18]
  have hd2 := upto (fun k : Nat => zz_X (zz_call_ d) tb_92 19 [some (.ref 48), some (.ref 23), some (.int (iI i)), some (.int (iI j)), some (.int (iI n)), some (.int (iI p)), some (.int (iI (V.warm n))), some (.long (lI (bt V n i))), none, some (.long (lI (bt V n j))), none, some (.long (lI (tot (Po V i j n) U W 7 7))), none, some (.long (lI ((144 ^ k : Nat) : Int))), none, some (.int (iI k))] [] (zm N xs M L2)) n (fun k hkn => by
    show zz_X (zz_call_ d) tb_92 19 _ _ _ = zz_X (zz_call_ d) tb_92 19 _ _ _
    rw [b_92_19, if_neg (by rw [t_le, iI_to (by omega) (by omega), iI_to (by omega) (by omega)]; omega), show (144 : Int64) = lI 144 from rfl, lI_mul, show (1 : Int32) = iI 1 from rfl, iI_add, show ((144 ^ k : Nat) : Int) * 144 = ((144 ^ (k + 1) : Nat) : Int) by rw [Nat.pow_succ]; omega]
    rfl)
  refine Eq.trans hd2 ?_
  show zz_X (zz_call_ d) tb_92 19 _ _ _ = _
  have h144 : (144 : Nat) ^ n ≤ 144 ^ 6 := Nat.pow_le_pow_right (by omega) hn
  have h0 : 0 < (144 : Nat) ^ n := Nat.pow_pos (by omega)
  rw [b_92_19, if_pos (by rw [t_le]; omega), b_92_20, ← eu, g_94 M L2 (upC V i j n p) (144 ^ n) hu (by omega) h0 (by omega), b_92_21]
theorem g_92 (V : Vw) (hk : Vk V) (hv : Hv V M) (i j n p : Nat) (hi : i < V.n) (hj : j < V.n) (hn : n ≤ 6) (hp : p ≤ 12) (hu : upC V i j n p < 2 ^ 62) {d N : Nat} {xs : Nat → Int32} {tb_ : List zz_B} {t_ : Nat} {ls_ : zz_L} {rest_ : List Value} (hd_ : 4 ≤ d) : (zz_o (zz_call_ d 92 [.ref 48, .ref 23, .int (iI i), .int (iI j), .int (iI n), .int (iI p)] (zm N xs M L)) fun r => zz_X (zz_call_ d) tb_ t_ ls_ (r.1.toList ++ rest_) r.2) = zz_X (zz_call_ d) tb_ t_ ls_ rest_ (zm N xs M (zz_wL (zz_wL (sL (sL L 49 (fun a => lI (wy (if V.kind i = 3 then 0 else p) n a)) 7) 50 (fun a => lI (wy (if V.kind j = 3 then 0 else p) n a)) 7) 48 2 (lI (upC V i j n p / Nat.gcd (upC V i j n p) (144 ^ n) : Nat))) 48 3 (lI (144 ^ n / Nat.gcd (upC V i j n p) (144 ^ n) : Nat)))) := (s_92 M L V hk hv i j n p hi hj hn hp hu).gov hd_
theorem s_131B (V : Vw) (hk : Vk V) (hv : Hv V M) (z y w u : Int) (h1 : -2147483648 ≤ z) (h2 : z ≤ 2147483647) (h3 : -2147483648 ≤ y) (h4 : y ≤ 2147483647) (h5 : -2147483648 ≤ w) (h6 : w ≤ 2147483647) (h7 : -2147483648 ≤ u) (h8 : u ≤ 2147483647) (h : ¬ (((0 ≤ z ∧ z < V.n) ∧ (0 ≤ y ∧ y < V.n) ∧ z ≠ y) ∧ (0 ≤ w ∧ w ≤ 6) ∧ 0 ≤ u ∧ u ≤ 12)) : zc 6 131 [.ref 0, .int (iI z), .int (iI y), .int (iI w), .int (iI u)] M L (some (.int (iI (-1)))) M L := by
  refine zc_of (n := 5) (ls := [some (.ref 0), some (.int (iI z)), some (.int (iI y)), some (.int (iI w)), some (.int (iI u))]) mk_131 rfl rfl rfl rfl (fun d hd N xs => ?_)
  rw [b_131_0, g_32 M L V hk hv z y h1 h2 h3 h4 (by omega), b_131_1]
  by_cases q : (0 ≤ z ∧ z < V.n) ∧ (0 ≤ y ∧ y < V.n) ∧ z ≠ y
  · rw [b2_t q, if_neg (show ¬ iI 1 = (0 : Int32) from iI10)]
    by_cases q2 : w < 0
    · rw [if_pos (by rw [t_lt, show (0 : Int32).toInt = 0 from rfl, iI_to (by omega) (by omega)]; omega), b_131_3]
      rfl
    · rw [if_neg (by rw [t_lt, show (0 : Int32).toInt = 0 from rfl, iI_to (by omega) (by omega)]; omega)]
      by_cases q3 : 6 < w
      · rw [if_pos (by rw [t_lt, show (6 : Int32).toInt = 6 from rfl, iI_to (by omega) (by omega)]; omega), b_131_3]
        rfl
      · rw [if_neg (by rw [t_lt, show (6 : Int32).toInt = 6 from rfl, iI_to (by omega) (by omega)]; omega), g_151 M L u h7 h8 (by omega), b2_f (by omega), b_131_2, if_pos (show iI 0 = (0 : Int32) from rfl), b_131_3]
        rfl
  · rw [b2_f q, if_pos (show iI 0 = (0 : Int32) from rfl), b_131_3]
    rfl
theorem g_131B (V : Vw) (hk : Vk V) (hv : Hv V M) (z y w u : Int) (h1 : -2147483648 ≤ z) (h2 : z ≤ 2147483647) (h3 : -2147483648 ≤ y) (h4 : y ≤ 2147483647) (h5 : -2147483648 ≤ w) (h6 : w ≤ 2147483647) (h7 : -2147483648 ≤ u) (h8 : u ≤ 2147483647) (h : ¬ (((0 ≤ z ∧ z < V.n) ∧ (0 ≤ y ∧ y < V.n) ∧ z ≠ y) ∧ (0 ≤ w ∧ w ≤ 6) ∧ 0 ≤ u ∧ u ≤ 12)) {d N : Nat} {xs : Nat → Int32} {tb_ : List zz_B} {t_ : Nat} {ls_ : zz_L} {rest_ : List Value} (hd_ : 6 ≤ d) : (zz_o (zz_call_ d 131 [.ref 0, .int (iI z), .int (iI y), .int (iI w), .int (iI u)] (zm N xs M L)) fun r => zz_X (zz_call_ d) tb_ t_ ls_ (r.1.toList ++ rest_) r.2) = zz_X (zz_call_ d) tb_ t_ ls_ ((.int (iI (-1))) :: rest_) (zm N xs M L) := (s_131B M L V hk hv z y w u h1 h2 h3 h4 h5 h6 h7 h8 h).go hd_
theorem s_131O (V : Vw) (hk : Vk V) (hv : Hv V M) (i j n p : Nat) (hi : i < V.n) (hj : j < V.n) (hij : i ≠ j) (hn : n ≤ 6) (hp : p ≤ 12) (hu : upC V i j n p < 2 ^ 62) : zc 6 131 [.ref 0, .int (iI i), .int (iI j), .int (iI n), .int (iI p)] M L (some (.int (iI 1))) M (zz_wL (zz_wL (sL (sL L 49 (fun a => lI (wy (if V.kind i = 3 then 0 else p) n a)) 7) 50 (fun a => lI (wy (if V.kind j = 3 then 0 else p) n a)) 7) 48 2 (lI (upC V i j n p / Nat.gcd (upC V i j n p) (144 ^ n) : Nat))) 48 3 (lI (144 ^ n / Nat.gcd (upC V i j n p) (144 ^ n) : Nat))) := by
  refine zc_of (n := 5) (ls := [some (.ref 0), some (.int (iI i)), some (.int (iI j)), some (.int (iI n)), some (.int (iI p))]) mk_131 rfl rfl rfl rfl (fun d hd N xs => ?_)
  have hn6 := hk.n
  rw [b_131_0, g_32 M L V hk hv i j (by omega) (by omega) (by omega) (by omega) (by omega), b2_t (by omega), b_131_1, if_neg (show ¬ iI 1 = (0 : Int32) from iI10), if_neg (by rw [t_lt, show (0 : Int32).toInt = 0 from rfl, iI_to (by omega) (by omega)]; omega), if_neg (by rw [t_lt, show (6 : Int32).toInt = 6 from rfl, iI_to (by omega) (by omega)]; omega), g_151 M L p (by omega) (by omega) (by omega), b2_t (by omega), b_131_2, if_neg (show ¬ iI 1 = (0 : Int32) from iI10), b_131_4, g_92 M L V hk hv i j n p hi hj hn hp hu (by omega), b_131_5]
  rfl
theorem g_131O (V : Vw) (hk : Vk V) (hv : Hv V M) (i j n p : Nat) (hi : i < V.n) (hj : j < V.n) (hij : i ≠ j) (hn : n ≤ 6) (hp : p ≤ 12) (hu : upC V i j n p < 2 ^ 62) {d N : Nat} {xs : Nat → Int32} {tb_ : List zz_B} {t_ : Nat} {ls_ : zz_L} {rest_ : List Value} (hd_ : 6 ≤ d) : (zz_o (zz_call_ d 131 [.ref 0, .int (iI i), .int (iI j), .int (iI n), .int (iI p)] (zm N xs M L)) fun r => zz_X (zz_call_ d) tb_ t_ ls_ (r.1.toList ++ rest_) r.2) = zz_X (zz_call_ d) tb_ t_ ls_ ((.int (iI 1)) :: rest_) (zm N xs M (zz_wL (zz_wL (sL (sL L 49 (fun a => lI (wy (if V.kind i = 3 then 0 else p) n a)) 7) 50 (fun a => lI (wy (if V.kind j = 3 then 0 else p) n a)) 7) 48 2 (lI (upC V i j n p / Nat.gcd (upC V i j n p) (144 ^ n) : Nat))) 48 3 (lI (144 ^ n / Nat.gcd (upC V i j n p) (144 ^ n) : Nat)))) := (s_131O M L V hk hv i j n p hi hj hij hn hp hu).go hd_
theorem s_247B (V : Vw) (hk : Vk V) (hr : Rv V (M 53) 0) (z y w u : Int) (h1 : -2147483648 ≤ z) (h2 : z ≤ 2147483647) (h3 : -2147483648 ≤ y) (h4 : y ≤ 2147483647) (h5 : -2147483648 ≤ w) (h6 : w ≤ 2147483647) (h7 : -2147483648 ≤ u) (h8 : u ≤ 2147483647) (h : ¬ (((0 ≤ z ∧ z < V.n) ∧ (0 ≤ y ∧ y < V.n) ∧ z ≠ y) ∧ (0 ≤ w ∧ w ≤ 6) ∧ 0 ≤ u ∧ u ≤ 12)) : zc 6 247 [.ref 52, .int (iI z), .int (iI y), .int (iI w), .int (iI u)] M L (some (.int (iI (-1)))) M L := by
  refine zc_of (n := 5) (ls := [some (.ref 52), some (.int (iI z)), some (.int (iI y)), some (.int (iI w)), some (.int (iI u)), none, none, none, none, none, none, none, none, none, none]) mk_247 rfl rfl rfl rfl (fun d hd N xs => ?_)
  rw [b_247_0, g_211 M L V hk hr z y h1 h2 h3 h4 (by omega), b_247_1]
  by_cases q : (0 ≤ z ∧ z < V.n) ∧ (0 ≤ y ∧ y < V.n) ∧ z ≠ y
  · rw [b2_t q, if_neg (show ¬ iI 1 = (0 : Int32) from iI10), iI_long h5 h6, lI_lit, lI_lit, g_157 M L w 0 6 (by omega) (by omega) (by omega) (by omega) (by omega) (by omega) (by omega), b_247_2]
    by_cases q2 : 0 ≤ w ∧ w ≤ 6
    · rw [b2_t q2, if_neg (show ¬ iI 1 = (0 : Int32) from iI10), iI_long h7 h8, lI_lit, lI_lit, g_157 M L u 0 12 (by omega) (by omega) (by omega) (by omega) (by omega) (by omega) (by omega), b2_f (by omega), b_247_3, if_pos (show iI 0 = (0 : Int32) from rfl), b_247_4]
      rfl
    · rw [b2_f q2, if_pos (show iI 0 = (0 : Int32) from rfl), b_247_4]
      rfl
  · rw [b2_f q, if_pos (show iI 0 = (0 : Int32) from rfl), b_247_4]
    rfl
theorem g_247B (V : Vw) (hk : Vk V) (hr : Rv V (M 53) 0) (z y w u : Int) (h1 : -2147483648 ≤ z) (h2 : z ≤ 2147483647) (h3 : -2147483648 ≤ y) (h4 : y ≤ 2147483647) (h5 : -2147483648 ≤ w) (h6 : w ≤ 2147483647) (h7 : -2147483648 ≤ u) (h8 : u ≤ 2147483647) (h : ¬ (((0 ≤ z ∧ z < V.n) ∧ (0 ≤ y ∧ y < V.n) ∧ z ≠ y) ∧ (0 ≤ w ∧ w ≤ 6) ∧ 0 ≤ u ∧ u ≤ 12)) {d N : Nat} {xs : Nat → Int32} {tb_ : List zz_B} {t_ : Nat} {ls_ : zz_L} {rest_ : List Value} (hd_ : 6 ≤ d) : (zz_o (zz_call_ d 247 [.ref 52, .int (iI z), .int (iI y), .int (iI w), .int (iI u)] (zm N xs M L)) fun r => zz_X (zz_call_ d) tb_ t_ ls_ (r.1.toList ++ rest_) r.2) = zz_X (zz_call_ d) tb_ t_ ls_ ((.int (iI (-1))) :: rest_) (zm N xs M L) := (s_247B M L V hk hr z y w u h1 h2 h3 h4 h5 h6 h7 h8 h).go hd_
abbrev upR (V : Vw) (i j n p m k : Nat) : Nat := tot (Po V i j n) (fun a => wf a m p) (fun a => wf a k p) (m + 1) (k + 1)
theorem l_247 {d : Nat} (hd : 5 ≤ d) (N : Nat) (xs : Nat → Int32) (V : Vw) (hk : Vk V) (hr : Rv V (M 53) 0) (i j n p m k : Nat) (hi : i < V.n) (hj : j < V.n) (hn : n ≤ 6) (hp : p ≤ 12) (hm : m ≤ 6) (hk6 : k ≤ 6) (hu : upR V i j n p m k < 2 ^ 62) : zz_X (zz_call_ d) tb_247 11 [some (.ref 52), some (.int (iI i)), some (.int (iI j)), some (.int (iI n)), some (.int (iI p)), some (.int (iI m)), some (.int (iI k)), some (.int (iI (V.minAt i n))), none, none, none, none, none, none, none] [.int (iI (V.minAt j n))] (zm N xs M L) = some (some (.int (iI 1)), zm N xs M (zz_wL (zz_wL L 52 11 (lI (upR V i j n p m k / Nat.gcd (upR V i j n p m k) (12 ^ (m + k)) : Nat))) 52 12 (lI (12 ^ (m + k) / Nat.gcd (upR V i j n p m k) (12 ^ (m + k)) : Nat)))) := by
  have hn6 := hk.n
  have hmi := minAt_b V i n
  have hmj := minAt_b V j n
  have eu : upR V i j n p m k = tot (Po V i j n) (fun a => wf a m p) (fun a => wf a k p) (m + 1) (k + 1) := rfl
  rw [b_247_11]
  have hd1 := upto (fun x : Nat => zz_X (zz_call_ d) tb_247 12 [some (.ref 52), some (.int (iI i)), some (.int (iI j)), some (.int (iI n)), some (.int (iI p)), some (.int (iI m)), some (.int (iI k)), some (.int (iI (V.minAt i n))), some (.int (iI (V.minAt j n))), some (.long (lI ((0 : Nat) : Int))), none, some (.long (lI ((12 ^ x : Nat) : Int))), none, some (.int (iI x)), none] [] (zm N xs M L)) (m + k) (fun x hx => by
    show zz_X (zz_call_ d) tb_247 12 _ _ _ = zz_X (zz_call_ d) tb_247 12 _ _ _
    rw [b_247_12, iI_add, if_neg (by rw [t_le, iI_to (by omega) (by omega), iI_to (by omega) (by omega)]; omega), show (12 : Int64) = lI 12 from rfl, lI_mul, show (1 : Int32) = iI 1 from rfl, iI_add, show ((12 ^ x : Nat) : Int) * 12 = ((12 ^ (x + 1) : Nat) : Int) by rw [Nat.pow_succ]; omega]
    rfl)
  refine Eq.trans hd1 ?_
  show zz_X (zz_call_ d) tb_247 12 _ _ _ = _
  rw [b_247_12, iI_add, if_pos (by rw [t_le, iI_to (by omega) (by omega), iI_to (by omega) (by omega)]; omega), b_247_13]
  have hl : ∀ (c a : Nat) (o : Option Value), a + c = m + 1 → ∃ o', zz_X (zz_call_ d) tb_247 14 [some (.ref 52), some (.int (iI i)), some (.int (iI j)), some (.int (iI n)), some (.int (iI p)), some (.int (iI m)), some (.int (iI k)), some (.int (iI (V.minAt i n))), some (.int (iI (V.minAt j n))), some (.long (lI ((tot (Po V i j n) (fun a => wf a m p) (fun a => wf a k p) a (k + 1) : Nat) : Int))), none, some (.long (lI ((12 ^ (m + k) : Nat) : Int))), none, some (.int (iI a)), o] [] (zm N xs M L) = zz_X (zz_call_ d) tb_247 24 [some (.ref 52), some (.int (iI i)), some (.int (iI j)), some (.int (iI n)), some (.int (iI p)), some (.int (iI m)), some (.int (iI k)), some (.int (iI (V.minAt i n))), some (.int (iI (V.minAt j n))), some (.long (lI ((upR V i j n p m k : Nat) : Int))), none, some (.long (lI ((12 ^ (m + k) : Nat) : Int))), none, some (.int (iI ((m + 1 : Nat) : Int))), o'] [] (zm N xs M L) := by
    intro c
    induction c with
    | zero =>
      intro a o hc
      refine ⟨o, ?_⟩
      rw [b_247_14, if_pos (by rw [t_lt, iI_to (by omega) (by omega), iI_to (by omega) (by omega)]; omega), show a = m + 1 by omega]
    | succ c ih =>
      intro a o hc
      obtain ⟨o', iha⟩ := ih (a + 1) (some (.int (iI ((k + 1 : Nat) : Int)))) (by omega)
      refine ⟨o', ?_⟩
      rw [b_247_14, if_neg (by rw [t_lt, iI_to (by omega) (by omega), iI_to (by omega) (by omega)]; omega)]
      have hin := upto (fun b : Nat => zz_X (zz_call_ d) tb_247 15 [some (.ref 52), some (.int (iI i)), some (.int (iI j)), some (.int (iI n)), some (.int (iI p)), some (.int (iI m)), some (.int (iI k)), some (.int (iI (V.minAt i n))), some (.int (iI (V.minAt j n))), some (.long (lI ((tot (Po V i j n) (fun a => wf a m p) (fun a => wf a k p) a (k + 1) + sN (cel (Po V i j n) (fun a => wf a m p) (fun a => wf a k p) a) b : Nat) : Int))), none, some (.long (lI ((12 ^ (m + k) : Nat) : Int))), none, some (.int (iI a)), some (.int (iI b))] [] (zm N xs M L)) (k + 1) (fun b hb => by
        show zz_X (zz_call_ d) tb_247 15 _ _ _ = zz_X (zz_call_ d) tb_247 15 _ _ _
        have ec : cel (Po V i j n) (fun a => wf a m p) (fun a => wf a k p) a b = if Po V i j n a b then wf a m p * wf b k p else 0 := rfl
        have es : sN (cel (Po V i j n) (fun a => wf a m p) (fun a => wf a k p) a) (b + 1) = sN (cel (Po V i j n) (fun a => wf a m p) (fun a => wf a k p) a) b + cel (Po V i j n) (fun a => wf a m p) (fun a => wf a k p) a b := rfl
        rw [b_247_15, if_neg (by rw [t_lt, iI_to (by omega) (by omega), iI_to (by omega) (by omega)]; omega), iI_add, g_160 M L _ (by omega) (by omega) (by omega), b_247_16, iI_add, g_160 M L _ (by omega) (by omega) (by omega), b_247_17, g_192 M L V hk hr i j _ _ hi hj (by omega) (by omega) (by omega) (by omega) (by omega), b_247_18]
        by_cases q : Po V i j n a b
        · rw [b2_t q, if_neg (show ¬ iI 1 = (0 : Int32) from iI10), g_246 M L a m p (by omega) hm hp (by omega), b_247_19, g_246 M L b k p (by omega) hk6 hp (by omega), b_247_20, lI_mul, b_247_22, lI_add, es, ec, if_pos q, show (1 : Int32) = iI 1 from rfl, iI_add, ← Nat.add_assoc, Int.natCast_add (tot (Po V i j n) (fun a => wf a m p) (fun a => wf a k p) a (k + 1) + sN (cel (Po V i j n) (fun a => wf a m p) (fun a => wf a k p) a) b), Int.natCast_mul]
          rfl
        · rw [b2_f q, if_pos (show iI 0 = (0 : Int32) from rfl), b_247_21, b_247_22, show (0 : Int64) = lI 0 from rfl, lI_add, Int.add_zero, es, ec, if_neg q, Nat.add_zero, show (1 : Int32) = iI 1 from rfl, iI_add]
          rfl)
      refine Eq.trans hin ?_
      show zz_X (zz_call_ d) tb_247 15 _ _ _ = _
      rw [b_247_15, if_pos (by rw [t_lt, iI_to (by omega) (by omega), iI_to (by omega) (by omega)]; omega), b_247_23, show (1 : Int32) = iI 1 from rfl, iI_add]
      exact iha
  obtain ⟨o', h14⟩ := hl (m + 1) 0 none (by omega)
  refine Eq.trans h14 ?_
  have h12 : (12 : Nat) ^ (m + k) ≤ 12 ^ 12 := Nat.pow_le_pow_right (by omega) (by omega)
  have h0 : 0 < (12 : Nat) ^ (m + k) := Nat.pow_pos (by omega)
  rw [b_247_24, g_245 M L (upR V i j n p m k) (12 ^ (m + k)) hu (by omega) h0 (by omega), b_247_25]
theorem s_247O (V : Vw) (hk : Vk V) (hr : Rv V (M 53) 0) (i j n p m k : Nat) (hi : i < V.n) (hj : j < V.n) (hij : i ≠ j) (hn : n ≤ 6) (hp : p ≤ 12) (hm : m = if V.kind i = 3 then 0 else n) (hk6 : k = if V.kind j = 3 then 0 else n) (hu : upR V i j n p m k < 2 ^ 62) : zc 6 247 [.ref 52, .int (iI i), .int (iI j), .int (iI n), .int (iI p)] M L (some (.int (iI 1))) M (zz_wL (zz_wL L 52 11 (lI (upR V i j n p m k / Nat.gcd (upR V i j n p m k) (12 ^ (m + k)) : Nat))) 52 12 (lI (12 ^ (m + k) / Nat.gcd (upR V i j n p m k) (12 ^ (m + k)) : Nat))) := by
  refine zc_of (n := 5) (ls := [some (.ref 52), some (.int (iI i)), some (.int (iI j)), some (.int (iI n)), some (.int (iI p)), none, none, none, none, none, none, none, none, none, none]) mk_247 rfl rfl rfl rfl (fun d hd N xs => ?_)
  have hn6 := hk.n
  have hki := hk.kind i
  have hkj := hk.kind j
  have hmb : m ≤ 6 := by rw [hm]; split <;> omega
  have hkb : k ≤ 6 := by rw [hk6]; split <;> omega
  have eki : M 53 (10 + i) = iI (V.kind i) := by have := hr.kind i hi; rwa [Nat.zero_add] at this
  have ekj : M 53 (10 + j) = iI (V.kind j) := by have := hr.kind j hj; rwa [Nat.zero_add] at this
  have fin := l_247 M L hd N xs V hk hr i j n p m k hi hj hn hp hmb hkb hu
  rw [b_247_0, g_211 M L V hk hr i j (by omega) (by omega) (by omega) (by omega) (by omega), b2_t (by omega), b_247_1, if_neg (show ¬ iI 1 = (0 : Int32) from iI10), iI_long (by omega) (by omega), lI_lit, lI_lit, g_157 M L n 0 6 (by omega) (by omega) (by omega) (by omega) (by omega) (by omega) (by omega), b2_t (by omega), b_247_2, if_neg (show ¬ iI 1 = (0 : Int32) from iI10), iI_long (by omega) (by omega), lI_lit, lI_lit, g_157 M L p 0 12 (by omega) (by omega) (by omega) (by omega) (by omega) (by omega) (by omega), b2_t (by omega), b_247_3, if_neg (show ¬ iI 1 = (0 : Int32) from iI10), b_247_5, show (10 : Int32) = iI 10 from rfl, iI_add, show (10 : Int) + (i : Int) = ((10 + i : Nat) : Int) by omega, ix_nat (by omega) (by omega), o_some, eki]
  have s7 : ∀ x : Nat, m = x → zz_X (zz_call_ d) tb_247 7 [some (.ref 52), some (.int (iI i)), some (.int (iI j)), some (.int (iI n)), some (.int (iI p)), none, none, none, none, none, none, none, none, none, none] [.int (iI x)] (zm N xs M L) = some (some (.int (iI 1)), zm N xs M (zz_wL (zz_wL L 52 11 (lI (upR V i j n p m k / Nat.gcd (upR V i j n p m k) (12 ^ (m + k)) : Nat))) 52 12 (lI (12 ^ (m + k) / Nat.gcd (upR V i j n p m k) (12 ^ (m + k)) : Nat)))) := by
    intro x hx
    have s9 : ∀ y : Nat, k = y → zz_X (zz_call_ d) tb_247 9 [some (.ref 52), some (.int (iI i)), some (.int (iI j)), some (.int (iI n)), some (.int (iI p)), some (.int (iI x)), none, none, none, none, none, none, none, none, none] [.int (iI y)] (zm N xs M L) = some (some (.int (iI 1)), zm N xs M (zz_wL (zz_wL L 52 11 (lI (upR V i j n p m k / Nat.gcd (upR V i j n p m k) (12 ^ (m + k)) : Nat))) 52 12 (lI (12 ^ (m + k) / Nat.gcd (upR V i j n p m k) (12 ^ (m + k)) : Nat)))) := by
      intro y hy
      rw [b_247_9, g_190 M L V hk hr i n hi (by omega) (by omega), b_247_10, g_190 M L V hk hr j n hj (by omega) (by omega), ← hx, ← hy]
      exact fin
    rw [b_247_7, show (10 : Int32) = iI 10 from rfl, iI_add, show (10 : Int) + (j : Int) = ((10 + j : Nat) : Int) by omega, ix_nat (by omega) (by omega), o_some, ekj]
    by_cases q : V.kind j = 3
    · rw [if_pos (show iI ((V.kind j : Nat) : Int) = (3 : Int32) by rw [q]; rfl)]
      exact s9 0 (by rw [hk6, if_pos q])
    · rw [if_neg (show ¬ iI ((V.kind j : Nat) : Int) = (3 : Int32) by rw [t_eq, show (3 : Int32).toInt = 3 from rfl, iI_to (by omega) (by omega)]; omega), b_247_8]
      exact s9 n (by rw [hk6, if_neg q])
  by_cases q : V.kind i = 3
  · rw [if_pos (show iI ((V.kind i : Nat) : Int) = (3 : Int32) by rw [q]; rfl)]
    exact s7 0 (by rw [hm, if_pos q])
  · rw [if_neg (show ¬ iI ((V.kind i : Nat) : Int) = (3 : Int32) by rw [t_eq, show (3 : Int32).toInt = 3 from rfl, iI_to (by omega) (by omega)]; omega), b_247_6]
    exact s7 n (by rw [hm, if_neg q])
theorem g_247O (V : Vw) (hk : Vk V) (hr : Rv V (M 53) 0) (i j n p m k : Nat) (hi : i < V.n) (hj : j < V.n) (hij : i ≠ j) (hn : n ≤ 6) (hp : p ≤ 12) (hm : m = if V.kind i = 3 then 0 else n) (hk6 : k = if V.kind j = 3 then 0 else n) (hu : upR V i j n p m k < 2 ^ 62) {d N : Nat} {xs : Nat → Int32} {tb_ : List zz_B} {t_ : Nat} {ls_ : zz_L} {rest_ : List Value} (hd_ : 6 ≤ d) : (zz_o (zz_call_ d 247 [.ref 52, .int (iI i), .int (iI j), .int (iI n), .int (iI p)] (zm N xs M L)) fun r => zz_X (zz_call_ d) tb_ t_ ls_ (r.1.toList ++ rest_) r.2) = zz_X (zz_call_ d) tb_ t_ ls_ ((.int (iI 1)) :: rest_) (zm N xs M (zz_wL (zz_wL L 52 11 (lI (upR V i j n p m k / Nat.gcd (upR V i j n p m k) (12 ^ (m + k)) : Nat))) 52 12 (lI (12 ^ (m + k) / Nat.gcd (upR V i j n p m k) (12 ^ (m + k)) : Nat)))) := (s_247O M L V hk hr i j n p m k hi hj hij hn hp hm hk6 hu).go hd_
end ZR
theorem wy_g (K n p : Nat) (hn : n ≤ 6) (hp : p ≤ 12) : ∃ F, 0 < F ∧ (∀ a, a < 7 → wy (if K = 3 then 0 else p) n a = F * (if a ≤ (if K = 3 then 0 else n) then wf a (if K = 3 then 0 else n) p else 0)) ∧ 12 ^ n = F * 12 ^ (if K = 3 then 0 else n) ∧ sN (wy (if K = 3 then 0 else p) n) 7 = 12 ^ n := by
  by_cases q : K = 3
  · rw [if_pos q, if_pos q]
    exact ⟨12 ^ n, Nat.pow_pos (by omega), wf_w0 n (by omega) p (by omega), by rw [Nat.pow_zero, Nat.mul_one], wy_sum n (by omega) 0 (by omega)⟩
  · rw [if_neg q, if_neg q]
    exact ⟨1, by omega, wf_wy n (by omega) p (by omega), by rw [Nat.one_mul], wy_sum n (by omega) p (by omega)⟩
theorem o_odds {M : Nat → Nat → Int32} {L : Nat → Nat → Int64} (a b c e : Int32) (hI : Inv M L) : Ok 131 247 [.int a, .int b, .int c, .int e] M L := by
  obtain ⟨z, h1, h2, rfl⟩ := iI_of a
  obtain ⟨y, h3, h4, rfl⟩ := iI_of b
  obtain ⟨w, h5, h6, rfl⟩ := iI_of c
  obtain ⟨u, h7, h8, rfl⟩ := iI_of e
  obtain ⟨V, hk, hv, hr⟩ := hI.view
  by_cases q : ((0 ≤ z ∧ z < V.n) ∧ (0 ≤ y ∧ y < V.n) ∧ z ≠ y) ∧ (0 ≤ w ∧ w ≤ 6) ∧ 0 ≤ u ∧ u ≤ 12
  · obtain ⟨i, rfl⟩ : ∃ x : Nat, z = x := ⟨z.toNat, by omega⟩
    obtain ⟨j, rfl⟩ : ∃ x : Nat, y = x := ⟨y.toNat, by omega⟩
    obtain ⟨n, rfl⟩ : ∃ x : Nat, w = x := ⟨w.toNat, by omega⟩
    obtain ⟨p, rfl⟩ : ∃ x : Nat, u = x := ⟨u.toNat, by omega⟩
    have hn : n ≤ 6 := by omega
    have hp : p ≤ 12 := by omega
    obtain ⟨F, f0, f1, f2, f3⟩ := wy_g (V.kind i) n p hn hp
    obtain ⟨G, g0, g1, g2, g3⟩ := wy_g (V.kind j) n p hn hp
    have hle : upC V i j n p ≤ 12 ^ n * 12 ^ n := by
      have := tot_le (Po V i j n) (u := wy (if V.kind i = 3 then 0 else p) n) (w := wy (if V.kind j = 3 then 0 else p) n)
      rw [f3, g3] at this
      exact this
    have h12 : (12 : Nat) ^ n ≤ 12 ^ 6 := Nat.pow_le_pow_right (by omega) hn
    have hb : (12 : Nat) ^ n * 12 ^ n ≤ 12 ^ 6 * 12 ^ 6 := Nat.mul_le_mul h12 h12
    have e1 := tot_sc (Po V i j n) f1 g1
    have hm6 : (if V.kind i = 3 then 0 else n) ≤ 6 := by split <;> omega
    have hk6 : (if V.kind j = 3 then 0 else n) ≤ 6 := by split <;> omega
    rw [tot_cut (Po V i j n) (f := fun a => wf a (if V.kind i = 3 then 0 else n) p) (g := fun a => wf a (if V.kind j = 3 then 0 else n) p) hm6 hk6 (fun a _ => rfl) (fun a _ => rfl)] at e1
    have e2 : upC V i j n p = F * G * upR V i j n p (if V.kind i = 3 then 0 else n) (if V.kind j = 3 then 0 else n) := e1
    have e3 : (144 : Nat) ^ n = F * G * 12 ^ ((if V.kind i = 3 then 0 else n) + (if V.kind j = 3 then 0 else n)) := by
      rw [Nat.pow_add, show (144 : Nat) = 12 * 12 from rfl, Nat.mul_pow]
      conv => lhs; rw [f2]
      conv => lhs; rhs; rw [← f2, g2]
      rw [Nat.mul_assoc F, Nat.mul_assoc F, Nat.mul_left_comm (12 ^ (if V.kind i = 3 then 0 else n)) G]
    have fg0 : 0 < F * G := Nat.mul_pos f0 g0
    have hur : upR V i j n p (if V.kind i = 3 then 0 else n) (if V.kind j = 3 then 0 else n) ≤ upC V i j n p := by
      rw [e2]
      exact Nat.le_mul_of_pos_left _ fg0
    have cx := s_131O M L V hk hv i j n p (by omega) (by omega) (by omega) hn hp (by omega)
    rw [e2, e3, Nat.gcd_mul_left, Nat.mul_div_mul_left _ _ fg0, Nat.mul_div_mul_left _ _ fg0] at cx
    refine ⟨_, M, _, M, _, cx.mono (by omega), (s_247O M _ V hk hr i j n p _ _ (by omega) (by omega) (by omega) hn hp rfl rfl (by omega)).mono (by omega), hI.1, hI.2.1, hI.2.2.1, hI.2.2.2.1, hI.2.2.2.2.1, CH.two _ _⟩
  · exact Ok.same hI (s_131B M L V hk hv z y w u h1 h2 h3 h4 h5 h6 h7 h8 q) (s_247B M L V hk hr z y w u h1 h2 h3 h4 h5 h6 h7 h8 q) (by omega) (by omega)

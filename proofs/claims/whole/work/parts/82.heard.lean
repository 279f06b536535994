/-! rates, kinds, from, of both. -/
abbrev hb (a : Nat → Int) (k : Nat) : Prop := ¬ ((0 ≤ a (2 * k) ∧ a (2 * k) ≤ 60) ∧ (0 ≤ a (2 * k + 1) ∧ a (2 * k + 1) < 60))
abbrev da (V : Vw) (a : Nat → Int) (mi : Int) (kd : Nat) (rt : Int) (k : Nat) : Prop := (mi + gn kd rt (a (2 * k)) (V.warm (a (2 * k)).toNat)) % 60 ≠ a (2 * k + 1)
theorem c2k (k : Nat) : iI ((2 * k : Nat) : Int) + 1 = iI ((2 * k + 1 : Nat) : Int) := by
  rw [show (1 : Int32) = iI 1 from rfl, iI_add]
  rfl
theorem c2s (k : Nat) : iI ((2 * k : Nat) : Int) + 2 = iI ((2 * (k + 1) : Nat) : Int) := by
  rw [show (2 : Int32) = iI 2 from rfl, iI_add]
  congr 1
section ZR
variable (M : Nat → Nat → Int32) (L : Nat → Nat → Int64)
theorem s_144B (V : Vw) (hk : Vk V) (hv : Hv V M) (z y : Int) (h1 : -2147483648 ≤ z) (h2 : z ≤ 2147483647) (h3 : -2147483648 ≤ y) (h4 : y ≤ 2147483647) (h : ¬ ((0 ≤ z ∧ z < V.n) ∧ 0 ≤ y ∧ y < 6)) : zc 6 144 [.ref 0, .int (iI z), .int (iI y)] M L (some (.int (iI (-1)))) M L := by
  refine zc_of (n := 5) (ls := [some (.ref 0), some (.int (iI z)), some (.int (iI y)), none, none, none, none]) mk_144 rfl rfl rfl rfl (fun d hd N xs => ?_)
  rw [b_144_0, g_31 M L V hk hv z h1 h2 (by omega), b_144_1]
  by_cases q : 0 ≤ z ∧ z < V.n
  · rw [b2_t q, if_neg (show ¬ iI 1 = (0 : Int32) from iI10), b_144_2, g_142aB M L y h3 h4 (by omega) (by omega), b_144_3, if_neg (by decide)]
  · rw [b2_f q, if_pos (show iI 0 = (0 : Int32) from rfl)]
    rfl
theorem g_144B (V : Vw) (hk : Vk V) (hv : Hv V M) (z y : Int) (h1 : -2147483648 ≤ z) (h2 : z ≤ 2147483647) (h3 : -2147483648 ≤ y) (h4 : y ≤ 2147483647) (h : ¬ ((0 ≤ z ∧ z < V.n) ∧ 0 ≤ y ∧ y < 6)) {d N : Nat} {xs : Nat → Int32} {tb_ : List zz_B} {t_ : Nat} {ls_ : zz_L} {rest_ : List Value} (hd_ : 6 ≤ d) : (zz_o (zz_call_ d 144 [.ref 0, .int (iI z), .int (iI y)] (zm N xs M L)) fun r => zz_X (zz_call_ d) tb_ t_ ls_ (r.1.toList ++ rest_) r.2) = zz_X (zz_call_ d) tb_ t_ ls_ ((.int (iI (-1))) :: rest_) (zm N xs M L) := (s_144B M L V hk hv z y h1 h2 h3 h4 h).go hd_
theorem s_144N (V : Vw) (hk : Vk V) (hv : Hv V M) (i r : Nat) (hi : i < V.n) (hr6 : r < 6) (hm : (M 9 r).toInt = -1) : zc 6 144 [.ref 0, .int (iI i), .int (iI r)] M L (some (.int (iI (-3)))) (fnd M 1) L := by
  refine zc_of (n := 5) (ls := [some (.ref 0), some (.int (iI i)), some (.int (iI r)), none, none, none, none]) mk_144 rfl rfl rfl rfl (fun d hd N xs => ?_)
  have hn := hk.n
  rw [b_144_0, g_31 M L V hk hv i (by omega) (by omega) (by omega), b_144_1, b2_t (by omega), if_neg (show ¬ iI 1 = (0 : Int32) from iI10), b_144_2, g_142aN M L r (by omega) (by omega) (by rw [Int.toNat_natCast]; exact hm) (by omega), b_144_3, if_neg (by decide)]
theorem g_144N (V : Vw) (hk : Vk V) (hv : Hv V M) (i r : Nat) (hi : i < V.n) (hr6 : r < 6) (hm : (M 9 r).toInt = -1) {d N : Nat} {xs : Nat → Int32} {tb_ : List zz_B} {t_ : Nat} {ls_ : zz_L} {rest_ : List Value} (hd_ : 6 ≤ d) : (zz_o (zz_call_ d 144 [.ref 0, .int (iI i), .int (iI r)] (zm N xs M L)) fun r => zz_X (zz_call_ d) tb_ t_ ls_ (r.1.toList ++ rest_) r.2) = zz_X (zz_call_ d) tb_ t_ ls_ ((.int (iI (-3))) :: rest_) (zm N xs (fnd M 1) L) := (s_144N M L V hk hv i r hi hr6 hm).go hd_
theorem h_144 {d : Nat} (hd : 5 ≤ d) (N : Nat) (xs : Nat → Int32) (V : Vw) (hk : Vk V) (hv : Hv V M) (i r s : Nat) (a : Nat → Int) (hi : i < V.n) (hw : Rw M r s a) : zz_X (zz_call_ d) tb_144 0 [some (.ref 0), some (.int (iI i)), some (.int (iI r)), none, none, none, none] [] (zm N xs M L) = zz_X (zz_call_ d) tb_144 5 [some (.ref 0), some (.int (iI i)), some (.int (iI r)), some (.int (iI 0)), none, none, none] [.int (iI s)] (zm N xs M L) := by
  have hn := hk.n
  obtain ⟨h1, h2, h3, h4, h5, h6⟩ := hw
  rw [b_144_0, g_31 M L V hk hv i (by omega) (by omega) (by omega), b_144_1, b2_t (by omega), if_neg (show ¬ iI 1 = (0 : Int32) from iI10), b_144_2, g_142aO M L r (by omega) (by omega) (by rw [Int.toNat_natCast, h3, iI_to (by omega) (by omega)]; omega) (by omega), b_144_3, if_pos (show iI 0 = (0 : Int32) from rfl), b_144_4, g_15a M L r (by omega) (by omega) (by omega), Int.toNat_natCast, h3]
theorem rem2 {s : Nat} (h : s ≤ 40) : (iI s - iI s / 2 * 2 = 0) ↔ s % 2 = 0 := by
  rw [show (2 : Int32) = iI 2 from rfl, iI_rem (by omega) (by omega) (by omega) (by omega), show (s : Int).tmod 2 = ((s % 2 : Nat) : Int) from rfl, t_eq, iI_to (by omega) (by omega), show (0 : Int32).toInt = 0 from rfl]
  omega
theorem s_144S (V : Vw) (hk : Vk V) (hv : Hv V M) (i r s : Nat) (a : Nat → Int) (hi : i < V.n) (hw : Rw M r s a) (ho : ¬ s % 2 = 0) : zc 6 144 [.ref 0, .int (iI i), .int (iI r)] M L (some (.int (iI (-3)))) (fnd M 5) L := by
  refine zc_of (n := 5) (ls := [some (.ref 0), some (.int (iI i)), some (.int (iI r)), none, none, none, none]) mk_144 rfl rfl rfl rfl (fun d hd N xs => ?_)
  rw [h_144 M L hd N xs V hk hv i r s a hi hw, b_144_5, if_neg (fun e => ho ((rem2 hw.2.1).1 e)), show (5 : Int32) = iI ((5 : Nat) : Int) from rfl, g_141 M L 5 (by omega) (by omega) (by omega), b_144_6]
theorem g_144S (V : Vw) (hk : Vk V) (hv : Hv V M) (i r s : Nat) (a : Nat → Int) (hi : i < V.n) (hw : Rw M r s a) (ho : ¬ s % 2 = 0) {d N : Nat} {xs : Nat → Int32} {tb_ : List zz_B} {t_ : Nat} {ls_ : zz_L} {rest_ : List Value} (hd_ : 6 ≤ d) : (zz_o (zz_call_ d 144 [.ref 0, .int (iI i), .int (iI r)] (zm N xs M L)) fun r => zz_X (zz_call_ d) tb_ t_ ls_ (r.1.toList ++ rest_) r.2) = zz_X (zz_call_ d) tb_ t_ ls_ ((.int (iI (-3))) :: rest_) (zm N xs (fnd M 5) L) := (s_144S M L V hk hv i r s a hi hw ho).go hd_
theorem l_144 {d : Nat} (hd : 5 ≤ d) (N : Nat) (xs : Nat → Int32) (i : Int32) (r t : Nat) (a : Nat → Int) (hw : Rw M r (2 * t) a) : ∀ (c k : Nat) (o : Option Value), k + c = t → zz_X (zz_call_ d) tb_144 8 [some (.ref 0), some (.int i), some (.int (iI r)), some (.int (iI 0)), some (.int (iI ((2 * t : Nat) : Int))), some (.int (iI ((2 * k : Nat) : Int))), o] [] (zm N xs M L) = if fx (hb a) c k < t then some (some (.int (iI (-3))), zm N xs (fnd M 3) L) else some (some (.int (iI 0)), zm N xs M L)
  | 0, k, o, hc => by
    have h40 := hw.2.1
    rw [b_144_8, c2k, if_pos (by rw [t_le, iI_to (by omega) (by omega), iI_to (by omega) (by omega)]; omega), b_144_15]
    unfold fx
    rw [if_neg (by omega)]
    rfl
  | c + 1, k, o, hc => by
    have h40 := hw.2.1
    have b1 := hw.2.2.2.2.2 (2 * k)
    have b3 := hw.2.2.2.2.2 (2 * k + 1)
    have l12 : hb a k → ∀ o : Int32, zz_X (zz_call_ d) tb_144 12 [some (.ref 0), some (.int i), some (.int (iI r)), some (.int (iI 0)), some (.int (iI ((2 * t : Nat) : Int))), some (.int (iI ((2 * k : Nat) : Int))), some (.int o)] [] (zm N xs M L) = if fx (hb a) (c + 1) k < t then some (some (.int (iI (-3))), zm N xs (fnd M 3) L) else some (some (.int (iI 0)), zm N xs M L) := by
      intro q o
      rw [show fx (hb a) (c + 1) k = k from if_pos q, if_pos (by omega), b_144_12, show (3 : Int32) = iI ((3 : Nat) : Int) from rfl, g_141 M L 3 (by omega) (by omega) (by omega), b_144_13]
    rw [b_144_8, c2k, if_neg (by rw [t_le, iI_to (by omega) (by omega), iI_to (by omega) (by omega)]; omega), g_16R M L hw (by omega) (by omega), b_144_9, show (0 : Int32) = iI 0 from rfl, show (60 : Int32) = iI 60 from rfl]
    simp only [t_lt]
    rw [iI_to b1.1 b1.2, iI_to (by omega) (by omega), iI_to (by omega) (by omega)]
    by_cases q1 : a (2 * k) < 0
    · rw [if_pos q1]; exact l12 (by omega) _
    · rw [if_neg q1]
      by_cases q2 : 60 < a (2 * k)
      · rw [if_pos q2]; exact l12 (by omega) _
      · rw [if_neg q2, c2k, g_16R M L hw (by omega) (by omega), b_144_10, g_150 M L _ b3.1 b3.2 (by omega), b_144_11]
        by_cases q3 : 0 ≤ a (2 * k + 1) ∧ a (2 * k + 1) < 60
        · rw [b2_t q3, if_neg (show ¬ iI 1 = (0 : Int32) from iI10), b_144_14, c2s, show fx (hb a) (c + 1) k = fx (hb a) c (k + 1) from if_neg (fun e => e ⟨by omega, q3⟩)]
          exact l_144 hd N xs i r t a hw c (k + 1) _ (by omega)
        · rw [b2_f q3, if_pos (show iI 0 = (0 : Int32) from rfl)]
          exact l12 (by omega) _
theorem h2_144 {d : Nat} (hd : 5 ≤ d) (N : Nat) (xs : Nat → Int32) (V : Vw) (hk : Vk V) (hv : Hv V M) (i r t : Nat) (a : Nat → Int) (hi : i < V.n) (hw : Rw M r (2 * t) a) : zz_X (zz_call_ d) tb_144 0 [some (.ref 0), some (.int (iI i)), some (.int (iI r)), none, none, none, none] [] (zm N xs M L) = if fx (hb a) t 0 < t then some (some (.int (iI (-3))), zm N xs (fnd M 3) L) else some (some (.int (iI 0)), zm N xs M L) := by
  rw [h_144 M L hd N xs V hk hv i r _ a hi hw, b_144_5, if_pos ((rem2 hw.2.1).2 (by omega)), b_144_7]
  exact l_144 M L hd N xs _ r t a hw t 0 none (by omega)
theorem s_144U (V : Vw) (hk : Vk V) (hv : Hv V M) (i r t : Nat) (a : Nat → Int) (hi : i < V.n) (hw : Rw M r (2 * t) a) (hu : fx (hb a) t 0 < t) : zc 6 144 [.ref 0, .int (iI i), .int (iI r)] M L (some (.int (iI (-3)))) (fnd M 3) L := by
  refine zc_of (n := 5) (ls := [some (.ref 0), some (.int (iI i)), some (.int (iI r)), none, none, none, none]) mk_144 rfl rfl rfl rfl (fun d hd N xs => ?_)
  rw [h2_144 M L hd N xs V hk hv i r t a hi hw, if_pos hu]
theorem g_144U (V : Vw) (hk : Vk V) (hv : Hv V M) (i r t : Nat) (a : Nat → Int) (hi : i < V.n) (hw : Rw M r (2 * t) a) (hu : fx (hb a) t 0 < t) {d N : Nat} {xs : Nat → Int32} {tb_ : List zz_B} {t_ : Nat} {ls_ : zz_L} {rest_ : List Value} (hd_ : 6 ≤ d) : (zz_o (zz_call_ d 144 [.ref 0, .int (iI i), .int (iI r)] (zm N xs M L)) fun r => zz_X (zz_call_ d) tb_ t_ ls_ (r.1.toList ++ rest_) r.2) = zz_X (zz_call_ d) tb_ t_ ls_ ((.int (iI (-3))) :: rest_) (zm N xs (fnd M 3) L) := (s_144U M L V hk hv i r t a hi hw hu).go hd_
theorem s_144O (V : Vw) (hk : Vk V) (hv : Hv V M) (i r t : Nat) (a : Nat → Int) (hi : i < V.n) (hw : Rw M r (2 * t) a) (hu : ¬ fx (hb a) t 0 < t) : zc 6 144 [.ref 0, .int (iI i), .int (iI r)] M L (some (.int (iI 0))) M L := by
  refine zc_of (n := 5) (ls := [some (.ref 0), some (.int (iI i)), some (.int (iI r)), none, none, none, none]) mk_144 rfl rfl rfl rfl (fun d hd N xs => ?_)
  rw [h2_144 M L hd N xs V hk hv i r t a hi hw, if_neg hu]
theorem g_144O (V : Vw) (hk : Vk V) (hv : Hv V M) (i r t : Nat) (a : Nat → Int) (hi : i < V.n) (hw : Rw M r (2 * t) a) (hu : ¬ fx (hb a) t 0 < t) {d N : Nat} {xs : Nat → Int32} {tb_ : List zz_B} {t_ : Nat} {ls_ : zz_L} {rest_ : List Value} (hd_ : 6 ≤ d) : (zz_o (zz_call_ d 144 [.ref 0, .int (iI i), .int (iI r)] (zm N xs M L)) fun r => zz_X (zz_call_ d) tb_ t_ ls_ (r.1.toList ++ rest_) r.2) = zz_X (zz_call_ d) tb_ t_ ls_ ((.int (iI 0)) :: rest_) (zm N xs M L) := (s_144O M L V hk hv i r t a hi hw hu).go hd_
theorem s_233B (V : Vw) (hk : Vk V) (hr : Rv V (M 53) 0) (z y : Int) (h1 : -2147483648 ≤ z) (h2 : z ≤ 2147483647) (h3 : -2147483648 ≤ y) (h4 : y ≤ 2147483647) (h : ¬ ((0 ≤ z ∧ z < V.n) ∧ 0 ≤ y ∧ y < 6)) : zc 6 233 [.ref 52, .int (iI z), .int (iI y)] M L (some (.int (iI (-1)))) M L := by
  refine zc_of (n := 5) (ls := [some (.ref 52), some (.int (iI z)), some (.int (iI y)), none]) mk_233 rfl rfl rfl rfl (fun d hd N xs => ?_)
  rw [b_233_0, g_185 M L V hk hr z h1 h2 (by omega), b_233_1]
  by_cases q : 0 ≤ z ∧ z < V.n
  · rw [b2_t q, if_neg (show ¬ iI 1 = (0 : Int32) from iI10), g_164 M L y h3 h4 (by omega), b2_f (by omega), b_233_2, if_pos (show iI 0 = (0 : Int32) from rfl), b_233_3]
    rfl
  · rw [b2_f q, if_pos (show iI 0 = (0 : Int32) from rfl), b_233_3]
    rfl
theorem g_233B (V : Vw) (hk : Vk V) (hr : Rv V (M 53) 0) (z y : Int) (h1 : -2147483648 ≤ z) (h2 : z ≤ 2147483647) (h3 : -2147483648 ≤ y) (h4 : y ≤ 2147483647) (h : ¬ ((0 ≤ z ∧ z < V.n) ∧ 0 ≤ y ∧ y < 6)) {d N : Nat} {xs : Nat → Int32} {tb_ : List zz_B} {t_ : Nat} {ls_ : zz_L} {rest_ : List Value} (hd_ : 6 ≤ d) : (zz_o (zz_call_ d 233 [.ref 52, .int (iI z), .int (iI y)] (zm N xs M L)) fun r => zz_X (zz_call_ d) tb_ t_ ls_ (r.1.toList ++ rest_) r.2) = zz_X (zz_call_ d) tb_ t_ ls_ ((.int (iI (-1))) :: rest_) (zm N xs M L) := (s_233B M L V hk hr z y h1 h2 h3 h4 h).go hd_
theorem h_233 {d : Nat} (hd : 5 ≤ d) (N : Nat) (xs : Nat → Int32) (V : Vw) (hk : Vk V) (hr : Rv V (M 53) 0) (i r : Nat) (hi : i < V.n) (h6 : r < 6) : zz_X (zz_call_ d) tb_233 0 [some (.ref 52), some (.int (iI i)), some (.int (iI r)), none] [] (zm N xs M L) = zz_X (zz_call_ d) tb_233 4 [some (.ref 52), some (.int (iI i)), some (.int (iI r)), none] [] (zm N xs M L) := by
  have hn := hk.n
  rw [b_233_0, g_185 M L V hk hr i (by omega) (by omega) (by omega), b_233_1, b2_t (by omega), if_neg (show ¬ iI 1 = (0 : Int32) from iI10), g_164 M L r (by omega) (by omega) (by omega), b2_t (by omega), b_233_2, if_neg (show ¬ iI 1 = (0 : Int32) from iI10)]
theorem s_233N (V : Vw) (hk : Vk V) (hr : Rv V (M 53) 0) (i r : Nat) (hi : i < V.n) (h6 : r < 6) (hm : (M 56 r).toInt < 0) : zc 6 233 [.ref 52, .int (iI i), .int (iI r)] M L (some (.int (iI (-3)))) (fndR M 1) L := by
  refine zc_of (n := 5) (ls := [some (.ref 52), some (.int (iI i)), some (.int (iI r)), none]) mk_233 rfl rfl rfl rfl (fun d hd N xs => ?_)
  rw [h_233 M L hd N xs V hk hr i r hi h6, b_233_4, ix_nat (by omega) (by omega), o_some, if_neg (by rw [t_le, show (0 : Int32).toInt = 0 from rfl]; omega), show (1 : Int32) = iI ((1 : Nat) : Int) from rfl, g_161 M L 1 (by omega) (by omega) (by omega), b_233_5]
theorem g_233N (V : Vw) (hk : Vk V) (hr : Rv V (M 53) 0) (i r : Nat) (hi : i < V.n) (h6 : r < 6) (hm : (M 56 r).toInt < 0) {d N : Nat} {xs : Nat → Int32} {tb_ : List zz_B} {t_ : Nat} {ls_ : zz_L} {rest_ : List Value} (hd_ : 6 ≤ d) : (zz_o (zz_call_ d 233 [.ref 52, .int (iI i), .int (iI r)] (zm N xs M L)) fun r => zz_X (zz_call_ d) tb_ t_ ls_ (r.1.toList ++ rest_) r.2) = zz_X (zz_call_ d) tb_ t_ ls_ ((.int (iI (-3))) :: rest_) (zm N xs (fndR M 1) L) := (s_233N M L V hk hr i r hi h6 hm).go hd_
theorem h2_233 {d : Nat} (hd : 5 ≤ d) (N : Nat) (xs : Nat → Int32) (V : Vw) (hk : Vk V) (hr : Rv V (M 53) 0) (i r s : Nat) (a : Nat → Int) (hi : i < V.n) (hw : Rr M r s a) : zz_X (zz_call_ d) tb_233 0 [some (.ref 52), some (.int (iI i)), some (.int (iI r)), none] [] (zm N xs M L) = zz_X (zz_call_ d) tb_233 6 [some (.ref 52), some (.int (iI i)), some (.int (iI r)), none] [] (zm N xs M L) := by
  have h1 := hw.1
  have h2 := hw.2.1
  rw [h_233 M L hd N xs V hk hr i r hi h1, b_233_4, ix_nat (by omega) (by omega), o_some, hw.2.2.1, if_pos (by rw [t_le, show (0 : Int32).toInt = 0 from rfl, iI_to (by omega) (by omega)]; omega)]
theorem s_233S (V : Vw) (hk : Vk V) (hr : Rv V (M 53) 0) (i r s : Nat) (a : Nat → Int) (hi : i < V.n) (hw : Rr M r s a) (ho : ¬ s % 2 = 0) : zc 6 233 [.ref 52, .int (iI i), .int (iI r)] M L (some (.int (iI (-3)))) (fndR M 5) L := by
  refine zc_of (n := 5) (ls := [some (.ref 52), some (.int (iI i)), some (.int (iI r)), none]) mk_233 rfl rfl rfl rfl (fun d hd N xs => ?_)
  have h1 := hw.1
  rw [h2_233 M L hd N xs V hk hr i r s a hi hw, b_233_6, ix_nat (by omega) (by omega), o_some, hw.2.2.1, if_neg (fun e => ho ((rem2 hw.2.1).1 e)), show (5 : Int32) = iI ((5 : Nat) : Int) from rfl, g_161 M L 5 (by omega) (by omega) (by omega), b_233_7]
theorem g_233S (V : Vw) (hk : Vk V) (hr : Rv V (M 53) 0) (i r s : Nat) (a : Nat → Int) (hi : i < V.n) (hw : Rr M r s a) (ho : ¬ s % 2 = 0) {d N : Nat} {xs : Nat → Int32} {tb_ : List zz_B} {t_ : Nat} {ls_ : zz_L} {rest_ : List Value} (hd_ : 6 ≤ d) : (zz_o (zz_call_ d 233 [.ref 52, .int (iI i), .int (iI r)] (zm N xs M L)) fun r => zz_X (zz_call_ d) tb_ t_ ls_ (r.1.toList ++ rest_) r.2) = zz_X (zz_call_ d) tb_ t_ ls_ ((.int (iI (-3))) :: rest_) (zm N xs (fndR M 5) L) := (s_233S M L V hk hr i r s a hi hw ho).go hd_
theorem l_233 {d : Nat} (hd : 5 ≤ d) (N : Nat) (xs : Nat → Int32) (i : Int32) (r t : Nat) (a : Nat → Int) (hw : Rr M r (2 * t) a) : ∀ (c k : Nat), k + c = t → zz_X (zz_call_ d) tb_233 9 [some (.ref 52), some (.int i), some (.int (iI r)), some (.int (iI ((2 * k : Nat) : Int)))] [] (zm N xs M L) = if fx (hb a) c k < t then some (some (.int (iI (-3))), zm N xs (fndR M 3) L) else some (some (.int (iI 0)), zm N xs M L)
  | 0, k, hc => by
    have h1 := hw.1
    have h40 := hw.2.1
    rw [b_233_9, ix_nat (by omega) (by omega), o_some, hw.2.2.1, if_pos (by rw [t_le, iI_to (by omega) (by omega), iI_to (by omega) (by omega)]; omega), b_233_15]
    unfold fx
    rw [if_neg (by omega)]
    rfl
  | c + 1, k, hc => by
    have h1 := hw.1
    have h40 := hw.2.1
    have b1 := hw.2.2.2.2 (2 * k)
    have b3 := hw.2.2.2.2 (2 * k + 1)
    have l12 : hb a k → zz_X (zz_call_ d) tb_233 12 [some (.ref 52), some (.int i), some (.int (iI r)), some (.int (iI ((2 * k : Nat) : Int)))] [] (zm N xs M L) = if fx (hb a) (c + 1) k < t then some (some (.int (iI (-3))), zm N xs (fndR M 3) L) else some (some (.int (iI 0)), zm N xs M L) := by
      intro q
      rw [show fx (hb a) (c + 1) k = k from if_pos q, if_pos (by omega), b_233_12, show (3 : Int32) = iI ((3 : Nat) : Int) from rfl, g_161 M L 3 (by omega) (by omega) (by omega), b_233_13]
    rw [b_233_9, ix_nat (by omega) (by omega), o_some, hw.2.2.1, if_neg (by rw [t_le, iI_to (by omega) (by omega), iI_to (by omega) (by omega)]; omega), show (40 : Int32) = iI 40 from rfl, iI_mul, iI_add, show (40 : Int) * (r : Int) + ((2 * k : Nat) : Int) = ((40 * r + 2 * k : Nat) : Int) by omega, ix_nat (by omega) (by omega), o_some, hw.2.2.2.1 (2 * k) (by omega), iI_long b1.1 b1.2, lI_lit, lI_lit, g_157 M L _ 0 60 (by omega) (by omega) (by omega) (by omega) (by omega) (by omega) (by omega), b_233_10]
    by_cases q1 : 0 ≤ a (2 * k) ∧ a (2 * k) ≤ 60
    · rw [b2_t q1, if_neg (show ¬ iI 1 = (0 : Int32) from iI10), show (40 : Int32) = iI 40 from rfl, show (1 : Int32) = iI 1 from rfl, iI_mul, iI_add, iI_add, show (40 : Int) * (r : Int) + ((2 * k : Nat) : Int) + 1 = ((40 * r + (2 * k + 1) : Nat) : Int) by omega, ix_nat (by omega) (by omega), o_some, hw.2.2.2.1 (2 * k + 1) (by omega), iI_long b3.1 b3.2, lI_lit, lI_lit, g_157 M L _ 0 59 (by omega) (by omega) (by omega) (by omega) (by omega) (by omega) (by omega), b_233_11]
      by_cases q3 : 0 ≤ a (2 * k + 1) ∧ a (2 * k + 1) < 60
      · rw [b2_t (show 0 ≤ a (2 * k + 1) ∧ a (2 * k + 1) ≤ 59 by omega), if_neg (show ¬ iI 1 = (0 : Int32) from iI10), b_233_14, c2s, show fx (hb a) (c + 1) k = fx (hb a) c (k + 1) from if_neg (fun e => e ⟨q1, q3⟩)]
        exact l_233 hd N xs i r t a hw c (k + 1) (by omega)
      · rw [b2_f (show ¬ (0 ≤ a (2 * k + 1) ∧ a (2 * k + 1) ≤ 59) by omega), if_pos (show iI 0 = (0 : Int32) from rfl)]
        exact l12 (fun e => q3 e.2)
    · rw [b2_f q1, if_pos (show iI 0 = (0 : Int32) from rfl)]
      exact l12 (fun e => q1 e.1)
theorem h3_233 {d : Nat} (hd : 5 ≤ d) (N : Nat) (xs : Nat → Int32) (V : Vw) (hk : Vk V) (hr : Rv V (M 53) 0) (i r t : Nat) (a : Nat → Int) (hi : i < V.n) (hw : Rr M r (2 * t) a) : zz_X (zz_call_ d) tb_233 0 [some (.ref 52), some (.int (iI i)), some (.int (iI r)), none] [] (zm N xs M L) = if fx (hb a) t 0 < t then some (some (.int (iI (-3))), zm N xs (fndR M 3) L) else some (some (.int (iI 0)), zm N xs M L) := by
  have h1 := hw.1
  rw [h2_233 M L hd N xs V hk hr i r _ a hi hw, b_233_6, ix_nat (by omega) (by omega), o_some, hw.2.2.1, if_pos ((rem2 hw.2.1).2 (by omega)), b_233_8]
  exact l_233 M L hd N xs _ r t a hw t 0 (by omega)
theorem s_233U (V : Vw) (hk : Vk V) (hr : Rv V (M 53) 0) (i r t : Nat) (a : Nat → Int) (hi : i < V.n) (hw : Rr M r (2 * t) a) (hu : fx (hb a) t 0 < t) : zc 6 233 [.ref 52, .int (iI i), .int (iI r)] M L (some (.int (iI (-3)))) (fndR M 3) L := by
  refine zc_of (n := 5) (ls := [some (.ref 52), some (.int (iI i)), some (.int (iI r)), none]) mk_233 rfl rfl rfl rfl (fun d hd N xs => ?_)
  rw [h3_233 M L hd N xs V hk hr i r t a hi hw, if_pos hu]
theorem g_233U (V : Vw) (hk : Vk V) (hr : Rv V (M 53) 0) (i r t : Nat) (a : Nat → Int) (hi : i < V.n) (hw : Rr M r (2 * t) a) (hu : fx (hb a) t 0 < t) {d N : Nat} {xs : Nat → Int32} {tb_ : List zz_B} {t_ : Nat} {ls_ : zz_L} {rest_ : List Value} (hd_ : 6 ≤ d) : (zz_o (zz_call_ d 233 [.ref 52, .int (iI i), .int (iI r)] (zm N xs M L)) fun r => zz_X (zz_call_ d) tb_ t_ ls_ (r.1.toList ++ rest_) r.2) = zz_X (zz_call_ d) tb_ t_ ls_ ((.int (iI (-3))) :: rest_) (zm N xs (fndR M 3) L) := (s_233U M L V hk hr i r t a hi hw hu).go hd_
theorem s_233O (V : Vw) (hk : Vk V) (hr : Rv V (M 53) 0) (i r t : Nat) (a : Nat → Int) (hi : i < V.n) (hw : Rr M r (2 * t) a) (hu : ¬ fx (hb a) t 0 < t) : zc 6 233 [.ref 52, .int (iI i), .int (iI r)] M L (some (.int (iI 0))) M L := by
  refine zc_of (n := 5) (ls := [some (.ref 52), some (.int (iI i)), some (.int (iI r)), none]) mk_233 rfl rfl rfl rfl (fun d hd N xs => ?_)
  rw [h3_233 M L hd N xs V hk hr i r t a hi hw, if_neg hu]
theorem g_233O (V : Vw) (hk : Vk V) (hr : Rv V (M 53) 0) (i r t : Nat) (a : Nat → Int) (hi : i < V.n) (hw : Rr M r (2 * t) a) (hu : ¬ fx (hb a) t 0 < t) {d N : Nat} {xs : Nat → Int32} {tb_ : List zz_B} {t_ : Nat} {ls_ : zz_L} {rest_ : List Value} (hd_ : 6 ≤ d) : (zz_o (zz_call_ d 233 [.ref 52, .int (iI i), .int (iI r)] (zm N xs M L)) fun r => zz_X (zz_call_ d) tb_ t_ ls_ (r.1.toList ++ rest_) r.2) = zz_X (zz_call_ d) tb_ t_ ls_ ((.int (iI 0)) :: rest_) (zm N xs M L) := (s_233O M L V hk hr i r t a hi hw hu).go hd_
theorem l_145 {d : Nat} (hd : 4 ≤ d) (N : Nat) (xs : Nat → Int32) (V : Vw) (hk : Vk V) (hv : Hv V M) (r t : Nat) (a : Nat → Int) (hw : Rw M r (2 * t) a) (hg : ∀ k, k < t → ¬ hb a k) (mi : Int) (kd : Nat) (rt : Int) (hmi : 0 ≤ mi ∧ mi < 60) (hkd : kd < 6) (hrt : -4 ≤ rt ∧ rt ≤ 5) : ∀ (c k : Nat) (o7 o8 : Option Value), k + c = t → cZ (da V a mi kd rt) k = 0 → zz_X (zz_call_ d) tb_145 2 [some (.ref 0), some (.int (iI r)), some (.int (iI mi)), some (.int (iI kd)), some (.int (iI rt)), some (.int (iI ((2 * t : Nat) : Int))), some (.int (iI ((2 * k : Nat) : Int))), o7, o8] [] (zm N xs M L) = some (some (.int (b2 (cZ (da V a mi kd rt) t = 0))), zm N xs M L)
  | 0, k, o7, o8, hc, hz => by
    have h40 := hw.2.1
    rw [b_145_2, c2k, if_pos (by rw [t_le, iI_to (by omega) (by omega), iI_to (by omega) (by omega)]; omega), b_145_9, b2_t (by rw [show t = k by omega]; exact hz)]
    rfl
  | c + 1, k, o7, o8, hc, hz => by
    have h40 := hw.2.1
    have g := Decidable.not_not.1 (hg k (by omega))
    obtain ⟨n, hn⟩ : ∃ n : Nat, a (2 * k) = n := ⟨(a (2 * k)).toNat, by omega⟩
    have hwb := warm_b hk n
    have hgn := @gn_b kd rt n (V.warm n) hrt (by omega) hwb.1
    have hda : da V a mi kd rt k ↔ ¬ (mi + gn kd rt n (V.warm n)) % 60 = a (2 * k + 1) := by
      show ¬ (mi + gn kd rt (a (2 * k)) (V.warm (a (2 * k)).toNat)) % 60 = a (2 * k + 1) ↔ _
      rw [hn, Int.toNat_natCast]
    rw [b_145_2, c2k, if_neg (by rw [t_le, iI_to (by omega) (by omega), iI_to (by omega) (by omega)]; omega), g_16R M L hw (by omega) (by omega), b_145_3, hn, g_43 M L V hk hv n (by omega) (by omega), b_145_4, g_156 M L _ _ _ _ hkd (by omega), b_145_5, iI_add, g_153 M L _ (by omega) (by omega) (by omega), b_145_6, c2k, g_16R M L hw (by omega) (by omega), b_145_7]
    by_cases q : (mi + gn kd rt n (V.warm n)) % 60 = a (2 * k + 1)
    · rw [if_pos (by rw [q]), b_145_8, c2s]
      exact l_145 hd N xs V hk hv r t a hw hg mi kd rt hmi hkd hrt c (k + 1) _ _ (by omega) (by rw [cZ_f (p := da V a mi kd rt) (fun e => hda.1 e q)]; exact hz)
    · have h1 := cZ_mono (da V a mi kd rt) (show k + 1 ≤ t by omega)
      rw [cZ_t (p := da V a mi kd rt) (hda.2 q)] at h1
      rw [if_neg (by rw [t_eq, iI_to (by omega) (by omega), iI_to (by omega) (by omega)]; exact q), b2_f (by omega)]
      rfl
theorem s_145 (V : Vw) (hk : Vk V) (hv : Hv V M) (r t : Nat) (a : Nat → Int) (hw : Rw M r (2 * t) a) (hg : ∀ k, k < t → ¬ hb a k) (mi : Int) (kd : Nat) (rt : Int) (hmi : 0 ≤ mi ∧ mi < 60) (hkd : kd < 6) (hrt : -4 ≤ rt ∧ rt ≤ 5) : zc 6 145 [.ref 0, .int (iI r), .int (iI mi), .int (iI kd), .int (iI rt)] M L (some (.int (b2 (cZ (da V a mi kd rt) t = 0)))) M L := by
  refine zc_of (n := 5) (ls := [some (.ref 0), some (.int (iI r)), some (.int (iI mi)), some (.int (iI kd)), some (.int (iI rt)), none, none, none, none]) mk_145 rfl rfl rfl rfl (fun d hd N xs => ?_)
  have h1 := hw.1
  rw [b_145_0, g_15a M L r (by omega) (by omega) (by omega), Int.toNat_natCast, hw.2.2.1, b_145_1]
  exact l_145 M L (by omega) N xs V hk hv r t a hw hg mi kd rt hmi hkd hrt t 0 none none (by omega) rfl
theorem g_145 (V : Vw) (hk : Vk V) (hv : Hv V M) (r t : Nat) (a : Nat → Int) (hw : Rw M r (2 * t) a) (hg : ∀ k, k < t → ¬ hb a k) (mi : Int) (kd : Nat) (rt : Int) (hmi : 0 ≤ mi ∧ mi < 60) (hkd : kd < 6) (hrt : -4 ≤ rt ∧ rt ≤ 5) {d N : Nat} {xs : Nat → Int32} {tb_ : List zz_B} {t_ : Nat} {ls_ : zz_L} {rest_ : List Value} (hd_ : 6 ≤ d) : (zz_o (zz_call_ d 145 [.ref 0, .int (iI r), .int (iI mi), .int (iI kd), .int (iI rt)] (zm N xs M L)) fun r => zz_X (zz_call_ d) tb_ t_ ls_ (r.1.toList ++ rest_) r.2) = zz_X (zz_call_ d) tb_ t_ ls_ ((.int (b2 (cZ (da V a mi kd rt) t = 0))) :: rest_) (zm N xs M L) := (s_145 M L V hk hv r t a hw hg mi kd rt hmi hkd hrt).go hd_
theorem s_234 (V : Vw) (hk : Vk V) (hr : Rv V (M 53) 0) (h0 : 0 < V.hc) (r t : Nat) (a : Nat → Int) (hw : Rr M r (2 * t) a) (hg : ∀ k, k < t → ¬ hb a k) (kd : Nat) (rt mi : Int) (hmi : 0 ≤ mi ∧ mi < 60) (hkd : kd < 6) (hrt : -4 ≤ rt ∧ rt ≤ 5) : zc 5 234 [.ref 52, .int (iI r), .int (iI kd), .int (iI rt), .int (iI mi)] M L (some (.int (b2 (cZ (da V a mi kd rt) t = 0)))) M L := by
  refine zc_of (n := 4) (ls := [some (.ref 52), some (.int (iI r)), some (.int (iI kd)), some (.int (iI rt)), some (.int (iI mi)), none, none]) mk_234 rfl rfl rfl rfl (fun d hd N xs => ?_)
  have h1 := hw.1
  have h40 := hw.2.1
  rw [b_234_0]
  have hl := upto (fun k : Nat => zz_X (zz_call_ d) tb_234 1 [some (.ref 52), some (.int (iI r)), some (.int (iI kd)), some (.int (iI rt)), some (.int (iI mi)), some (.int (b2 (cZ (da V a mi kd rt) k = 0))), some (.int (iI ((2 * k : Nat) : Int)))] [] (zm N xs M L)) t (fun k hkc => by
    show zz_X (zz_call_ d) tb_234 1 _ _ _ = zz_X (zz_call_ d) tb_234 1 _ _ _
    have g := Decidable.not_not.1 (hg k (by omega))
    obtain ⟨n, hn⟩ : ∃ n : Nat, a (2 * k) = n := ⟨(a (2 * k)).toNat, by omega⟩
    have hwb := warm_b hk n
    have hgn := @gn_b kd rt n (V.warm n) hrt (by omega) hwb.1
    have hda : da V a mi kd rt k ↔ ¬ (mi + gn kd rt n (V.warm n)) % 60 = a (2 * k + 1) := by
      show ¬ (mi + gn kd rt (a (2 * k)) (V.warm (a (2 * k)).toNat)) % 60 = a (2 * k + 1) ↔ _
      rw [hn, Int.toNat_natCast]
    have l5 : ∀ v w : Int32, b2 (cZ (da V a mi kd rt) (k + 1) = 0) = v → zz_X (zz_call_ d) tb_234 5 [some (.ref 52), some (.int (iI r)), some (.int (iI kd)), some (.int (iI rt)), some (.int (iI mi)), some (.int w), some (.int (iI ((2 * k : Nat) : Int)))] [.int v] (zm N xs M L) = zz_X (zz_call_ d) tb_234 1 [some (.ref 52), some (.int (iI r)), some (.int (iI kd)), some (.int (iI rt)), some (.int (iI mi)), some (.int (b2 (cZ (da V a mi kd rt) (k + 1) = 0))), some (.int (iI ((2 * (k + 1) : Nat) : Int)))] [] (zm N xs M L) := by
      intro v w hv
      rw [b_234_5, hv, c2s]
    rw [b_234_1, ix_nat (by omega) (by omega), o_some, hw.2.2.1, if_neg (by rw [t_le, iI_to (by omega) (by omega), iI_to (by omega) (by omega)]; omega)]
    by_cases q0 : cZ (da V a mi kd rt) k = 0
    · rw [if_neg (by rw [b2_t q0]; exact iI10), show (40 : Int32) = iI 40 from rfl, iI_mul, iI_add, show (40 : Int) * (r : Int) + ((2 * k : Nat) : Int) = ((40 * r + 2 * k : Nat) : Int) by omega, ix_nat (by omega) (by omega), o_some, hw.2.2.2.1 (2 * k) (by omega), hn, g_189 M L V hk hr h0 kd rt n hkd (by omega) (by omega), b_234_2, iI_add, g_160 M L _ (by omega) (by omega) (by omega), b_234_3, show (40 : Int32) = iI 40 from rfl, show (1 : Int32) = iI 1 from rfl, iI_mul, iI_add, iI_add, show (40 : Int) * (r : Int) + ((2 * k : Nat) : Int) + 1 = ((40 * r + (2 * k + 1) : Nat) : Int) by omega, ix_nat (by omega) (by omega), o_some, hw.2.2.2.1 (2 * k + 1) (by omega)]
      by_cases q : (mi + gn kd rt n (V.warm n)) % 60 = a (2 * k + 1)
      · rw [if_pos (by rw [q])]
        exact l5 _ _ (by rw [cZ_f (p := da V a mi kd rt) (fun e => hda.1 e q), b2_t q0])
      · rw [if_neg (by rw [t_eq, iI_to (by omega) (by omega), iI_to (by omega) (by omega)]; exact q), b_234_4]
        exact l5 _ _ (by rw [cZ_t (p := da V a mi kd rt) (hda.2 q), b2_f (by omega)]; rfl)
    · have hmo := cZ_mono (da V a mi kd rt) (show k ≤ k + 1 by omega)
      rw [if_pos (by rw [b2_f q0]; rfl), b_234_4]
      exact l5 _ _ (by rw [b2_f (by omega)]; rfl))
  refine Eq.trans hl ?_
  show zz_X (zz_call_ d) tb_234 1 _ _ _ = _
  rw [b_234_1, ix_nat (by omega) (by omega), o_some, hw.2.2.1, if_pos (by rw [t_le]; omega), b_234_6, if_pos (b2_zo _)]
theorem g_234 (V : Vw) (hk : Vk V) (hr : Rv V (M 53) 0) (h0 : 0 < V.hc) (r t : Nat) (a : Nat → Int) (hw : Rr M r (2 * t) a) (hg : ∀ k, k < t → ¬ hb a k) (kd : Nat) (rt mi : Int) (hmi : 0 ≤ mi ∧ mi < 60) (hkd : kd < 6) (hrt : -4 ≤ rt ∧ rt ≤ 5) {d N : Nat} {xs : Nat → Int32} {tb_ : List zz_B} {t_ : Nat} {ls_ : zz_L} {rest_ : List Value} (hd_ : 5 ≤ d) : (zz_o (zz_call_ d 234 [.ref 52, .int (iI r), .int (iI kd), .int (iI rt), .int (iI mi)] (zm N xs M L)) fun r => zz_X (zz_call_ d) tb_ t_ ls_ (r.1.toList ++ rest_) r.2) = zz_X (zz_call_ d) tb_ t_ ls_ ((.int (b2 (cZ (da V a mi kd rt) t = 0))) :: rest_) (zm N xs M L) := (s_234 M L V hk hr h0 r t a hw hg kd rt mi hmi hkd hrt).go hd_
theorem r_126 {x y v : Int32} {M M' : Nat → Nat → Int32} (h : zc 6 144 [.ref 0, .int x, .int y] M L (some (.int v)) M' L) (hv : ¬ v = 0) : zc 8 126 [.ref 0, .int x, .int y] M L (some (.int v)) M' L := by
  refine zc_of (n := 7) (ls := [some (.ref 0), some (.int x), some (.int y), none, none, none]) mk_126 rfl rfl rfl rfl (fun d hd N xs => ?_)
  rw [b_126_0, h.go (by omega), b_126_1, if_neg hv]
theorem r_127 {x y v : Int32} {M M' : Nat → Nat → Int32} (h : zc 6 144 [.ref 0, .int x, .int y] M L (some (.int v)) M' L) (hv : ¬ v = 0) : zc 8 127 [.ref 0, .int x, .int y] M L (some (.int v)) M' L := by
  refine zc_of (n := 7) (ls := [some (.ref 0), some (.int x), some (.int y), none, none, none]) mk_127 rfl rfl rfl rfl (fun d hd N xs => ?_)
  rw [b_127_0, h.go (by omega), b_127_1, if_neg hv]
theorem r_128 {x y v : Int32} {M M' : Nat → Nat → Int32} (h : zc 6 144 [.ref 0, .int x, .int y] M L (some (.int v)) M' L) (hv : ¬ v = 0) : zc 8 128 [.ref 0, .int x, .int y] M L (some (.int v)) M' L := by
  refine zc_of (n := 7) (ls := [some (.ref 0), some (.int x), some (.int y), none, none, none, none]) mk_128 rfl rfl rfl rfl (fun d hd N xs => ?_)
  rw [b_128_0, h.go (by omega), b_128_1, if_neg hv]
theorem r_235 {x y v : Int32} {M M' : Nat → Nat → Int32} (h : zc 6 233 [.ref 52, .int x, .int y] M L (some (.int v)) M' L) (hv : ¬ 0 ≤ v) : zc 8 235 [.ref 52, .int x, .int y] M L (some (.int v)) M' L := by
  refine zc_of (n := 7) (ls := [some (.ref 52), some (.int x), some (.int y), none, none, none]) mk_235 rfl rfl rfl rfl (fun d hd N xs => ?_)
  rw [b_235_0, h.go (by omega), b_235_1, if_neg hv]
theorem r_236 {x y v : Int32} {M M' : Nat → Nat → Int32} (h : zc 6 233 [.ref 52, .int x, .int y] M L (some (.int v)) M' L) (hv : ¬ 0 ≤ v) : zc 8 236 [.ref 52, .int x, .int y] M L (some (.int v)) M' L := by
  refine zc_of (n := 7) (ls := [some (.ref 52), some (.int x), some (.int y), none, none, none]) mk_236 rfl rfl rfl rfl (fun d hd N xs => ?_)
  rw [b_236_0, h.go (by omega), b_236_1, if_neg hv]
theorem r_237 {x y v : Int32} {M M' : Nat → Nat → Int32} (h : zc 6 233 [.ref 52, .int x, .int y] M L (some (.int v)) M' L) (hv : ¬ 0 ≤ v) : zc 8 237 [.ref 52, .int x, .int y] M L (some (.int v)) M' L := by
  refine zc_of (n := 7) (ls := [some (.ref 52), some (.int x), some (.int y), none, none, none, none, none]) mk_237 rfl rfl rfl rfl (fun d hd N xs => ?_)
  rw [b_237_0, h.go (by omega), b_237_1, if_neg hv]
end ZR

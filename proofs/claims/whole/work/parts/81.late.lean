/-! late, of both. -/
def Rw (M : Nat → Nat → Int32) (r s : Nat) (a : Nat → Int) : Prop := r < 6 ∧ s ≤ 40 ∧ M 9 r = iI s ∧ (∀ i, i < s → M (3 + r) i = iI (a i)) ∧ (∀ q, q < 6 → (M 9 q).toInt ≤ 40) ∧ ∀ i, -2147483648 ≤ a i ∧ a i ≤ 2147483647
def Rr (M : Nat → Nat → Int32) (r s : Nat) (a : Nat → Int) : Prop := r < 6 ∧ s ≤ 40 ∧ M 56 r = iI s ∧ (∀ i, i < s → M 55 (40 * r + i) = iI (a i)) ∧ ∀ i, -2147483648 ≤ a i ∧ a i ≤ 2147483647
theorem RW.get {M : Nat → Nat → Int32} (h : RW M) {r : Nat} (hr : r < 6) (hn : (M 9 r).toInt ≠ -1) : ∃ s a, Rw M r s a ∧ Rr M r s a := by
  obtain ⟨h1, h2, h3, h4⟩ := h r hr
  have hs : M 9 r = iI (((M 9 r).toInt.toNat : Nat) : Int) := by
    have e : (((M 9 r).toInt.toNat : Nat) : Int) = (M 9 r).toInt := by omega
    rw [e, i_t]
  have e31 : (2 : Int) ^ 31 = 2147483648 := by decide
  have hb : ∀ i, -2147483648 ≤ (M (3 + r) i).toInt ∧ (M (3 + r) i).toInt ≤ 2147483647 := fun i => by
    have a1 := Int32.le_toInt (M (3 + r) i)
    have a2 := Int32.toInt_lt (M (3 + r) i)
    omega
  refine ⟨(M 9 r).toInt.toNat, fun i => (M (3 + r) i).toInt, ⟨hr, by omega, hs, fun i _ => (i_t _).symm, fun q hq => (h q hq).2.2.1, hb⟩, ⟨hr, by omega, by rw [h1]; exact hs, fun i hi => ?_, hb⟩⟩
  rw [h4 i (by omega), i_t]
theorem Rr.cg {M M' : Nat → Nat → Int32} {r s : Nat} {a : Nat → Int} (h : Rr M r s a) (e1 : M' 55 = M 55) (e2 : M' 56 = M 56) : Rr M' r s a := by
  obtain ⟨h1, h2, h3, h4, h5⟩ := h
  exact ⟨h1, h2, by rw [e2]; exact h3, fun i hi => by rw [e1]; exact h4 i hi, h5⟩
theorem RW.no {M : Nat → Nat → Int32} (h : RW M) {r : Nat} (hr : r < 6) (hn : (M 9 r).toInt = -1) : (M 56 r).toInt < 0 := by
  rw [(h r hr).1, hn]
  omega
abbrev bdM (a : Nat → Int) (i : Nat) : Prop := ¬ (0 ≤ a i ∧ a i < 60)
abbrev ofL (V : Vw) (a : Nat → Int) (i : Nat) : Int := (a i - V.minute i) % 60
abbrev ltS (V : Vw) (a : Nat → Int) (i : Nat) : Prop := ofL V a i ≠ 0
abbrev ltO (V : Vw) (a : Nat → Int) (i : Nat) : Prop := 5 < ofL V a i ∧ ofL V a i < 55
section ZR
variable (M : Nat → Nat → Int32) (L : Nat → Nat → Int64)
theorem g_16R {r s i : Nat} {a : Nat → Int} (h : Rw M r s a) (hi : i < s) {d N : Nat} {xs : Nat → Int32} {tb_ : List zz_B} {t_ : Nat} {ls_ : zz_L} {rest_ : List Value} (hd_ : 4 ≤ d) : (zz_o (zz_call_ d 16 [.ref 1, .int (iI r), .int (iI i)] (zm N xs M L)) fun q => zz_X (zz_call_ d) tb_ t_ ls_ (q.1.toList ++ rest_) q.2) = zz_X (zz_call_ d) tb_ t_ ls_ ((.int (iI (a i))) :: rest_) (zm N xs M L) := by
  obtain ⟨h1, h2, h3, h4, h5, h6⟩ := h
  have g := g_16a (d := d) (N := N) (xs := xs) (tb_ := tb_) (t_ := t_) (ls_ := ls_) (rest_ := rest_) M L r i (by omega) (by omega) (by omega) (by omega) h5 hd_
  rw [if_pos (by rw [Int.toNat_natCast, h3, iI_to (by omega) (by omega)]; omega), Int.toNat_natCast, Int.toNat_natCast, h4 i hi] at g
  exact g
theorem s_125B (z : Int) (h1 : -2147483648 ≤ z) (h2 : z ≤ 2147483647) (h : ¬ (0 ≤ z ∧ z < 6)) : zc 8 125 [.ref 0, .int (iI z)] M L (some (.int (iI (-1)))) M L := by
  refine zc_of (n := 7) (ls := [some (.ref 0), some (.int (iI z)), none]) mk_125 rfl rfl rfl rfl (fun d hd N xs => ?_)
  rw [b_125_0, g_11a M L z h1 h2 (by omega), b2_f h, b_125_1, if_pos (show iI 0 = (0 : Int32) from rfl)]
  rfl
theorem g_125B (z : Int) (h1 : -2147483648 ≤ z) (h2 : z ≤ 2147483647) (h : ¬ (0 ≤ z ∧ z < 6)) {d N : Nat} {xs : Nat → Int32} {tb_ : List zz_B} {t_ : Nat} {ls_ : zz_L} {rest_ : List Value} (hd_ : 8 ≤ d) : (zz_o (zz_call_ d 125 [.ref 0, .int (iI z)] (zm N xs M L)) fun r => zz_X (zz_call_ d) tb_ t_ ls_ (r.1.toList ++ rest_) r.2) = zz_X (zz_call_ d) tb_ t_ ls_ ((.int (iI (-1))) :: rest_) (zm N xs M L) := (s_125B M L z h1 h2 h).go hd_
theorem s_125Z (z : Int) (h : 0 ≤ z ∧ z < 6) (h0 : M 23 10 = iI 0) : zc 8 125 [.ref 0, .int (iI z)] M L (some (.int (iI (-4)))) M L := by
  refine zc_of (n := 7) (ls := [some (.ref 0), some (.int (iI z)), none]) mk_125 rfl rfl rfl rfl (fun d hd N xs => ?_)
  rw [b_125_0, g_11a M L z (by omega) (by omega) (by omega), b2_t h, b_125_1, if_neg (show ¬ iI 1 = (0 : Int32) from iI10), b_125_2, h0, if_pos (show iI 0 = (0 : Int32) from rfl)]
  rfl
theorem g_125Z (z : Int) (h : 0 ≤ z ∧ z < 6) (h0 : M 23 10 = iI 0) {d N : Nat} {xs : Nat → Int32} {tb_ : List zz_B} {t_ : Nat} {ls_ : zz_L} {rest_ : List Value} (hd_ : 8 ≤ d) : (zz_o (zz_call_ d 125 [.ref 0, .int (iI z)] (zm N xs M L)) fun r => zz_X (zz_call_ d) tb_ t_ ls_ (r.1.toList ++ rest_) r.2) = zz_X (zz_call_ d) tb_ t_ ls_ ((.int (iI (-4))) :: rest_) (zm N xs M L) := (s_125Z M L z h h0).go hd_
theorem s_125N (V : Vw) (hk : Vk V) (hv : Hv V M) (hn0 : V.n ≠ 0) (r : Nat) (h : r < 6) (hm : (M 9 r).toInt = -1) : zc 8 125 [.ref 0, .int (iI r)] M L (some (.int (iI (-3)))) (fnd M 1) L := by
  refine zc_of (n := 7) (ls := [some (.ref 0), some (.int (iI r)), none]) mk_125 rfl rfl rfl rfl (fun d hd N xs => ?_)
  have hn := hk.n
  rw [b_125_0, g_11a M L r (by omega) (by omega) (by omega), b2_t (by omega), b_125_1, if_neg (show ¬ iI 1 = (0 : Int32) from iI10), b_125_2, hv.n, if_neg (by rw [t_eq, iI_to (by omega) (by omega), show (0 : Int32).toInt = 0 from rfl]; omega), b_125_3, g_12a M L r (by omega) (by omega) (by omega), b2_f (by rw [Int.toNat_natCast]; exact fun e => e.2 hm), b_125_4, if_pos (show iI 0 = (0 : Int32) from rfl), show (1 : Int32) = iI ((1 : Nat) : Int) from rfl, g_141 M L 1 (by omega) (by omega) (by omega), b_125_5]
theorem g_125N (V : Vw) (hk : Vk V) (hv : Hv V M) (hn0 : V.n ≠ 0) (r : Nat) (h : r < 6) (hm : (M 9 r).toInt = -1) {d N : Nat} {xs : Nat → Int32} {tb_ : List zz_B} {t_ : Nat} {ls_ : zz_L} {rest_ : List Value} (hd_ : 8 ≤ d) : (zz_o (zz_call_ d 125 [.ref 0, .int (iI r)] (zm N xs M L)) fun r => zz_X (zz_call_ d) tb_ t_ ls_ (r.1.toList ++ rest_) r.2) = zz_X (zz_call_ d) tb_ t_ ls_ ((.int (iI (-3))) :: rest_) (zm N xs (fnd M 1) L) := (s_125N M L V hk hv hn0 r h hm).go hd_
theorem h_125 {d : Nat} (hd : 7 ≤ d) (N : Nat) (xs : Nat → Int32) (V : Vw) (hk : Vk V) (hv : Hv V M) (hn0 : V.n ≠ 0) (r s : Nat) (a : Nat → Int) (hw : Rw M r s a) : zz_X (zz_call_ d) tb_125 0 [some (.ref 0), some (.int (iI r)), none] [] (zm N xs M L) = zz_X (zz_call_ d) tb_125 7 [some (.ref 0), some (.int (iI r)), none] [.int (iI s)] (zm N xs M L) := by
  have hn := hk.n
  obtain ⟨h1, h2, h3, h4, h5, h6⟩ := hw
  rw [b_125_0, g_11a M L r (by omega) (by omega) (by omega), b2_t (by omega), b_125_1, if_neg (show ¬ iI 1 = (0 : Int32) from iI10), b_125_2, hv.n, if_neg (by rw [t_eq, iI_to (by omega) (by omega), show (0 : Int32).toInt = 0 from rfl]; omega), b_125_3, g_12a M L r (by omega) (by omega) (by omega), b2_t (by rw [Int.toNat_natCast, h3, iI_to (by omega) (by omega)]; omega), b_125_4, if_neg (show ¬ iI 1 = (0 : Int32) from iI10), b_125_6, g_15a M L r (by omega) (by omega) (by omega), Int.toNat_natCast, h3]
theorem s_125S (V : Vw) (hk : Vk V) (hv : Hv V M) (hn0 : V.n ≠ 0) (r s : Nat) (a : Nat → Int) (hw : Rw M r s a) (hs : s ≠ V.n) : zc 8 125 [.ref 0, .int (iI r)] M L (some (.int (iI (-3)))) (fnd M 5) L := by
  refine zc_of (n := 7) (ls := [some (.ref 0), some (.int (iI r)), none]) mk_125 rfl rfl rfl rfl (fun d hd N xs => ?_)
  have hn := hk.n
  have h2 := hw.2.1
  rw [h_125 M L hd N xs V hk hv hn0 r s a hw, b_125_7, hv.n, if_neg (by rw [t_eq, iI_to (by omega) (by omega), iI_to (by omega) (by omega)]; omega), show (5 : Int32) = iI ((5 : Nat) : Int) from rfl, g_141 M L 5 (by omega) (by omega) (by omega), b_125_8]
theorem g_125S (V : Vw) (hk : Vk V) (hv : Hv V M) (hn0 : V.n ≠ 0) (r s : Nat) (a : Nat → Int) (hw : Rw M r s a) (hs : s ≠ V.n) {d N : Nat} {xs : Nat → Int32} {tb_ : List zz_B} {t_ : Nat} {ls_ : zz_L} {rest_ : List Value} (hd_ : 8 ≤ d) : (zz_o (zz_call_ d 125 [.ref 0, .int (iI r)] (zm N xs M L)) fun r => zz_X (zz_call_ d) tb_ t_ ls_ (r.1.toList ++ rest_) r.2) = zz_X (zz_call_ d) tb_ t_ ls_ ((.int (iI (-3))) :: rest_) (zm N xs (fnd M 5) L) := (s_125S M L V hk hv hn0 r s a hw hs).go hd_
theorem l_125 {d : Nat} (hd : 7 ≤ d) (N : Nat) (xs : Nat → Int32) (V : Vw) (hk : Vk V) (hv : Hv V M) (r : Nat) (a : Nat → Int) (hw : Rw M r V.n a) : ∀ c i : Nat, i + c = V.n → zz_X (zz_call_ d) tb_125 10 [some (.ref 0), some (.int (iI r)), some (.int (iI i))] [] (zm N xs M L) = if fx (bdM a) c i < V.n then some (some (.int (iI (-3))), zm N xs (fnd M 3) L) else zz_X (zz_call_ d) tb_125 15 [some (.ref 0), some (.int (iI r)), some (.int (iI V.n))] [] (zm N xs M L)
  | 0, i, hc => by
    have hn := hk.n
    rw [b_125_10, hv.n, if_pos (by rw [t_le, iI_to (by omega) (by omega), iI_to (by omega) (by omega)]; omega)]
    unfold fx
    rw [if_neg (by omega), show i = V.n by omega]
  | c + 1, i, hc => by
    have hn := hk.n
    have hb := hw.2.2.2.2.2 i
    rw [b_125_10, hv.n, if_neg (by rw [t_le, iI_to (by omega) (by omega), iI_to (by omega) (by omega)]; omega), g_16R M L hw (by omega) (by omega), b_125_11, g_150 M L _ hb.1 hb.2 (by omega), b_125_12]
    by_cases q : 0 ≤ a i ∧ a i < 60
    · rw [b2_t q, if_neg (show ¬ iI 1 = (0 : Int32) from iI10), show fx (bdM a) (c + 1) i = fx (bdM a) c (i + 1) from if_neg (fun e => e q), b_125_14, show (1 : Int32) = iI 1 from rfl, iI_add]
      exact l_125 hd N xs V hk hv r a hw c (i + 1) (by omega)
    · rw [b2_f q, if_pos (show iI 0 = (0 : Int32) from rfl), show fx (bdM a) (c + 1) i = i from if_pos q, if_pos (by omega), show (3 : Int32) = iI ((3 : Nat) : Int) from rfl, g_141 M L 3 (by omega) (by omega) (by omega), b_125_13]
theorem s_125U (V : Vw) (hk : Vk V) (hv : Hv V M) (hn0 : V.n ≠ 0) (r : Nat) (a : Nat → Int) (hw : Rw M r V.n a) (hu : fx (bdM a) V.n 0 < V.n) : zc 8 125 [.ref 0, .int (iI r)] M L (some (.int (iI (-3)))) (fnd M 3) L := by
  refine zc_of (n := 7) (ls := [some (.ref 0), some (.int (iI r)), none]) mk_125 rfl rfl rfl rfl (fun d hd N xs => ?_)
  have hn := hk.n
  have hl := l_125 M L hd N xs V hk hv r a hw V.n 0 (by omega)
  rw [if_pos hu] at hl
  rw [h_125 M L hd N xs V hk hv hn0 r V.n a hw, b_125_7, hv.n, if_pos rfl, b_125_9]
  exact hl
theorem g_125U (V : Vw) (hk : Vk V) (hv : Hv V M) (hn0 : V.n ≠ 0) (r : Nat) (a : Nat → Int) (hw : Rw M r V.n a) (hu : fx (bdM a) V.n 0 < V.n) {d N : Nat} {xs : Nat → Int32} {tb_ : List zz_B} {t_ : Nat} {ls_ : zz_L} {rest_ : List Value} (hd_ : 8 ≤ d) : (zz_o (zz_call_ d 125 [.ref 0, .int (iI r)] (zm N xs M L)) fun r => zz_X (zz_call_ d) tb_ t_ ls_ (r.1.toList ++ rest_) r.2) = zz_X (zz_call_ d) tb_ t_ ls_ ((.int (iI (-3))) :: rest_) (zm N xs (fnd M 3) L) := (s_125U M L V hk hv hn0 r a hw hu).go hd_
theorem l_146 {d : Nat} (hd : 4 ≤ d) (N : Nat) (xs : Nat → Int32) (V : Vw) (hk : Vk V) (hv : Hv V M) (r : Nat) (a : Nat → Int) (hw : Rw M r V.n a) (hu : ∀ i, i < V.n → 0 ≤ a i ∧ a i < 60) : ∀ (c i : Nat) (o : Option Value), i + c = V.n → zz_X (zz_call_ d) tb_146 1 [some (.ref 0), some (.int (iI r)), some (.int (iI (bS (ltS V a) i))), some (.int (b2 (cZ (ltO V a) i = 0))), some (.int (iI i)), o] [] (zm N xs M L) = some (some (.int (iI (bS (ltS V a) V.n))), zm N xs (zz_wI M 0 10 (b2 (cZ (ltO V a) V.n = 0))) L)
  | 0, i, o, hc => by
    have hn := hk.n
    rw [b_146_1, hv.n, if_pos (by rw [t_le, iI_to (by omega) (by omega), iI_to (by omega) (by omega)]; omega), b_146_7, show i = V.n by omega]
  | c + 1, i, o, hc => by
    have hn := hk.n
    have hai := hu i (by omega)
    have hm := hk.minute i
    have hb := bS_64 (ltS V a) (n := i) (by omega)
    have hs := sh_lt (j := i) (by omega)
    have hof : ofL V a i = (a i - V.minute i) % 60 := rfl
    have ih := fun o => l_146 hd N xs V hk hv r a hw hu c (i + 1) o (by omega)
    have es : bS (ltS V a) (i + 1) = if ltS V a i then bS (ltS V a) i ||| (1 <<< i) else bS (ltS V a) i := rfl
    rw [b_146_1, hv.n, if_neg (by rw [t_le, iI_to (by omega) (by omega), iI_to (by omega) (by omega)]; omega), g_16R M L hw (by omega) (by omega), b_146_2, show (0 : Int32) = iI 0 from rfl, g_44 M L V hk hv i 0 0 (by omega) (by omega) (by omega) (by omega) (by omega) (by omega), gn_0, Int.add_zero, mod60 hm.1 hm.2, b_146_3, iI_sub, g_153 M L _ (by omega) (by omega) (by omega), b_146_4]
    have l5 : ∀ x : Nat, bS (ltS V a) (i + 1) = x → zz_X (zz_call_ d) tb_146 5 [some (.ref 0), some (.int (iI r)), some (.int (iI x)), some (.int (b2 (cZ (ltO V a) i = 0))), some (.int (iI i)), some (.int (iI ((a i - V.minute i) % 60)))] [] (zm N xs M L) = some (some (.int (iI (bS (ltS V a) V.n))), zm N xs (zz_wI M 0 10 (b2 (cZ (ltO V a) V.n = 0))) L) := by
      intro x hx
      rw [b_146_5, show (5 : Int32) = iI 5 from rfl, show (55 : Int32) = iI 55 from rfl]
      simp only [t_le]
      rw [iI_to (by omega) (by omega), iI_to (by omega) (by omega), iI_to (by omega) (by omega)]
      have l6 : ∀ y : Int32, b2 (cZ (ltO V a) (i + 1) = 0) = y → zz_X (zz_call_ d) tb_146 6 [some (.ref 0), some (.int (iI r)), some (.int (iI x)), some (.int y), some (.int (iI i)), some (.int (iI ((a i - V.minute i) % 60)))] [] (zm N xs M L) = some (some (.int (iI (bS (ltS V a) V.n))), zm N xs (zz_wI M 0 10 (b2 (cZ (ltO V a) V.n = 0))) L) := by
        intro y hy
        rw [b_146_6, ← hx, ← hy, show (1 : Int32) = iI 1 from rfl, iI_add]
        exact ih _
      by_cases q1 : (a i - V.minute i) % 60 ≤ 5
      · rw [if_pos q1]
        exact l6 _ (by rw [cZ_f (p := ltO V a) (fun e => by have := e.1; omega)])
      · rw [if_neg q1]
        by_cases q2 : 55 ≤ (a i - V.minute i) % 60
        · rw [if_pos q2]
          exact l6 _ (by rw [cZ_f (p := ltO V a) (fun e => by have := e.2; omega)])
        · rw [if_neg q2]
          exact l6 _ (by rw [cZ_t (p := ltO V a) ⟨by omega, by omega⟩, b2_f (by omega)]; rfl)
    by_cases q : (a i - V.minute i) % 60 = 0
    · rw [if_pos (by rw [q]; rfl)]
      exact l5 _ (by rw [es, if_neg (fun e => e q)])
    · rw [if_neg (by rw [t_eq, iI_to (by omega) (by omega), show (0 : Int32).toInt = 0 from rfl]; exact q), iN_shl (by omega), iN_or (by omega) (by omega)]
      exact l5 _ (by rw [es, if_pos q])
theorem s_125O (V : Vw) (hk : Vk V) (hv : Hv V M) (hn0 : V.n ≠ 0) (r : Nat) (a : Nat → Int) (hw : Rw M r V.n a) (hu : ¬ fx (bdM a) V.n 0 < V.n) : zc 8 125 [.ref 0, .int (iI r)] M L (some (.int (iI (bS (ltS V a) V.n)))) (zz_wI M 0 10 (b2 (cZ (ltO V a) V.n = 0))) L := by
  refine zc_of (n := 7) (ls := [some (.ref 0), some (.int (iI r)), none]) mk_125 rfl rfl rfl rfl (fun d hd N xs => ?_)
  have hn := hk.n
  have hl := l_125 M L hd N xs V hk hv r a hw V.n 0 (by omega)
  rw [if_neg hu] at hl
  have hg : ∀ i, i < V.n → 0 ≤ a i ∧ a i < 60 := fun i hi => by
    have := fx_le (bdM a) V.n 0
    have e := fx_min (p := bdM a) V.n 0 i (by omega) (by omega)
    omega
  rw [h_125 M L hd N xs V hk hv hn0 r V.n a hw, b_125_7, hv.n, if_pos rfl, b_125_9]
  refine Eq.trans hl ?_
  have c : zc 6 146 [.ref 0, .int (iI r)] M L (some (.int (iI (bS (ltS V a) V.n)))) (zz_wI M 0 10 (b2 (cZ (ltO V a) V.n = 0))) L := by
    refine zc_of (n := 5) (ls := [some (.ref 0), some (.int (iI r)), none, none, none, none]) mk_146 rfl rfl rfl rfl (fun d hd N xs => ?_)
    rw [b_146_0]
    exact l_146 M L (by omega) N xs V hk hv r a hw hg V.n 0 none (by omega)
  rw [b_125_15, c.go (by omega), b_125_16]
theorem g_125O (V : Vw) (hk : Vk V) (hv : Hv V M) (hn0 : V.n ≠ 0) (r : Nat) (a : Nat → Int) (hw : Rw M r V.n a) (hu : ¬ fx (bdM a) V.n 0 < V.n) {d N : Nat} {xs : Nat → Int32} {tb_ : List zz_B} {t_ : Nat} {ls_ : zz_L} {rest_ : List Value} (hd_ : 8 ≤ d) : (zz_o (zz_call_ d 125 [.ref 0, .int (iI r)] (zm N xs M L)) fun r => zz_X (zz_call_ d) tb_ t_ ls_ (r.1.toList ++ rest_) r.2) = zz_X (zz_call_ d) tb_ t_ ls_ ((.int (iI (bS (ltS V a) V.n))) :: rest_) (zm N xs (zz_wI M 0 10 (b2 (cZ (ltO V a) V.n = 0))) L) := (s_125O M L V hk hv hn0 r a hw hu).go hd_
theorem s_232B (z : Int) (h1 : -2147483648 ≤ z) (h2 : z ≤ 2147483647) (h : ¬ (0 ≤ z ∧ z < 6)) : zc 6 232 [.ref 52, .int (iI z)] M L (some (.int (iI (-1)))) M L := by
  refine zc_of (n := 5) (ls := [some (.ref 52), some (.int (iI z)), none, none, none, none, none]) mk_232 rfl rfl rfl rfl (fun d hd N xs => ?_)
  rw [b_232_0, g_164 M L z h1 h2 (by omega), b2_f h, b_232_1, if_pos (show iI 0 = (0 : Int32) from rfl)]
  rfl
theorem g_232B (z : Int) (h1 : -2147483648 ≤ z) (h2 : z ≤ 2147483647) (h : ¬ (0 ≤ z ∧ z < 6)) {d N : Nat} {xs : Nat → Int32} {tb_ : List zz_B} {t_ : Nat} {ls_ : zz_L} {rest_ : List Value} (hd_ : 6 ≤ d) : (zz_o (zz_call_ d 232 [.ref 52, .int (iI z)] (zm N xs M L)) fun r => zz_X (zz_call_ d) tb_ t_ ls_ (r.1.toList ++ rest_) r.2) = zz_X (zz_call_ d) tb_ t_ ls_ ((.int (iI (-1))) :: rest_) (zm N xs M L) := (s_232B M L z h1 h2 h).go hd_
theorem s_232Z (z : Int) (h : 0 ≤ z ∧ z < 6) (h0 : M 53 0 = iI 0) : zc 6 232 [.ref 52, .int (iI z)] M L (some (.int (iI (-4)))) M L := by
  refine zc_of (n := 5) (ls := [some (.ref 52), some (.int (iI z)), none, none, none, none, none]) mk_232 rfl rfl rfl rfl (fun d hd N xs => ?_)
  rw [b_232_0, g_164 M L z (by omega) (by omega) (by omega), b2_t h, b_232_1, if_neg (show ¬ iI 1 = (0 : Int32) from iI10), b_232_2, h0, if_pos (show iI 0 = (0 : Int32) from rfl)]
  rfl
theorem g_232Z (z : Int) (h : 0 ≤ z ∧ z < 6) (h0 : M 53 0 = iI 0) {d N : Nat} {xs : Nat → Int32} {tb_ : List zz_B} {t_ : Nat} {ls_ : zz_L} {rest_ : List Value} (hd_ : 6 ≤ d) : (zz_o (zz_call_ d 232 [.ref 52, .int (iI z)] (zm N xs M L)) fun r => zz_X (zz_call_ d) tb_ t_ ls_ (r.1.toList ++ rest_) r.2) = zz_X (zz_call_ d) tb_ t_ ls_ ((.int (iI (-4))) :: rest_) (zm N xs M L) := (s_232Z M L z h h0).go hd_
theorem s_232N (V : Vw) (hk : Vk V) (hr : Rv V (M 53) 0) (hn0 : V.n ≠ 0) (r : Nat) (h : r < 6) (hm : (M 56 r).toInt < 0) : zc 6 232 [.ref 52, .int (iI r)] M L (some (.int (iI (-3)))) (fndR M 1) L := by
  refine zc_of (n := 5) (ls := [some (.ref 52), some (.int (iI r)), none, none, none, none, none]) mk_232 rfl rfl rfl rfl (fun d hd N xs => ?_)
  have hn := hk.n
  have e0 : M 53 0 = iI V.n := hr.n
  rw [b_232_0, g_164 M L r (by omega) (by omega) (by omega), b2_t (by omega), b_232_1, if_neg (show ¬ iI 1 = (0 : Int32) from iI10), b_232_2, e0, if_neg (by rw [t_eq, iI_to (by omega) (by omega), show (0 : Int32).toInt = 0 from rfl]; omega), b_232_3, ix_nat (by omega) (by omega), o_some, if_neg (by rw [t_le, show (0 : Int32).toInt = 0 from rfl]; omega), show (1 : Int32) = iI ((1 : Nat) : Int) from rfl, g_161 M L 1 (by omega) (by omega) (by omega), b_232_4]
theorem g_232N (V : Vw) (hk : Vk V) (hr : Rv V (M 53) 0) (hn0 : V.n ≠ 0) (r : Nat) (h : r < 6) (hm : (M 56 r).toInt < 0) {d N : Nat} {xs : Nat → Int32} {tb_ : List zz_B} {t_ : Nat} {ls_ : zz_L} {rest_ : List Value} (hd_ : 6 ≤ d) : (zz_o (zz_call_ d 232 [.ref 52, .int (iI r)] (zm N xs M L)) fun r => zz_X (zz_call_ d) tb_ t_ ls_ (r.1.toList ++ rest_) r.2) = zz_X (zz_call_ d) tb_ t_ ls_ ((.int (iI (-3))) :: rest_) (zm N xs (fndR M 1) L) := (s_232N M L V hk hr hn0 r h hm).go hd_
theorem h_232 {d : Nat} (hd : 5 ≤ d) (N : Nat) (xs : Nat → Int32) (V : Vw) (hk : Vk V) (hr : Rv V (M 53) 0) (hn0 : V.n ≠ 0) (r s : Nat) (a : Nat → Int) (hw : Rr M r s a) : zz_X (zz_call_ d) tb_232 0 [some (.ref 52), some (.int (iI r)), none, none, none, none, none] [] (zm N xs M L) = zz_X (zz_call_ d) tb_232 5 [some (.ref 52), some (.int (iI r)), none, none, none, none, none] [] (zm N xs M L) := by
  have hn := hk.n
  have e0 : M 53 0 = iI V.n := hr.n
  obtain ⟨h1, h2, h3, h4, h6⟩ := hw
  rw [b_232_0, g_164 M L r (by omega) (by omega) (by omega), b2_t (by omega), b_232_1, if_neg (show ¬ iI 1 = (0 : Int32) from iI10), b_232_2, e0, if_neg (by rw [t_eq, iI_to (by omega) (by omega), show (0 : Int32).toInt = 0 from rfl]; omega), b_232_3, ix_nat (by omega) (by omega), o_some, h3, if_pos (by rw [t_le, show (0 : Int32).toInt = 0 from rfl, iI_to (by omega) (by omega)]; omega)]
theorem s_232S (V : Vw) (hk : Vk V) (hr : Rv V (M 53) 0) (hn0 : V.n ≠ 0) (r s : Nat) (a : Nat → Int) (hw : Rr M r s a) (hs : s ≠ V.n) : zc 6 232 [.ref 52, .int (iI r)] M L (some (.int (iI (-3)))) (fndR M 5) L := by
  refine zc_of (n := 5) (ls := [some (.ref 52), some (.int (iI r)), none, none, none, none, none]) mk_232 rfl rfl rfl rfl (fun d hd N xs => ?_)
  have hn := hk.n
  have e0 : M 53 0 = iI V.n := hr.n
  have h1 := hw.1
  have h2 := hw.2.1
  rw [h_232 M L hd N xs V hk hr hn0 r s a hw, b_232_5, ix_nat (by omega) (by omega), o_some, hw.2.2.1, e0, if_neg (by rw [t_eq, iI_to (by omega) (by omega), iI_to (by omega) (by omega)]; omega), show (5 : Int32) = iI ((5 : Nat) : Int) from rfl, g_161 M L 5 (by omega) (by omega) (by omega), b_232_6]
theorem g_232S (V : Vw) (hk : Vk V) (hr : Rv V (M 53) 0) (hn0 : V.n ≠ 0) (r s : Nat) (a : Nat → Int) (hw : Rr M r s a) (hs : s ≠ V.n) {d N : Nat} {xs : Nat → Int32} {tb_ : List zz_B} {t_ : Nat} {ls_ : zz_L} {rest_ : List Value} (hd_ : 6 ≤ d) : (zz_o (zz_call_ d 232 [.ref 52, .int (iI r)] (zm N xs M L)) fun r => zz_X (zz_call_ d) tb_ t_ ls_ (r.1.toList ++ rest_) r.2) = zz_X (zz_call_ d) tb_ t_ ls_ ((.int (iI (-3))) :: rest_) (zm N xs (fndR M 5) L) := (s_232S M L V hk hr hn0 r s a hw hs).go hd_
theorem l_232 {d : Nat} (hd : 5 ≤ d) (N : Nat) (xs : Nat → Int32) (V : Vw) (hk : Vk V) (hr : Rv V (M 53) 0) (r : Nat) (a : Nat → Int) (hw : Rr M r V.n a) : ∀ (c i : Nat) (o5 o6 : Option Value), i + c = V.n → zz_X (zz_call_ d) tb_232 8 [some (.ref 52), some (.int (iI r)), some (.int (iI (bS (ltS V a) i))), some (.int (b2 (cZ (ltO V a) i = 0))), some (.int (iI i)), o5, o6] [] (zm N xs M L) = if fx (bdM a) c i < V.n then some (some (.int (iI (-3))), zm N xs (fndR M 3) L) else some (some (.int (iI (bS (ltS V a) V.n))), zm N xs (zz_wI M 52 10 (b2 (cZ (ltO V a) V.n = 0))) L)
  | 0, i, o5, o6, hc => by
    have hn := hk.n
    have e0 : M 53 0 = iI V.n := hr.n
    rw [b_232_8, e0, if_pos (by rw [t_le, iI_to (by omega) (by omega), iI_to (by omega) (by omega)]; omega)]
    unfold fx
    rw [if_neg (by omega), b_232_18, show i = V.n by omega]
    by_cases q : cZ (ltO V a) V.n = 0
    · rw [b2_t q, if_neg (show ¬ iI 1 = (0 : Int32) from iI10), b_232_20, g_162 _ _ _ _ (by omega), b_232_21]
      rfl
    · rw [b2_f q, if_pos (show iI 0 = (0 : Int32) from rfl), b_232_19, b_232_20, g_162 _ _ _ _ (by omega), b_232_21]
      rfl
  | c + 1, i, o5, o6, hc => by
    have hn := hk.n
    have e0 : M 53 0 = iI V.n := hr.n
    have h1 := hw.1
    have hb := hw.2.2.2.2 i
    have hm := hk.minute i
    have hb6 := bS_64 (ltS V a) (n := i) (by omega)
    have hs := sh_lt (j := i) (by omega)
    have hof : ofL V a i = (a i - V.minute i) % 60 := rfl
    have em : M 53 (28 + i) = iI (V.minute i) := by have := hr.minute i (by omega); rwa [Nat.zero_add] at this
    have es : bS (ltS V a) (i + 1) = if ltS V a i then bS (ltS V a) i ||| (1 <<< i) else bS (ltS V a) i := rfl
    rw [b_232_8, e0, if_neg (by rw [t_le, iI_to (by omega) (by omega), iI_to (by omega) (by omega)]; omega), show (40 : Int32) = iI 40 from rfl, iI_mul, iI_add, show (40 : Int) * (r : Int) + (i : Int) = ((40 * r + i : Nat) : Int) by omega, ix_nat (by omega) (by omega), o_some, hw.2.2.2.1 i (by omega), iI_long hb.1 hb.2, lI_lit, lI_lit, g_157 M L _ 0 59 (by omega) (by omega) (by omega) (by omega) (by omega) (by omega) (by omega), b_232_9]
    by_cases q : 0 ≤ a i ∧ a i < 60
    · have ih := fun o5 o6 => l_232 hd N xs V hk hr r a hw c (i + 1) o5 o6 (by omega)
      rw [b2_t (show 0 ≤ a i ∧ a i ≤ 59 by omega), if_neg (show ¬ iI 1 = (0 : Int32) from iI10), show fx (bdM a) (c + 1) i = fx (bdM a) c (i + 1) from if_neg (fun e => e q), b_232_11, show (28 : Int32) = iI 28 from rfl, iI_add, show (28 : Int) + (i : Int) = ((28 + i : Nat) : Int) by omega, ix_nat (by omega) (by omega), o_some, em, iI_sub, g_160 M L _ (by omega) (by omega) (by omega), b_232_12]
      have l14 : ∀ x y : Nat, x < 64 → y < 64 → bS (ltS V a) (i + 1) = y ||| x → zz_X (zz_call_ d) tb_232 14 [some (.ref 52), some (.int (iI r)), some (.int (iI (bS (ltS V a) i))), some (.int (b2 (cZ (ltO V a) i = 0))), some (.int (iI i)), some (.int (iI (a i))), some (.int (iI ((a i - V.minute i) % 60)))] [.int (iI x), .int (iI y)] (zm N xs M L) = if fx (bdM a) c (i + 1) < V.n then some (some (.int (iI (-3))), zm N xs (fndR M 3) L) else some (some (.int (iI (bS (ltS V a) V.n))), zm N xs (zz_wI M 52 10 (b2 (cZ (ltO V a) V.n = 0))) L) := by
        intro x y hx hy hxy
        rw [b_232_14, iN_or (by omega) (by omega), ← hxy, show (5 : Int32) = iI 5 from rfl, show (55 : Int32) = iI 55 from rfl]
        simp only [t_le, t_lt]
        rw [iI_to (by omega) (by omega), iI_to (by omega) (by omega), iI_to (by omega) (by omega)]
        have l17 : ∀ v : Int32, b2 (cZ (ltO V a) (i + 1) = 0) = v → zz_X (zz_call_ d) tb_232 17 [some (.ref 52), some (.int (iI r)), some (.int (iI (bS (ltS V a) (i + 1)))), some (.int (b2 (cZ (ltO V a) i = 0))), some (.int (iI i)), some (.int (iI (a i))), some (.int (iI ((a i - V.minute i) % 60)))] [.int v] (zm N xs M L) = if fx (bdM a) c (i + 1) < V.n then some (some (.int (iI (-3))), zm N xs (fndR M 3) L) else some (some (.int (iI (bS (ltS V a) V.n))), zm N xs (zz_wI M 52 10 (b2 (cZ (ltO V a) V.n = 0))) L) := by
          intro v hv
          rw [b_232_17, ← hv, show (1 : Int32) = iI 1 from rfl, iI_add]
          exact ih _ _
        by_cases q0 : cZ (ltO V a) i = 0
        · rw [if_neg (by rw [b2_t q0]; exact iI10)]
          by_cases q1 : (a i - V.minute i) % 60 ≤ 5
          · rw [if_pos q1, b_232_15]
            exact l17 _ (by rw [cZ_f (p := ltO V a) (fun e => by have := e.1; omega), b2_t q0]; rfl)
          · rw [if_neg q1]
            by_cases q2 : (a i - V.minute i) % 60 < 55
            · rw [if_pos q2, b_232_16]
              exact l17 _ (by rw [cZ_t (p := ltO V a) ⟨by omega, by omega⟩, b2_f (by omega)]; rfl)
            · rw [if_neg q2, b_232_15]
              exact l17 _ (by rw [cZ_f (p := ltO V a) (fun e => by have := e.2; omega), b2_t q0]; rfl)
        · have hmo := cZ_mono (ltO V a) (show i ≤ i + 1 by omega)
          rw [if_pos (by rw [b2_f q0]; rfl), b_232_16]
          exact l17 _ (by rw [b2_f (by omega)]; rfl)
      by_cases q4 : (a i - V.minute i) % 60 = 0
      · rw [if_pos (by rw [q4]; rfl)]
        exact l14 0 _ (by omega) hb6 (by rw [es, if_neg (fun e => e q4), Nat.or_zero])
      · rw [if_neg (by rw [t_eq, iI_to (by omega) (by omega), show (0 : Int32).toInt = 0 from rfl]; exact q4), b_232_13, iN_shl (by omega)]
        exact l14 _ _ hs hb6 (by rw [es, if_pos q4])
    · rw [b2_f (show ¬ (0 ≤ a i ∧ a i ≤ 59) by omega), if_pos (show iI 0 = (0 : Int32) from rfl), show fx (bdM a) (c + 1) i = i from if_pos q, if_pos (by omega), show (3 : Int32) = iI ((3 : Nat) : Int) from rfl, g_161 M L 3 (by omega) (by omega) (by omega), b_232_10]
theorem h2_232 {d : Nat} (hd : 5 ≤ d) (N : Nat) (xs : Nat → Int32) (V : Vw) (hk : Vk V) (hr : Rv V (M 53) 0) (hn0 : V.n ≠ 0) (r : Nat) (a : Nat → Int) (hw : Rr M r V.n a) : zz_X (zz_call_ d) tb_232 0 [some (.ref 52), some (.int (iI r)), none, none, none, none, none] [] (zm N xs M L) = if fx (bdM a) V.n 0 < V.n then some (some (.int (iI (-3))), zm N xs (fndR M 3) L) else some (some (.int (iI (bS (ltS V a) V.n))), zm N xs (zz_wI M 52 10 (b2 (cZ (ltO V a) V.n = 0))) L) := by
  have e0 : M 53 0 = iI V.n := hr.n
  have h1 := hw.1
  rw [h_232 M L hd N xs V hk hr hn0 r _ a hw, b_232_5, ix_nat (by omega) (by omega), o_some, hw.2.2.1, e0, if_pos rfl, b_232_7]
  exact l_232 M L hd N xs V hk hr r a hw V.n 0 none none (by omega)
theorem s_232U (V : Vw) (hk : Vk V) (hr : Rv V (M 53) 0) (hn0 : V.n ≠ 0) (r : Nat) (a : Nat → Int) (hw : Rr M r V.n a) (hu : fx (bdM a) V.n 0 < V.n) : zc 6 232 [.ref 52, .int (iI r)] M L (some (.int (iI (-3)))) (fndR M 3) L := by
  refine zc_of (n := 5) (ls := [some (.ref 52), some (.int (iI r)), none, none, none, none, none]) mk_232 rfl rfl rfl rfl (fun d hd N xs => ?_)
  rw [h2_232 M L hd N xs V hk hr hn0 r a hw, if_pos hu]
theorem g_232U (V : Vw) (hk : Vk V) (hr : Rv V (M 53) 0) (hn0 : V.n ≠ 0) (r : Nat) (a : Nat → Int) (hw : Rr M r V.n a) (hu : fx (bdM a) V.n 0 < V.n) {d N : Nat} {xs : Nat → Int32} {tb_ : List zz_B} {t_ : Nat} {ls_ : zz_L} {rest_ : List Value} (hd_ : 6 ≤ d) : (zz_o (zz_call_ d 232 [.ref 52, .int (iI r)] (zm N xs M L)) fun r => zz_X (zz_call_ d) tb_ t_ ls_ (r.1.toList ++ rest_) r.2) = zz_X (zz_call_ d) tb_ t_ ls_ ((.int (iI (-3))) :: rest_) (zm N xs (fndR M 3) L) := (s_232U M L V hk hr hn0 r a hw hu).go hd_
theorem s_232O (V : Vw) (hk : Vk V) (hr : Rv V (M 53) 0) (hn0 : V.n ≠ 0) (r : Nat) (a : Nat → Int) (hw : Rr M r V.n a) (hu : ¬ fx (bdM a) V.n 0 < V.n) : zc 6 232 [.ref 52, .int (iI r)] M L (some (.int (iI (bS (ltS V a) V.n)))) (zz_wI M 52 10 (b2 (cZ (ltO V a) V.n = 0))) L := by
  refine zc_of (n := 5) (ls := [some (.ref 52), some (.int (iI r)), none, none, none, none, none]) mk_232 rfl rfl rfl rfl (fun d hd N xs => ?_)
  rw [h2_232 M L hd N xs V hk hr hn0 r a hw, if_neg hu]
theorem g_232O (V : Vw) (hk : Vk V) (hr : Rv V (M 53) 0) (hn0 : V.n ≠ 0) (r : Nat) (a : Nat → Int) (hw : Rr M r V.n a) (hu : ¬ fx (bdM a) V.n 0 < V.n) {d N : Nat} {xs : Nat → Int32} {tb_ : List zz_B} {t_ : Nat} {ls_ : zz_L} {rest_ : List Value} (hd_ : 6 ≤ d) : (zz_o (zz_call_ d 232 [.ref 52, .int (iI r)] (zm N xs M L)) fun r => zz_X (zz_call_ d) tb_ t_ ls_ (r.1.toList ++ rest_) r.2) = zz_X (zz_call_ d) tb_ t_ ls_ ((.int (iI (bS (ltS V a) V.n))) :: rest_) (zm N xs (zz_wI M 52 10 (b2 (cZ (ltO V a) V.n = 0))) L) := (s_232O M L V hk hr hn0 r a hw hu).go hd_
end ZR
theorem fnd_R {M : Nat → Nat → Int32} {r s f : Nat} {a : Nat → Int} (h : Rr M r s a) : Rr (fnd M f) r s a := h.cg (fnd_ne (by omega) (by omega)) (fnd_ne (by omega) (by omega))
theorem o_late {M : Nat → Nat → Int32} {L : Nat → Nat → Int64} (a : Int32) (hI : Inv M L) : Ok 125 232 [.int a] M L := by
  obtain ⟨z, h1, h2, rfl⟩ := iI_of a
  obtain ⟨V, hk, hv, hr⟩ := hI.view
  have hrf : ∀ f, Rv V (fnd M f 53) 0 := fun f => by rw [fnd_ne (by omega) (by omega)]; exact hr
  by_cases q : 0 ≤ z ∧ z < 6
  · by_cases q0 : V.n = 0
    · exact Ok.same hI (s_125Z M L z q (by rw [hv.n, q0]; rfl)) (s_232Z M L z q (by rw [show M 53 0 = iI V.n from hr.n, q0]; rfl)) (by omega) (by omega)
    · obtain ⟨r, rfl⟩ : ∃ x : Nat, z = x := ⟨z.toNat, by omega⟩
      have hr6 : r < 6 := by omega
      by_cases q1 : (M 9 r).toInt = -1
      · exact Ok.fd hI (s_125N M L V hk hv q0 r hr6 q1) (s_232N (fnd M 1) L V hk (hrf 1) q0 r hr6 (by rw [fnd_ne (by omega) (by omega)]; exact hI.1.no hr6 q1)) (by omega) (by omega)
      · obtain ⟨s, a, ha, hb⟩ := hI.1.get hr6 q1
        by_cases q2 : s = V.n
        · subst q2
          by_cases q3 : fx (bdM a) V.n 0 < V.n
          · exact Ok.fd hI (s_125U M L V hk hv q0 r a ha q3) (s_232U (fnd M 3) L V hk (hrf 3) q0 r a (fnd_R hb) q3) (by omega) (by omega)
          · exact ⟨_, _, L, _, L, (s_125O M L V hk hv q0 r a ha q3).mono (by omega), (s_232O (zz_wI M 0 10 (b2 (cZ (ltO V a) V.n = 0))) L V hk (by rw [w_ne (by omega)]; exact hr) q0 r a (hb.cg (by rw [w_ne (by omega)]) (by rw [w_ne (by omega)])) q3).mono (by omega), hI.told _⟩
        · exact Ok.fd hI (s_125S M L V hk hv q0 r s a ha q2) (s_232S (fnd M 5) L V hk (hrf 5) q0 r s a (fnd_R hb) q2) (by omega) (by omega)
  · exact Ok.same hI (s_125B M L z h1 h2 q) (s_232B M L z h1 h2 q) (by omega) (by omega)

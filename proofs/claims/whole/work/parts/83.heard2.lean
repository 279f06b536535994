/-! rates, kinds, from: both alike. -/
theorem bS_l10 (p : Nat → Prop) [DecidablePred p] {n : Nat} (h : n ≤ 10) : bS p n < 1024 := Nat.lt_of_lt_of_le (bS_lt p n) (Nat.pow_le_pow_right (n := 2) (by omega) h)
theorem sh_l10 {j : Nat} (h : j < 10) : (1 <<< j : Nat) < 1024 := by rw [Nat.one_shiftLeft]; exact Nat.pow_lt_pow_right (a := 2) (n := 10) (by omega) h
section ZR
variable (M : Nat → Nat → Int32) (L : Nat → Nat → Int64)
theorem s_126O (V : Vw) (hk : Vk V) (hv : Hv V M) (i r t : Nat) (a : Nat → Int) (hi : i < V.n) (hw : Rw M r (2 * t) a) (hu : ¬ fx (hb a) t 0 < t) : zc 8 126 [.ref 0, .int (iI i), .int (iI r)] M L (some (.int (iI (bS (fun k : Nat => cZ (da V a (V.minute i) (V.kind i) ((k : Int) - 4)) t = 0) 10)))) M L := by
  refine zc_of (n := 7) (ls := [some (.ref 0), some (.int (iI i)), some (.int (iI r)), none, none, none]) mk_126 rfl rfl rfl rfl (fun d hd N xs => ?_)
  have hn := hk.n
  have hm := hk.minute i
  have hki := hk.kind i
  have hri := hk.rate i
  have hg : ∀ k, k < t → ¬ hb a k := fun k hkt => by
    have := fx_le (hb a) t 0
    exact fx_min (p := hb a) t 0 k (by omega) (by omega)
  rw [b_126_0, g_144O M L V hk hv i r t a hi hw hu (by omega), b_126_1, if_pos (show iI 0 = (0 : Int32) from rfl), b_126_2]
  have hl := upto (fun k : Nat => zz_X (zz_call_ d) tb_126 3 [some (.ref 0), some (.int (iI i)), some (.int (iI r)), some (.int (iI 0)), some (.int (iI (bS (fun k : Nat => cZ (da V a (V.minute i) (V.kind i) ((k : Int) - 4)) t = 0) k))), some (.int (iI k))] [] (zm N xs M L)) 10 (fun k hkc => by
    show zz_X (zz_call_ d) tb_126 3 _ _ _ = zz_X (zz_call_ d) tb_126 3 _ _ _
    have hb1 := bS_l10 (fun k : Nat => cZ (da V a (V.minute i) (V.kind i) ((k : Int) - 4)) t = 0) (n := k) (by omega)
    have hs := sh_l10 (j := k) (by omega)
    have es : bS (fun k : Nat => cZ (da V a (V.minute i) (V.kind i) ((k : Int) - 4)) t = 0) (k + 1) = if cZ (da V a (V.minute i) (V.kind i) ((k : Int) - 4)) t = 0 then bS (fun k : Nat => cZ (da V a (V.minute i) (V.kind i) ((k : Int) - 4)) t = 0) k ||| (1 <<< k) else bS (fun k : Nat => cZ (da V a (V.minute i) (V.kind i) ((k : Int) - 4)) t = 0) k := rfl
    rw [b_126_3, iI_lit, if_neg (by rw [t_le, iI_to (by omega) (by omega), iI_to (by omega) (by omega)]; omega), show (0 : Int32) = iI 0 from rfl, g_44 M L V hk hv i 0 0 hi (by omega) (by omega) (by omega) (by omega) (by omega), gn_0, Int.add_zero, mod60 hm.1 hm.2, b_126_4, g_34 M L V hk hv i hi (by omega), b_126_5, show (4 : Int32) = iI 4 from rfl, iI_sub, g_145 M L V hk hv r t a hw hg _ _ _ hm hki (by omega) (by omega), b_126_6]
    by_cases q : cZ (da V a (V.minute i) (V.kind i) ((k : Int) - 4)) t = 0
    · rw [b2_t q, if_neg (show ¬ iI 1 = (0 : Int32) from iI10), iN_shl (by omega), iN_or (by omega) (by omega), b_126_7, es, if_pos q, show (1 : Int32) = iI 1 from rfl, iI_add]
      rfl
    · rw [b2_f q, if_pos (show iI 0 = (0 : Int32) from rfl), b_126_7, es, if_neg q, show (1 : Int32) = iI 1 from rfl, iI_add]
      rfl)
  refine Eq.trans hl ?_
  show zz_X (zz_call_ d) tb_126 3 _ _ _ = _
  rw [b_126_3, iI_lit, if_pos (by rw [t_le, iI_to (by omega) (by omega), iI_to (by omega) (by omega)]; omega), b_126_8]
theorem g_126O (V : Vw) (hk : Vk V) (hv : Hv V M) (i r t : Nat) (a : Nat → Int) (hi : i < V.n) (hw : Rw M r (2 * t) a) (hu : ¬ fx (hb a) t 0 < t) {d N : Nat} {xs : Nat → Int32} {tb_ : List zz_B} {t_ : Nat} {ls_ : zz_L} {rest_ : List Value} (hd_ : 8 ≤ d) : (zz_o (zz_call_ d 126 [.ref 0, .int (iI i), .int (iI r)] (zm N xs M L)) fun r => zz_X (zz_call_ d) tb_ t_ ls_ (r.1.toList ++ rest_) r.2) = zz_X (zz_call_ d) tb_ t_ ls_ ((.int (iI (bS (fun k : Nat => cZ (da V a (V.minute i) (V.kind i) ((k : Int) - 4)) t = 0) 10))) :: rest_) (zm N xs M L) := (s_126O M L V hk hv i r t a hi hw hu).go hd_
theorem s_235O (V : Vw) (hk : Vk V) (hr : Rv V (M 53) 0) (i r t : Nat) (a : Nat → Int) (hi : i < V.n) (hw : Rr M r (2 * t) a) (hu : ¬ fx (hb a) t 0 < t) : zc 8 235 [.ref 52, .int (iI i), .int (iI r)] M L (some (.int (iI (bS (fun k : Nat => cZ (da V a (V.minute i) (V.kind i) ((k : Int) - 4)) t = 0) 10)))) M L := by
  refine zc_of (n := 7) (ls := [some (.ref 52), some (.int (iI i)), some (.int (iI r)), none, none, none]) mk_235 rfl rfl rfl rfl (fun d hd N xs => ?_)
  have hn := hk.n
  have hm := hk.minute i
  have hki := hk.kind i
  have hri := hk.rate i
  have h0 := hk.hc0 (by omega)
  have ek : M 53 (10 + i) = iI (V.kind i) := by have := hr.kind i hi; rwa [Nat.zero_add] at this
  have er : M 53 (16 + i) = iI (V.rate i) := by have := hr.rate i hi; rwa [Nat.zero_add] at this
  have em : M 53 (28 + i) = iI (V.minute i) := by have := hr.minute i hi; rwa [Nat.zero_add] at this
  have hg : ∀ k, k < t → ¬ hb a k := fun k hkt => by
    have := fx_le (hb a) t 0
    exact fx_min (p := hb a) t 0 k (by omega) (by omega)
  rw [b_235_0, g_233O M L V hk hr i r t a hi hw hu (by omega), b_235_1, if_pos (show (0 : Int32) ≤ iI 0 by decide), b_235_2]
  have hl := upto (fun k : Nat => zz_X (zz_call_ d) tb_235 3 [some (.ref 52), some (.int (iI i)), some (.int (iI r)), some (.int (iI 0)), some (.int (iI (bS (fun k : Nat => cZ (da V a (V.minute i) (V.kind i) ((k : Int) - 4)) t = 0) k))), some (.int (iI k))] [] (zm N xs M L)) 10 (fun k hkc => by
    show zz_X (zz_call_ d) tb_235 3 _ _ _ = zz_X (zz_call_ d) tb_235 3 _ _ _
    have hb1 := bS_l10 (fun k : Nat => cZ (da V a (V.minute i) (V.kind i) ((k : Int) - 4)) t = 0) (n := k) (by omega)
    have hs := sh_l10 (j := k) (by omega)
    have es : bS (fun k : Nat => cZ (da V a (V.minute i) (V.kind i) ((k : Int) - 4)) t = 0) (k + 1) = if cZ (da V a (V.minute i) (V.kind i) ((k : Int) - 4)) t = 0 then bS (fun k : Nat => cZ (da V a (V.minute i) (V.kind i) ((k : Int) - 4)) t = 0) k ||| (1 <<< k) else bS (fun k : Nat => cZ (da V a (V.minute i) (V.kind i) ((k : Int) - 4)) t = 0) k := rfl
    rw [b_235_3, iI_lit, if_neg (by rw [t_le, iI_to (by omega) (by omega), iI_to (by omega) (by omega)]; omega)]
    rw [show (28 : Int32) = iI 28 from rfl, show (4 : Int32) = iI 4 from rfl, iI_sub, iI_add, iI_add, show (10 : Int) + (i : Int) = ((10 + i : Nat) : Int) by omega, show (28 : Int) + (i : Int) = ((28 + i : Nat) : Int) by omega, ix_nat (by omega) (by omega), o_some, ix_nat (by omega) (by omega), o_some, ek, em, g_234 M L V hk hr h0 r t a hw hg _ _ _ hm hki (by omega) (by omega), b_235_4]
    by_cases q : cZ (da V a (V.minute i) (V.kind i) ((k : Int) - 4)) t = 0
    · rw [b2_t q, if_neg (show ¬ iI 1 = (0 : Int32) from iI10), iN_shl (by omega), b_235_6, iN_or (by omega) (by omega), es, if_pos q, show (1 : Int32) = iI 1 from rfl, iI_add]
      rfl
    · rw [b2_f q, if_pos (show iI 0 = (0 : Int32) from rfl), b_235_5, b_235_6, show (0 : Int32) = iI ((0 : Nat) : Int) from rfl, iN_or (by omega) (by omega), Nat.or_zero, es, if_neg q, show (1 : Int32) = iI 1 from rfl, iI_add]
      rfl)
  refine Eq.trans hl ?_
  show zz_X (zz_call_ d) tb_235 3 _ _ _ = _
  rw [b_235_3, iI_lit, if_pos (by rw [t_le, iI_to (by omega) (by omega), iI_to (by omega) (by omega)]; omega), b_235_7]
theorem g_235O (V : Vw) (hk : Vk V) (hr : Rv V (M 53) 0) (i r t : Nat) (a : Nat → Int) (hi : i < V.n) (hw : Rr M r (2 * t) a) (hu : ¬ fx (hb a) t 0 < t) {d N : Nat} {xs : Nat → Int32} {tb_ : List zz_B} {t_ : Nat} {ls_ : zz_L} {rest_ : List Value} (hd_ : 8 ≤ d) : (zz_o (zz_call_ d 235 [.ref 52, .int (iI i), .int (iI r)] (zm N xs M L)) fun r => zz_X (zz_call_ d) tb_ t_ ls_ (r.1.toList ++ rest_) r.2) = zz_X (zz_call_ d) tb_ t_ ls_ ((.int (iI (bS (fun k : Nat => cZ (da V a (V.minute i) (V.kind i) ((k : Int) - 4)) t = 0) 10))) :: rest_) (zm N xs M L) := (s_235O M L V hk hr i r t a hi hw hu).go hd_
theorem s_127O (V : Vw) (hk : Vk V) (hv : Hv V M) (i r t : Nat) (a : Nat → Int) (hi : i < V.n) (hw : Rw M r (2 * t) a) (hu : ¬ fx (hb a) t 0 < t) : zc 8 127 [.ref 0, .int (iI i), .int (iI r)] M L (some (.int (iI (bS (fun k : Nat => cZ (da V a (V.minute i) k (V.rate i)) t = 0) 6)))) M L := by
  refine zc_of (n := 7) (ls := [some (.ref 0), some (.int (iI i)), some (.int (iI r)), none, none, none]) mk_127 rfl rfl rfl rfl (fun d hd N xs => ?_)
  have hn := hk.n
  have hm := hk.minute i
  have hki := hk.kind i
  have hri := hk.rate i
  have hg : ∀ k, k < t → ¬ hb a k := fun k hkt => by
    have := fx_le (hb a) t 0
    exact fx_min (p := hb a) t 0 k (by omega) (by omega)
  rw [b_127_0, g_144O M L V hk hv i r t a hi hw hu (by omega), b_127_1, if_pos (show iI 0 = (0 : Int32) from rfl), b_127_2]
  have hl := upto (fun k : Nat => zz_X (zz_call_ d) tb_127 3 [some (.ref 0), some (.int (iI i)), some (.int (iI r)), some (.int (iI 0)), some (.int (iI (bS (fun k : Nat => cZ (da V a (V.minute i) k (V.rate i)) t = 0) k))), some (.int (iI k))] [] (zm N xs M L)) 6 (fun k hkc => by
    show zz_X (zz_call_ d) tb_127 3 _ _ _ = zz_X (zz_call_ d) tb_127 3 _ _ _
    have hb1 := bS_l10 (fun k : Nat => cZ (da V a (V.minute i) k (V.rate i)) t = 0) (n := k) (by omega)
    have hs := sh_l10 (j := k) (by omega)
    have es : bS (fun k : Nat => cZ (da V a (V.minute i) k (V.rate i)) t = 0) (k + 1) = if cZ (da V a (V.minute i) k (V.rate i)) t = 0 then bS (fun k : Nat => cZ (da V a (V.minute i) k (V.rate i)) t = 0) k ||| (1 <<< k) else bS (fun k : Nat => cZ (da V a (V.minute i) k (V.rate i)) t = 0) k := rfl
    rw [b_127_3, iI_lit, if_neg (by rw [t_le, iI_to (by omega) (by omega), iI_to (by omega) (by omega)]; omega), show (0 : Int32) = iI 0 from rfl, g_44 M L V hk hv i 0 0 hi (by omega) (by omega) (by omega) (by omega) (by omega), gn_0, Int.add_zero, mod60 hm.1 hm.2, b_127_4, g_35 M L V hk hv i hi (by omega), b_127_5, g_145 M L V hk hv r t a hw hg _ k _ hm (by omega) hri (by omega), b_127_6]
    by_cases q : cZ (da V a (V.minute i) k (V.rate i)) t = 0
    · rw [b2_t q, if_neg (show ¬ iI 1 = (0 : Int32) from iI10), iN_shl (by omega), iN_or (by omega) (by omega), b_127_7, es, if_pos q, show (1 : Int32) = iI 1 from rfl, iI_add]
      rfl
    · rw [b2_f q, if_pos (show iI 0 = (0 : Int32) from rfl), b_127_7, es, if_neg q, show (1 : Int32) = iI 1 from rfl, iI_add]
      rfl)
  refine Eq.trans hl ?_
  show zz_X (zz_call_ d) tb_127 3 _ _ _ = _
  rw [b_127_3, iI_lit, if_pos (by rw [t_le, iI_to (by omega) (by omega), iI_to (by omega) (by omega)]; omega), b_127_8]
theorem g_127O (V : Vw) (hk : Vk V) (hv : Hv V M) (i r t : Nat) (a : Nat → Int) (hi : i < V.n) (hw : Rw M r (2 * t) a) (hu : ¬ fx (hb a) t 0 < t) {d N : Nat} {xs : Nat → Int32} {tb_ : List zz_B} {t_ : Nat} {ls_ : zz_L} {rest_ : List Value} (hd_ : 8 ≤ d) : (zz_o (zz_call_ d 127 [.ref 0, .int (iI i), .int (iI r)] (zm N xs M L)) fun r => zz_X (zz_call_ d) tb_ t_ ls_ (r.1.toList ++ rest_) r.2) = zz_X (zz_call_ d) tb_ t_ ls_ ((.int (iI (bS (fun k : Nat => cZ (da V a (V.minute i) k (V.rate i)) t = 0) 6))) :: rest_) (zm N xs M L) := (s_127O M L V hk hv i r t a hi hw hu).go hd_
theorem s_236O (V : Vw) (hk : Vk V) (hr : Rv V (M 53) 0) (i r t : Nat) (a : Nat → Int) (hi : i < V.n) (hw : Rr M r (2 * t) a) (hu : ¬ fx (hb a) t 0 < t) : zc 8 236 [.ref 52, .int (iI i), .int (iI r)] M L (some (.int (iI (bS (fun k : Nat => cZ (da V a (V.minute i) k (V.rate i)) t = 0) 6)))) M L := by
  refine zc_of (n := 7) (ls := [some (.ref 52), some (.int (iI i)), some (.int (iI r)), none, none, none]) mk_236 rfl rfl rfl rfl (fun d hd N xs => ?_)
  have hn := hk.n
  have hm := hk.minute i
  have hki := hk.kind i
  have hri := hk.rate i
  have h0 := hk.hc0 (by omega)
  have ek : M 53 (10 + i) = iI (V.kind i) := by have := hr.kind i hi; rwa [Nat.zero_add] at this
  have er : M 53 (16 + i) = iI (V.rate i) := by have := hr.rate i hi; rwa [Nat.zero_add] at this
  have em : M 53 (28 + i) = iI (V.minute i) := by have := hr.minute i hi; rwa [Nat.zero_add] at this
  have hg : ∀ k, k < t → ¬ hb a k := fun k hkt => by
    have := fx_le (hb a) t 0
    exact fx_min (p := hb a) t 0 k (by omega) (by omega)
  rw [b_236_0, g_233O M L V hk hr i r t a hi hw hu (by omega), b_236_1, if_pos (show (0 : Int32) ≤ iI 0 by decide), b_236_2]
  have hl := upto (fun k : Nat => zz_X (zz_call_ d) tb_236 3 [some (.ref 52), some (.int (iI i)), some (.int (iI r)), some (.int (iI 0)), some (.int (iI (bS (fun k : Nat => cZ (da V a (V.minute i) k (V.rate i)) t = 0) k))), some (.int (iI k))] [] (zm N xs M L)) 6 (fun k hkc => by
    show zz_X (zz_call_ d) tb_236 3 _ _ _ = zz_X (zz_call_ d) tb_236 3 _ _ _
    have hb1 := bS_l10 (fun k : Nat => cZ (da V a (V.minute i) k (V.rate i)) t = 0) (n := k) (by omega)
    have hs := sh_l10 (j := k) (by omega)
    have es : bS (fun k : Nat => cZ (da V a (V.minute i) k (V.rate i)) t = 0) (k + 1) = if cZ (da V a (V.minute i) k (V.rate i)) t = 0 then bS (fun k : Nat => cZ (da V a (V.minute i) k (V.rate i)) t = 0) k ||| (1 <<< k) else bS (fun k : Nat => cZ (da V a (V.minute i) k (V.rate i)) t = 0) k := rfl
    rw [b_236_3, iI_lit, if_neg (by rw [t_le, iI_to (by omega) (by omega), iI_to (by omega) (by omega)]; omega)]
    rw [show (16 : Int32) = iI 16 from rfl, show (28 : Int32) = iI 28 from rfl, iI_add, iI_add, show (16 : Int) + (i : Int) = ((16 + i : Nat) : Int) by omega, show (28 : Int) + (i : Int) = ((28 + i : Nat) : Int) by omega, ix_nat (by omega) (by omega), o_some, ix_nat (by omega) (by omega), o_some, er, em, g_234 M L V hk hr h0 r t a hw hg k _ _ hm (by omega) hri (by omega), b_236_4]
    by_cases q : cZ (da V a (V.minute i) k (V.rate i)) t = 0
    · rw [b2_t q, if_neg (show ¬ iI 1 = (0 : Int32) from iI10), iN_shl (by omega), b_236_6, iN_or (by omega) (by omega), es, if_pos q, show (1 : Int32) = iI 1 from rfl, iI_add]
      rfl
    · rw [b2_f q, if_pos (show iI 0 = (0 : Int32) from rfl), b_236_5, b_236_6, show (0 : Int32) = iI ((0 : Nat) : Int) from rfl, iN_or (by omega) (by omega), Nat.or_zero, es, if_neg q, show (1 : Int32) = iI 1 from rfl, iI_add]
      rfl)
  refine Eq.trans hl ?_
  show zz_X (zz_call_ d) tb_236 3 _ _ _ = _
  rw [b_236_3, iI_lit, if_pos (by rw [t_le, iI_to (by omega) (by omega), iI_to (by omega) (by omega)]; omega), b_236_7]
theorem g_236O (V : Vw) (hk : Vk V) (hr : Rv V (M 53) 0) (i r t : Nat) (a : Nat → Int) (hi : i < V.n) (hw : Rr M r (2 * t) a) (hu : ¬ fx (hb a) t 0 < t) {d N : Nat} {xs : Nat → Int32} {tb_ : List zz_B} {t_ : Nat} {ls_ : zz_L} {rest_ : List Value} (hd_ : 8 ≤ d) : (zz_o (zz_call_ d 236 [.ref 52, .int (iI i), .int (iI r)] (zm N xs M L)) fun r => zz_X (zz_call_ d) tb_ t_ ls_ (r.1.toList ++ rest_) r.2) = zz_X (zz_call_ d) tb_ t_ ls_ ((.int (iI (bS (fun k : Nat => cZ (da V a (V.minute i) k (V.rate i)) t = 0) 6))) :: rest_) (zm N xs M L) := (s_236O M L V hk hr i r t a hi hw hu).go hd_
theorem s_128O (V : Vw) (hk : Vk V) (hv : Hv V M) (i r t : Nat) (a : Nat → Int) (hi : i < V.n) (hw : Rw M r (2 * t) a) (hu : ¬ fx (hb a) t 0 < t) : zc 8 128 [.ref 0, .int (iI i), .int (iI r)] M L (some (.int (iI (cZ (fun m : Nat => cZ (da V a m (V.kind i) (V.rate i)) t = 0) 60)))) (zz_wI M 0 10 (iI (fsF (fun m : Nat => cZ (da V a m (V.kind i) (V.rate i)) t = 0) 60 60))) L := by
  refine zc_of (n := 7) (ls := [some (.ref 0), some (.int (iI i)), some (.int (iI r)), none, none, none, none]) mk_128 rfl rfl rfl rfl (fun d hd N xs => ?_)
  have hn := hk.n
  have hg : ∀ k, k < t → ¬ hb a k := fun k hkt => by
    have := fx_le (hb a) t 0
    exact fx_min (p := hb a) t 0 k (by omega) (by omega)
  rw [b_128_0, g_144O M L V hk hv i r t a hi hw hu (by omega), b_128_1, if_pos (show iI 0 = (0 : Int32) from rfl), b_128_2]
  have e5 : ∀ m : Nat, m < 60 → ∀ ls d, 7 ≤ d → (zz_o (zz_call_ d 145 [.ref 0, .int (iI r), .int (iI m), .int (iI (V.kind i)), .int (iI (V.rate i))] (zm N xs M L)) fun q => zz_X (zz_call_ d) tb_128 6 ls (q.1.toList ++ []) q.2) = zz_X (zz_call_ d) tb_128 6 ls [.int (b2 (cZ (da V a m (V.kind i) (V.rate i)) t = 0))] (zm N xs M L) := fun m hm ls d hd => g_145 M L V hk hv r t a hw hg m (V.kind i) (V.rate i) (by omega) (hk.kind i) (hk.rate i) (by omega)
  have hl := upto (fun k : Nat => zz_X (zz_call_ d) tb_128 3 [some (.ref 0), some (.int (iI i)), some (.int (iI r)), some (.int (iI 0)), some (.int (iI (fsB (fun m : Nat => cZ (da V a m (V.kind i) (V.rate i)) t = 0) 60 (60 - k)))), some (.int (iI ((cZ (fun m : Nat => cZ (da V a m (V.kind i) (V.rate i)) t = 0) 60 : Int) - cZ (fun m : Nat => cZ (da V a m (V.kind i) (V.rate i)) t = 0) (60 - k)))), some (.int (iI (59 - (k : Int))))] [] (zm N xs M L)) 60 (fun k hkc => by
    show zz_X (zz_call_ d) tb_128 3 _ _ _ = zz_X (zz_call_ d) tb_128 3 _ _ _
    rw [b_128_3, if_neg (by rw [t_lt, show (0 : Int32).toInt = 0 from rfl, iI_to (by omega) (by omega)]; omega), show (59 : Int) - (k : Int) = ((59 - k : Nat) : Int) by omega, g_34 M L V hk hv i hi (by omega), b_128_4, g_35 M L V hk hv i hi (by omega), b_128_5, e5 (59 - k) (by omega) _ _ (by omega), b_128_6]
    by_cases q : cZ (da V a ((59 - k : Nat) : Int) (V.kind i) (V.rate i)) t = 0
    · rw [b2_t q, if_neg (show ¬ iI 1 = (0 : Int32) from iI10), b_128_7, show 60 - (k + 1) = 59 - k by omega, fsB_t (p := fun m : Nat => cZ (da V a m (V.kind i) (V.rate i)) t = 0) (by omega) q, show 60 - k = 59 - k + 1 by omega, cZ_t (p := fun m : Nat => cZ (da V a m (V.kind i) (V.rate i)) t = 0) q, show (-1 : Int32) = iI (-1) from rfl, show (1 : Int32) = iI 1 from rfl, iI_add, iI_add, show ((cZ (fun m : Nat => cZ (da V a m (V.kind i) (V.rate i)) t = 0) 60 : Nat) : Int) - ((cZ (fun m : Nat => cZ (da V a m (V.kind i) (V.rate i)) t = 0) (59 - k) + 1 : Nat) : Int) + 1 = (cZ (fun m : Nat => cZ (da V a m (V.kind i) (V.rate i)) t = 0) 60 : Nat) - (cZ (fun m : Nat => cZ (da V a m (V.kind i) (V.rate i)) t = 0) (59 - k) : Nat) by omega, show ((59 - k : Nat) : Int) + -1 = 59 - ((k + 1 : Nat) : Int) by omega]
    · rw [b2_f q, if_pos (show iI 0 = (0 : Int32) from rfl), b_128_7, show 60 - (k + 1) = 59 - k by omega, fsB_f (p := fun m : Nat => cZ (da V a m (V.kind i) (V.rate i)) t = 0) (by omega) q, show 60 - k = 59 - k + 1 by omega, cZ_f (p := fun m : Nat => cZ (da V a m (V.kind i) (V.rate i)) t = 0) q, show (-1 : Int32) = iI (-1) from rfl, iI_add, show ((59 - k : Nat) : Int) + -1 = 59 - ((k + 1 : Nat) : Int) by omega])
  have e0 : fsB (fun m : Nat => cZ (da V a m (V.kind i) (V.rate i)) t = 0) 60 (60 - 0) = -9 := fsB_n _ _
  have e1 : ((cZ (fun m : Nat => cZ (da V a m (V.kind i) (V.rate i)) t = 0) 60 : Nat) : Int) - ((cZ (fun m : Nat => cZ (da V a m (V.kind i) (V.rate i)) t = 0) (60 - 0) : Nat) : Int) = 0 := by show ((cZ (fun m : Nat => cZ (da V a m (V.kind i) (V.rate i)) t = 0) 60 : Nat) : Int) - ((cZ (fun m : Nat => cZ (da V a m (V.kind i) (V.rate i)) t = 0) 60 : Nat) : Int) = 0; omega
  simp only [e0, e1] at hl
  refine Eq.trans hl ?_
  rw [b_128_3, if_pos (by rw [t_lt, show (0 : Int32).toInt = 0 from rfl, iI_to (by omega) (by omega)]; omega), b_128_8, show 60 - 60 = 0 from rfl, fsB_0, show ((cZ (fun m : Nat => cZ (da V a m (V.kind i) (V.rate i)) t = 0) 0 : Nat) : Int) = 0 from rfl, Int.sub_zero]
theorem g_128O (V : Vw) (hk : Vk V) (hv : Hv V M) (i r t : Nat) (a : Nat → Int) (hi : i < V.n) (hw : Rw M r (2 * t) a) (hu : ¬ fx (hb a) t 0 < t) {d N : Nat} {xs : Nat → Int32} {tb_ : List zz_B} {t_ : Nat} {ls_ : zz_L} {rest_ : List Value} (hd_ : 8 ≤ d) : (zz_o (zz_call_ d 128 [.ref 0, .int (iI i), .int (iI r)] (zm N xs M L)) fun r => zz_X (zz_call_ d) tb_ t_ ls_ (r.1.toList ++ rest_) r.2) = zz_X (zz_call_ d) tb_ t_ ls_ ((.int (iI (cZ (fun m : Nat => cZ (da V a m (V.kind i) (V.rate i)) t = 0) 60))) :: rest_) (zm N xs (zz_wI M 0 10 (iI (fsF (fun m : Nat => cZ (da V a m (V.kind i) (V.rate i)) t = 0) 60 60))) L) := (s_128O M L V hk hv i r t a hi hw hu).go hd_
theorem l_237 {d : Nat} (hd : 7 ≤ d) (N : Nat) (xs : Nat → Int32) (V : Vw) (hk : Vk V) (hr : Rv V (M 53) 0) (i r t : Nat) (a : Nat → Int) (hi : i < V.n) (hw : Rr M r (2 * t) a) (hg : ∀ k, k < t → ¬ hb a k) : ∀ (c m : Nat) (o : Option Value), m + c = 60 → zz_X (zz_call_ d) tb_237 3 [some (.ref 52), some (.int (iI i)), some (.int (iI r)), some (.int (iI 0)), some (.int (iI (cZ (fun m : Nat => cZ (da V a m (V.kind i) (V.rate i)) t = 0) m))), some (.int (iI (fsF (fun m : Nat => cZ (da V a m (V.kind i) (V.rate i)) t = 0) 60 m))), some (.int (iI m)), o] [] (zm N xs M L) = some (some (.int (iI (cZ (fun m : Nat => cZ (da V a m (V.kind i) (V.rate i)) t = 0) 60))), zm N xs (zz_wI M 52 10 (iI (fsF (fun m : Nat => cZ (da V a m (V.kind i) (V.rate i)) t = 0) 60 60))) L)
  | 0, m, o, hc => by
    rw [b_237_3, if_pos (by rw [t_le, show (60 : Int32).toInt = 60 from rfl, iI_to (by omega) (by omega)]; omega), b_237_9, g_162 _ _ _ _ (by omega), b_237_10, show m = 60 by omega]
  | c + 1, m, o, hc => by
    have hn := hk.n
    have h0 := hk.hc0 (by omega)
    have ek : M 53 (10 + i) = iI (V.kind i) := by have := hr.kind i hi; rwa [Nat.zero_add] at this
    have er : M 53 (16 + i) = iI (V.rate i) := by have := hr.rate i hi; rwa [Nat.zero_add] at this
    have hcl := cZ_le (fun m : Nat => cZ (da V a m (V.kind i) (V.rate i)) t = 0) m
    rw [b_237_3, if_neg (by rw [t_le, show (60 : Int32).toInt = 60 from rfl, iI_to (by omega) (by omega)]; omega), show (10 : Int32) = iI 10 from rfl, show (16 : Int32) = iI 16 from rfl, iI_add, iI_add, show (10 : Int) + (i : Int) = ((10 + i : Nat) : Int) by omega, show (16 : Int) + (i : Int) = ((16 + i : Nat) : Int) by omega, ix_nat (by omega) (by omega), o_some, ix_nat (by omega) (by omega), o_some, ek, er, g_234 M L V hk hr h0 r t a hw hg (V.kind i) (V.rate i) m (by omega) (hk.kind i) (hk.rate i) (by omega), b_237_4]
    have ih := fun o => l_237 hd N xs V hk hr i r t a hi hw hg c (m + 1) o (by omega)
    by_cases q : cZ (da V a m (V.kind i) (V.rate i)) t = 0
    · rw [fsF_t (p := fun m : Nat => cZ (da V a m (V.kind i) (V.rate i)) t = 0) (by omega) q, cZ_t (p := fun m : Nat => cZ (da V a m (V.kind i) (V.rate i)) t = 0) q] at ih
      rw [b2_t q, if_neg (show ¬ iI 1 = (0 : Int32) from iI10)]
      by_cases q0 : cZ (fun m : Nat => cZ (da V a m (V.kind i) (V.rate i)) t = 0) m = 0
      · rw [if_pos (by rw [q0]; rfl), b_237_6, if_neg (show ¬ iI 1 = (0 : Int32) from iI10), b_237_8, show (1 : Int32) = iI 1 from rfl, iI_add, iI_add]
        rw [if_pos q0] at ih
        exact ih _
      · rw [if_neg (by rw [t_eq, iI_to (by omega) (by omega), show (0 : Int32).toInt = 0 from rfl]; omega), b_237_5, b_237_6, if_neg (show ¬ iI 1 = (0 : Int32) from iI10), b_237_8, show (1 : Int32) = iI 1 from rfl, iI_add, iI_add]
        rw [if_neg q0] at ih
        exact ih _
    · rw [fsF_f (p := fun m : Nat => cZ (da V a m (V.kind i) (V.rate i)) t = 0) q, cZ_f (p := fun m : Nat => cZ (da V a m (V.kind i) (V.rate i)) t = 0) q] at ih
      rw [b2_f q, if_pos (show iI 0 = (0 : Int32) from rfl), b_237_5, b_237_6, if_pos (show iI 0 = (0 : Int32) from rfl), b_237_7, b_237_8, show (1 : Int32) = iI 1 from rfl, show (0 : Int32) = iI 0 from rfl, iI_add, iI_add, Int.add_zero]
      exact ih _
theorem s_237O (V : Vw) (hk : Vk V) (hr : Rv V (M 53) 0) (i r t : Nat) (a : Nat → Int) (hi : i < V.n) (hw : Rr M r (2 * t) a) (hu : ¬ fx (hb a) t 0 < t) : zc 8 237 [.ref 52, .int (iI i), .int (iI r)] M L (some (.int (iI (cZ (fun m : Nat => cZ (da V a m (V.kind i) (V.rate i)) t = 0) 60)))) (zz_wI M 52 10 (iI (fsF (fun m : Nat => cZ (da V a m (V.kind i) (V.rate i)) t = 0) 60 60))) L := by
  refine zc_of (n := 7) (ls := [some (.ref 52), some (.int (iI i)), some (.int (iI r)), none, none, none, none, none]) mk_237 rfl rfl rfl rfl (fun d hd N xs => ?_)
  have hg : ∀ k, k < t → ¬ hb a k := fun k hkt => by
    have := fx_le (hb a) t 0
    exact fx_min (p := hb a) t 0 k (by omega) (by omega)
  rw [b_237_0, g_233O M L V hk hr i r t a hi hw hu (by omega), b_237_1, if_pos (show (0 : Int32) ≤ iI 0 by decide), b_237_2]
  exact l_237 M L (by omega) N xs V hk hr i r t a hi hw hg 60 0 none (by omega)
theorem g_237O (V : Vw) (hk : Vk V) (hr : Rv V (M 53) 0) (i r t : Nat) (a : Nat → Int) (hi : i < V.n) (hw : Rr M r (2 * t) a) (hu : ¬ fx (hb a) t 0 < t) {d N : Nat} {xs : Nat → Int32} {tb_ : List zz_B} {t_ : Nat} {ls_ : zz_L} {rest_ : List Value} (hd_ : 8 ≤ d) : (zz_o (zz_call_ d 237 [.ref 52, .int (iI i), .int (iI r)] (zm N xs M L)) fun r => zz_X (zz_call_ d) tb_ t_ ls_ (r.1.toList ++ rest_) r.2) = zz_X (zz_call_ d) tb_ t_ ls_ ((.int (iI (cZ (fun m : Nat => cZ (da V a m (V.kind i) (V.rate i)) t = 0) 60))) :: rest_) (zm N xs (zz_wI M 52 10 (iI (fsF (fun m : Nat => cZ (da V a m (V.kind i) (V.rate i)) t = 0) 60 60))) L) := (s_237O M L V hk hr i r t a hi hw hu).go hd_
end ZR
section ZO
variable {M : Nat → Nat → Int32} {L : Nat → Nat → Int64}
theorem heard_ok {kx km : Nat} (rx : ∀ {x y v : Int32} {M M' : Nat → Nat → Int32}, zc 6 144 [.ref 0, .int x, .int y] M L (some (.int v)) M' L → ¬ v = 0 → zc 8 kx [.ref 0, .int x, .int y] M L (some (.int v)) M' L) (rm : ∀ {x y v : Int32} {M M' : Nat → Nat → Int32}, zc 6 233 [.ref 52, .int x, .int y] M L (some (.int v)) M' L → ¬ 0 ≤ v → zc 8 km [.ref 52, .int x, .int y] M L (some (.int v)) M' L)
    (ok : ∀ (V : Vw) (i r t : Nat) (a : Nat → Int), Vk V → Hv V M → Rv V (M 53) 0 → i < V.n → Rw M r (2 * t) a → Rr M r (2 * t) a → ¬ fx (hb a) t 0 < t → Ok kx km [.int (iI i), .int (iI r)] M L) (a b : Int32) (hI : Inv M L) : Ok kx km [.int a, .int b] M L := by
  obtain ⟨z, h1, h2, rfl⟩ := iI_of a
  obtain ⟨y, h3, h4, rfl⟩ := iI_of b
  obtain ⟨V, hk, hv, hr⟩ := hI.view
  have hrf : ∀ f, Rv V (fnd M f 53) 0 := fun f => by rw [fnd_ne (by omega) (by omega)]; exact hr
  by_cases q : (0 ≤ z ∧ z < V.n) ∧ 0 ≤ y ∧ y < 6
  · obtain ⟨i, rfl⟩ : ∃ x : Nat, z = x := ⟨z.toNat, by omega⟩
    obtain ⟨r, rfl⟩ : ∃ x : Nat, y = x := ⟨y.toNat, by omega⟩
    have hi : i < V.n := by omega
    have hr6 : r < 6 := by omega
    by_cases q1 : (M 9 r).toInt = -1
    · exact Ok.fd hI (rx (s_144N M L V hk hv i r hi hr6 q1) (by decide)) (rm (s_233N (fnd M 1) L V hk (hrf 1) i r hi hr6 (by rw [fnd_ne (by omega) (by omega)]; exact hI.1.no hr6 q1)) (by decide)) (by omega) (by omega)
    · obtain ⟨s, a, ha, hb'⟩ := hI.1.get hr6 q1
      by_cases q2 : s % 2 = 0
      · obtain ⟨t, rfl⟩ : ∃ t, s = 2 * t := ⟨s / 2, by omega⟩
        by_cases q3 : fx (hb a) t 0 < t
        · exact Ok.fd hI (rx (s_144U M L V hk hv i r t a hi ha q3) (by decide)) (rm (s_233U (fnd M 3) L V hk (hrf 3) i r t a hi (fnd_R hb') q3) (by decide)) (by omega) (by omega)
        · exact ok V i r t a hk hv hr hi ha hb' q3
      · exact Ok.fd hI (rx (s_144S M L V hk hv i r s a hi ha q2) (by decide)) (rm (s_233S (fnd M 5) L V hk (hrf 5) i r s a hi (fnd_R hb') q2) (by decide)) (by omega) (by omega)
  · exact Ok.same hI (rx (s_144B M L V hk hv z y h1 h2 h3 h4 q) (by decide)) (rm (s_233B M L V hk hr z y h1 h2 h3 h4 q) (by decide)) (by omega) (by omega)
theorem o_rates (a b : Int32) (hI : Inv M L) : Ok 126 235 [.int a, .int b] M L := heard_ok (r_126 L) (r_235 L) (fun V i r t a hk hv hr hi ha hb' q => Ok.same hI (s_126O M L V hk hv i r t a hi ha q) (s_235O M L V hk hr i r t a hi hb' q) (by omega) (by omega)) a b hI
theorem o_kinds (a b : Int32) (hI : Inv M L) : Ok 127 236 [.int a, .int b] M L := heard_ok (r_127 L) (r_236 L) (fun V i r t a hk hv hr hi ha hb' q => Ok.same hI (s_127O M L V hk hv i r t a hi ha q) (s_236O M L V hk hr i r t a hi hb' q) (by omega) (by omega)) a b hI
theorem o_from (a b : Int32) (hI : Inv M L) : Ok 128 237 [.int a, .int b] M L := heard_ok (r_128 L) (r_237 L) (fun V i r t a hk hv hr hi ha hb' q => ⟨_, _, L, _, L, (s_128O M L V hk hv i r t a hi ha q).mono (by omega), (s_237O _ L V hk (by rw [w_ne (by omega)]; exact hr) i r t a hi (hb'.cg (by rw [w_ne (by omega)]) (by rw [w_ne (by omega)])) q).mono (by omega), hI.told _⟩) a b hI
end ZO

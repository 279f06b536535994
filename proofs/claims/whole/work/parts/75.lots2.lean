section ZL
variable (L : Nat → Nat → Int64) {V : Vw} {K : Nat → Int} {E : Nat → Nat → Nat}
theorem rwD_of {V : Vw} {M : Nat → Nat → Int32} {m : Nat} : zz_wI (zz_rI (zz_wI (zz_rI M 53 (va_cpy (M 53) (M 53) 0 (40 * (m + 1)) 40)) 52 1 (iI ((m + 1 : Nat) : Int))) 53 (wP V (zz_wI (zz_rI M 53 (va_cpy (M 53) (M 53) 0 (40 * (m + 1)) 40)) 52 1 (iI ((m + 1 : Nat) : Int)) 53) V.n)) 53 1 (iI ((V.day + 1 : Nat) : Int)) = rwD V M m := by
  have e53 : zz_wI (zz_rI M 53 (va_cpy (M 53) (M 53) 0 (40 * (m + 1)) 40)) 52 1 (iI ((m + 1 : Nat) : Int)) 53 = va_cpy (M 53) (M 53) 0 (40 * (m + 1)) 40 := by rw [w_ne (by omega), rr_at]
  rw [e53]
  rfl
theorem md_R {V : Vw} {M : Nat → Nat → Int32} {m : Nat} (hk : Vk V) (hr : Rv V (M 53) 0) : Rv V (zz_wI (zz_rI M 53 (va_cpy (M 53) (M 53) 0 (40 * (m + 1)) 40)) 52 1 (iI ((m + 1 : Nat) : Int)) 53) 0 := by
  rw [w_ne (by omega), rr_at]
  exact cp_Rv hk hr
theorem l_249 (n : Nat) (sd : Int32) (hn : n ≤ 20) (hV : V.n ≠ 0) : ∀ (c k x : Nat) (s : (Nat → Nat) × Nat) (M W : Nat → Nat → Int32) (o : Option Value), k + c = n → x < 2147483647 → s.2 + 2 * c ≤ 40 → HD W V s.1 s.2 K E → agR M W → ∃ M' W' x' o', HD W' V (lotS V c x s).1 (lotS V c x s).2 K E ∧ agR M' W' ∧ frR M M' ∧ ∀ d, 6 ≤ d → ∀ N xs, zz_X (zz_call_ d) tb_249 7 [some (.ref 52), some (.int (iI n)), some (.int sd), some (.long (lI x)), none, some (.int (iI k)), o] [] (zm N xs M L) = zz_X (zz_call_ d) tb_249 14 [some (.ref 52), some (.int (iI n)), some (.int sd), some (.long x'), none, some (.int (iI n)), o'] [] (zm N xs M' L)
  | 0, k, x, s, M, W, o, hc, hx, hs, h, ag => by
    refine ⟨M, W, lI x, o, h, ag, fun p _ _ => eqs.rf, fun d hd N xs => ?_⟩
    rw [b_249_7, if_pos (by rw [t_le, iI_to (by omega) (by omega), iI_to (by omega) (by omega)]; omega), show k = n by omega]
  | c + 1, k, x, s, M, W, o, hc, hx, hs, h, ag => by
    have hxl := lotN_lt x
    obtain ⟨hk, hr, h1⟩ := h.r1 ag
    have hVn := run_n V s.1 s.2
    have hn6 := hk.n
    have e0 : M 53 0 = iI (V.run s.1 s.2).n := hr.n
    have hi : lotN x % (V.run s.1 s.2).n < (V.run s.1 s.2).n := Nat.mod_lt _ (by omega)
    have et : M 53 (34 + lotN x % (V.run s.1 s.2).n) = iI ((V.run s.1 s.2).tou (lotN x % (V.run s.1 s.2).n)) := by have := hr.tou _ hi; rwa [Nat.zero_add] at this
    have es : lotS V (c + 1) x s = lotS V c (lotN x) (if lotT (V.run s.1 s.2) (lotN x) then (dup (dup s.1 s.2 (16 * (lotN x % (V.run s.1 s.2).n) + 7)) (s.2 + 1) 0, s.2 + 1 + 1) else (dup s.1 s.2 0, s.2 + 1)) := rfl
    have start : ∀ d, 6 ≤ d → ∀ N xs, zz_X (zz_call_ d) tb_249 7 [some (.ref 52), some (.int (iI n)), some (.int sd), some (.long (lI x)), none, some (.int (iI k)), o] [] (zm N xs M L) = if M 53 (34 + lotN x % (V.run s.1 s.2).n) = 0 then (if lg_cmp ((lI (lotN x) / 8) - (lI (lotN x) / 8) / 2 * 2) 0 = 0 then zz_o (zz_call_ d 198 [.ref 52] (zm N xs M L)) fun r => zz_X (zz_call_ d) tb_249 10 [some (.ref 52), some (.int (iI n)), some (.int sd), some (.long (lI (lotN x))), none, some (.int (iI k)), some (.int (iI (lotN x % (V.run s.1 s.2).n : Nat)))] (r.1.toList ++ []) r.2 else zz_X (zz_call_ d) tb_249 11 [some (.ref 52), some (.int (iI n)), some (.int sd), some (.long (lI (lotN x))), none, some (.int (iI k)), some (.int (iI (lotN x % (V.run s.1 s.2).n : Nat)))] [] (zm N xs M L)) else zz_X (zz_call_ d) tb_249 11 [some (.ref 52), some (.int (iI n)), some (.int sd), some (.long (lI (lotN x))), none, some (.int (iI k)), some (.int (iI (lotN x % (V.run s.1 s.2).n : Nat)))] [] (zm N xs M L) := by
      intro d hd N xs
      rw [b_249_7, if_neg (by rw [t_le, iI_to (by omega) (by omega), iI_to (by omega) (by omega)]; omega), lotM hx, b_249_8, e0, iI_long (by omega) (by omega), if_neg (by rw [lI_0, lI_eq (by omega) (by omega) (by omega) (by omega)]; omega), lI_rem (by omega) (by omega) (by omega) (by omega), lI_int, show ((lotN x : Nat) : Int).tmod (V.run s.1 s.2).n = (lotN x % (V.run s.1 s.2).n : Nat) from rfl, b_249_9, show (34 : Int32) = iI 34 from rfl, iI_add, show (34 : Int) + ((lotN x % (V.run s.1 s.2).n : Nat) : Int) = ((34 + lotN x % (V.run s.1 s.2).n : Nat) : Int) by omega, ix_nat (by omega) (by omega), o_some]
    have l11 : ∀ (M : Nat → Nat → Int32) (U : Vw) (m : Nat) (y : Int32), Vk U → Rv U (M 53) 0 → M 52 1 = iI m → m < 40 → ∀ d, 6 ≤ d → ∀ N xs, zz_X (zz_call_ d) tb_249 11 [some (.ref 52), some (.int (iI n)), some (.int sd), some (.long (lI (lotN x))), none, some (.int (iI k)), some (.int y)] [] (zm N xs M L) = zz_X (zz_call_ d) tb_249 7 [some (.ref 52), some (.int (iI n)), some (.int sd), some (.long (lI (lotN x))), none, some (.int (iI ((k + 1 : Nat) : Int))), some (.int y)] [] (zm N xs (rwD U M m) L) := by
      intro M U m y hk hr h1 hm d hd N xs
      rw [b_249_11, g_198 M L m hm h1 (by omega), b_249_12, g_202 _ L U hk (md_R hk hr) (by omega), rwD_of, b_249_13, iI_lit, iI_add]
      rfl
    by_cases q : lotT (V.run s.1 s.2) (lotN x)
    · rw [if_pos q] at es
      have hh1 := h.tch (by omega) hi
      have ag1 : agR (rwT (V.run s.1 s.2) M s.2 (lotN x % (V.run s.1 s.2).n) 1) _ := rwT_ag (x := 16 * (lotN x % (V.run s.1 s.2).n) + 7) ag
      obtain ⟨hk1, hr1, h11⟩ := hh1.r1 ag1
      have hh2 := hh1.day (by omega) hV
      have ag2 := rwD_ag (U := V.run (dup s.1 s.2 (16 * (lotN x % (V.run s.1 s.2).n) + 7)) (s.2 + 1)) (m := s.2 + 1) (x := 0) ag1
      obtain ⟨M', W', x', o', r1, r2, r3, r4⟩ := l_249 n sd hn hV c (k + 1) (lotN x) (dup (dup s.1 s.2 (16 * (lotN x % (V.run s.1 s.2).n) + 7)) (s.2 + 1) 0, s.2 + 1 + 1) _ _ (some (.int (iI (lotN x % (V.run s.1 s.2).n : Nat)))) (by omega) hxl (by show s.2 + 1 + 1 + 2 * c ≤ 40; omega) hh2 ag2
      refine ⟨M', W', x', o', by rw [es]; exact r1, r2, fun p a1 a2 => ((rwT_eqs a1 a2).tr (rwD_eqs a1 a2)).tr (r3 p a1 a2), fun d hd N xs => ?_⟩
      have g := g_204 (d := d) (N := N) (xs := xs) (tb_ := tb_249) (t_ := 11) (ls_ := [some (.ref 52), some (.int (iI n)), some (.int sd), some (.long (lI (lotN x))), none, some (.int (iI k)), some (.int (iI (lotN x % (V.run s.1 s.2).n : Nat)))]) (rest_ := []) (zz_wI (zz_rI M 53 (va_cpy (M 53) (M 53) 0 (40 * (s.2 + 1)) 40)) 52 1 (iI ((s.2 + 1 : Nat) : Int))) L (V.run s.1 s.2) hk (md_R hk hr) (lotN x % (V.run s.1 s.2).n) 1 hi (by omega) (by omega) (by omega)
      rw [start d hd N xs, if_pos (by rw [et]; unfold Vw.tou; rw [if_neg q.1]; rfl), if_pos ((lotE (by omega)).2 q.2), g_198 M L s.2 (by omega) h1 (by omega), b_249_10]
      refine Eq.trans g ?_
      exact (l11 (rwT (V.run s.1 s.2) M s.2 (lotN x % (V.run s.1 s.2).n) 1) _ (s.2 + 1) _ hk1 hr1 h11 (by omega) d hd N xs).trans (r4 d hd N xs)
    · rw [if_neg q] at es
      have hh2 := h.day (by omega) hV
      have ag2 := rwD_ag (U := V.run s.1 s.2) (m := s.2) (x := 0) ag
      obtain ⟨M', W', x', o', r1, r2, r3, r4⟩ := l_249 n sd hn hV c (k + 1) (lotN x) (dup s.1 s.2 0, s.2 + 1) _ _ (some (.int (iI (lotN x % (V.run s.1 s.2).n : Nat)))) (by omega) hxl (by show s.2 + 1 + 2 * c ≤ 40; omega) hh2 ag2
      refine ⟨M', W', x', o', by rw [es]; exact r1, r2, fun p a1 a2 => (rwD_eqs a1 a2).tr (r3 p a1 a2), fun d hd N xs => ?_⟩
      have fin := (l11 M _ s.2 (iI (lotN x % (V.run s.1 s.2).n : Nat)) hk hr h1 (by omega) d hd N xs).trans (r4 d hd N xs)
      rw [start d hd N xs]
      by_cases q1 : (V.run s.1 s.2).tset.testBit (lotN x % (V.run s.1 s.2).n) = true
      · rw [if_neg (by rw [et]; unfold Vw.tou; rw [if_pos q1]; exact iI10)]
        exact fin
      · rw [if_pos (by rw [et]; unfold Vw.tou; rw [if_neg q1]; rfl), if_neg (fun e => q ⟨q1, (lotE (by omega)).1 e⟩)]
        exact fin
end ZL
section ZR
variable (M : Nat → Nat → Int32) (L : Nat → Nat → Int64)
theorem s_133B (z y : Int) (h1 : -2147483648 ≤ z) (h2 : z ≤ 2147483647) (h3 : -2147483648 ≤ y) (h4 : y ≤ 2147483647) (h : ¬ ((1 ≤ z ∧ z ≤ 20) ∧ (1 ≤ y ∧ y ≤ 2147483646))) : zc 8 133 [.ref 0, .int (iI z), .int (iI y)] M L (some (.int (iI (-1)))) M L := by
  refine zc_of (n := 7) (ls := [some (.ref 0), some (.int (iI z)), some (.int (iI y)), none, none, none]) mk_133 rfl rfl rfl rfl (fun d hd N xs => ?_)
  simp (disch := first | omega | assumption) only [b_133_0, b_133_1, iI_lit, iI_neg, iI_add, iI_sub, iI_mul, t_lt, t_le, t_eq, iI_to, b2_to, if_10, if_11, nor_em, Decidable.not_not, Int.reduceEq, Int.reduceLT, Int.reduceLE, Int.reduceAdd, Int.reduceSub, Int.reduceMul, Int.reduceNeg, reduceIte, or_true, true_or, or_false, false_or, o_some]
  repeat' split
  all_goals first | rfl | (exfalso; omega)
theorem g_133B (z y : Int) (h1 : -2147483648 ≤ z) (h2 : z ≤ 2147483647) (h3 : -2147483648 ≤ y) (h4 : y ≤ 2147483647) (h : ¬ ((1 ≤ z ∧ z ≤ 20) ∧ (1 ≤ y ∧ y ≤ 2147483646))) {d N : Nat} {xs : Nat → Int32} {tb_ : List zz_B} {t_ : Nat} {ls_ : zz_L} {rest_ : List Value} (hd_ : 8 ≤ d) : (zz_o (zz_call_ d 133 [.ref 0, .int (iI z), .int (iI y)] (zm N xs M L)) fun r => zz_X (zz_call_ d) tb_ t_ ls_ (r.1.toList ++ rest_) r.2) = zz_X (zz_call_ d) tb_ t_ ls_ ((.int (iI (-1))) :: rest_) (zm N xs M L) := (s_133B M L z y h1 h2 h3 h4 h).go hd_
theorem s_133Z (z y : Int) (h : (1 ≤ z ∧ z ≤ 20) ∧ (1 ≤ y ∧ y ≤ 2147483646)) (h0 : M 23 10 = iI 0) : zc 8 133 [.ref 0, .int (iI z), .int (iI y)] M L (some (.int (iI (-4)))) M L := by
  refine zc_of (n := 7) (ls := [some (.ref 0), some (.int (iI z)), some (.int (iI y)), none, none, none]) mk_133 rfl rfl rfl rfl (fun d hd N xs => ?_)
  simp (disch := first | omega | assumption) only [b_133_0, iI_lit, iI_neg, iI_add, iI_sub, iI_mul, t_lt, t_le, t_eq, iI_to, b2_to, if_10, if_11, nor_em, Decidable.not_not, Int.reduceEq, Int.reduceLT, Int.reduceLE, Int.reduceAdd, Int.reduceSub, Int.reduceMul, Int.reduceNeg, reduceIte, or_true, true_or, or_false, false_or, o_some]
  rw [if_neg (by omega), if_neg (by omega), if_neg (by omega), if_pos (by omega), b_133_2, h0, if_pos (show iI 0 = (0 : Int32) from rfl)]
  rfl
theorem g_133Z (z y : Int) (h : (1 ≤ z ∧ z ≤ 20) ∧ (1 ≤ y ∧ y ≤ 2147483646)) (h0 : M 23 10 = iI 0) {d N : Nat} {xs : Nat → Int32} {tb_ : List zz_B} {t_ : Nat} {ls_ : zz_L} {rest_ : List Value} (hd_ : 8 ≤ d) : (zz_o (zz_call_ d 133 [.ref 0, .int (iI z), .int (iI y)] (zm N xs M L)) fun r => zz_X (zz_call_ d) tb_ t_ ls_ (r.1.toList ++ rest_) r.2) = zz_X (zz_call_ d) tb_ t_ ls_ ((.int (iI (-4))) :: rest_) (zm N xs M L) := (s_133Z M L z y h h0).go hd_
theorem s_133F (z : Nat) (y : Int) (h : (1 ≤ z ∧ z ≤ 20) ∧ (1 ≤ y ∧ y ≤ 2147483646)) (W : Vw) (hk : Vk W) (hv : Hv W M) (hn0 : W.n ≠ 0) (m : Nat) (hm : m ≤ 40) (hf : 40 < m + 2 * z) (h13 : M 23 13 = iI m) : zc 8 133 [.ref 0, .int (iI z), .int (iI y)] M L (some (.int (iI (-2)))) M L := by
  refine zc_of (n := 7) (ls := [some (.ref 0), some (.int (iI z)), some (.int (iI y)), none, none, none]) mk_133 rfl rfl rfl rfl (fun d hd N xs => ?_)
  have hn := hk.n
  simp (disch := first | omega | assumption) only [b_133_0, iI_lit, iI_neg, iI_add, iI_sub, iI_mul, t_lt, t_le, t_eq, iI_to, b2_to, if_10, if_11, nor_em, Decidable.not_not, Int.reduceEq, Int.reduceLT, Int.reduceLE, Int.reduceAdd, Int.reduceSub, Int.reduceMul, Int.reduceNeg, reduceIte, or_true, true_or, or_false, false_or, o_some]
  rw [if_neg (by omega), if_neg (by omega), if_neg (by omega), if_pos (by omega), b_133_2, hv.n, if_neg (by rw [t_eq, iI_to (by omega) (by omega), show (0 : Int32).toInt = 0 from rfl]; omega), b_133_3, show (2 : Int32) = iI 2 from rfl, iI_mul, show (2 : Int) * (z : Int) = ((2 * z : Nat) : Int) by omega, g_51 M L m (2 * z) h13 hm (by omega) (by omega), b2_f (by omega), b_133_4, if_pos (show iI 0 = (0 : Int32) from rfl)]
  rfl
theorem g_133F (z : Nat) (y : Int) (h : (1 ≤ z ∧ z ≤ 20) ∧ (1 ≤ y ∧ y ≤ 2147483646)) (W : Vw) (hk : Vk W) (hv : Hv W M) (hn0 : W.n ≠ 0) (m : Nat) (hm : m ≤ 40) (hf : 40 < m + 2 * z) (h13 : M 23 13 = iI m) {d N : Nat} {xs : Nat → Int32} {tb_ : List zz_B} {t_ : Nat} {ls_ : zz_L} {rest_ : List Value} (hd_ : 8 ≤ d) : (zz_o (zz_call_ d 133 [.ref 0, .int (iI z), .int (iI y)] (zm N xs M L)) fun r => zz_X (zz_call_ d) tb_ t_ ls_ (r.1.toList ++ rest_) r.2) = zz_X (zz_call_ d) tb_ t_ ls_ ((.int (iI (-2))) :: rest_) (zm N xs M L) := (s_133F M L z y h W hk hv hn0 m hm hf h13).go hd_
theorem s_249B (z y : Int) (h1 : -2147483648 ≤ z) (h2 : z ≤ 2147483647) (h3 : -2147483648 ≤ y) (h4 : y ≤ 2147483647) (h : ¬ ((1 ≤ z ∧ z ≤ 20) ∧ (1 ≤ y ∧ y ≤ 2147483646))) : zc 8 249 [.ref 52, .int (iI z), .int (iI y)] M L (some (.int (iI (-1)))) M L := by
  refine zc_of (n := 7) (ls := [some (.ref 52), some (.int (iI z)), some (.int (iI y)), none, none, none, none]) mk_249 rfl rfl rfl rfl (fun d hd N xs => ?_)
  rw [b_249_0, iI_long h1 h2, lI_lit, lI_lit, g_157 M L z 1 20 (by omega) (by omega) (by omega) (by omega) (by omega) (by omega) (by omega), b_249_1]
  by_cases q : 1 ≤ z ∧ z ≤ 20
  · rw [b2_t q, if_neg (show ¬ iI 1 = (0 : Int32) from iI10), iI_long h3 h4, lI_lit, lI_lit, g_157 M L y 1 2147483646 (by omega) (by omega) (by omega) (by omega) (by omega) (by omega) (by omega), b2_f (by omega), b_249_2, if_pos (show iI 0 = (0 : Int32) from rfl), b_249_3]
    rfl
  · rw [b2_f q, if_pos (show iI 0 = (0 : Int32) from rfl), b_249_3]
    rfl
theorem g_249B (z y : Int) (h1 : -2147483648 ≤ z) (h2 : z ≤ 2147483647) (h3 : -2147483648 ≤ y) (h4 : y ≤ 2147483647) (h : ¬ ((1 ≤ z ∧ z ≤ 20) ∧ (1 ≤ y ∧ y ≤ 2147483646))) {d N : Nat} {xs : Nat → Int32} {tb_ : List zz_B} {t_ : Nat} {ls_ : zz_L} {rest_ : List Value} (hd_ : 8 ≤ d) : (zz_o (zz_call_ d 249 [.ref 52, .int (iI z), .int (iI y)] (zm N xs M L)) fun r => zz_X (zz_call_ d) tb_ t_ ls_ (r.1.toList ++ rest_) r.2) = zz_X (zz_call_ d) tb_ t_ ls_ ((.int (iI (-1))) :: rest_) (zm N xs M L) := (s_249B M L z y h1 h2 h3 h4 h).go hd_
theorem s_249Z (z y : Int) (h : (1 ≤ z ∧ z ≤ 20) ∧ (1 ≤ y ∧ y ≤ 2147483646)) (h0 : M 53 0 = iI 0) : zc 8 249 [.ref 52, .int (iI z), .int (iI y)] M L (some (.int (iI (-4)))) M L := by
  refine zc_of (n := 7) (ls := [some (.ref 52), some (.int (iI z)), some (.int (iI y)), none, none, none, none]) mk_249 rfl rfl rfl rfl (fun d hd N xs => ?_)
  rw [b_249_0, iI_long (by omega) (by omega), lI_lit, lI_lit, g_157 M L z 1 20 (by omega) (by omega) (by omega) (by omega) (by omega) (by omega) (by omega), b_249_1, b2_t (by omega), if_neg (show ¬ iI 1 = (0 : Int32) from iI10), iI_long (by omega) (by omega), lI_lit, lI_lit, g_157 M L y 1 2147483646 (by omega) (by omega) (by omega) (by omega) (by omega) (by omega) (by omega), b2_t (by omega), b_249_2, if_neg (show ¬ iI 1 = (0 : Int32) from iI10), b_249_4, h0, if_pos (show iI 0 = (0 : Int32) from rfl)]
  rfl
theorem g_249Z (z y : Int) (h : (1 ≤ z ∧ z ≤ 20) ∧ (1 ≤ y ∧ y ≤ 2147483646)) (h0 : M 53 0 = iI 0) {d N : Nat} {xs : Nat → Int32} {tb_ : List zz_B} {t_ : Nat} {ls_ : zz_L} {rest_ : List Value} (hd_ : 8 ≤ d) : (zz_o (zz_call_ d 249 [.ref 52, .int (iI z), .int (iI y)] (zm N xs M L)) fun r => zz_X (zz_call_ d) tb_ t_ ls_ (r.1.toList ++ rest_) r.2) = zz_X (zz_call_ d) tb_ t_ ls_ ((.int (iI (-4))) :: rest_) (zm N xs M L) := (s_249Z M L z y h h0).go hd_
theorem s_249F (z : Nat) (y : Int) (h : (1 ≤ z ∧ z ≤ 20) ∧ (1 ≤ y ∧ y ≤ 2147483646)) (W : Vw) (hk : Vk W) (hr : Rv W (M 53) 0) (hn0 : W.n ≠ 0) (m : Nat) (hm : m ≤ 40) (hf : 40 < m + 2 * z) (h13 : M 52 1 = iI m) : zc 8 249 [.ref 52, .int (iI z), .int (iI y)] M L (some (.int (iI (-2)))) M L := by
  refine zc_of (n := 7) (ls := [some (.ref 52), some (.int (iI z)), some (.int (iI y)), none, none, none, none]) mk_249 rfl rfl rfl rfl (fun d hd N xs => ?_)
  have hn := hk.n
  have e0 : M 53 0 = iI W.n := hr.n
  rw [b_249_0, iI_long (by omega) (by omega), lI_lit, lI_lit, g_157 M L z 1 20 (by omega) (by omega) (by omega) (by omega) (by omega) (by omega) (by omega), b_249_1, b2_t (by omega), if_neg (show ¬ iI 1 = (0 : Int32) from iI10), iI_long (by omega) (by omega), lI_lit, lI_lit, g_157 M L y 1 2147483646 (by omega) (by omega) (by omega) (by omega) (by omega) (by omega) (by omega), b2_t (by omega), b_249_2, if_neg (show ¬ iI 1 = (0 : Int32) from iI10), b_249_4, e0, if_neg (by rw [t_eq, iI_to (by omega) (by omega), show (0 : Int32).toInt = 0 from rfl]; omega), b_249_5, h13, show (2 : Int32) = iI 2 from rfl, iI_mul, iI_add, if_neg (by rw [t_le, iI_to (by omega) (by omega), show (40 : Int32).toInt = 40 from rfl]; omega)]
  rfl
theorem g_249F (z : Nat) (y : Int) (h : (1 ≤ z ∧ z ≤ 20) ∧ (1 ≤ y ∧ y ≤ 2147483646)) (W : Vw) (hk : Vk W) (hr : Rv W (M 53) 0) (hn0 : W.n ≠ 0) (m : Nat) (hm : m ≤ 40) (hf : 40 < m + 2 * z) (h13 : M 52 1 = iI m) {d N : Nat} {xs : Nat → Int32} {tb_ : List zz_B} {t_ : Nat} {ls_ : zz_L} {rest_ : List Value} (hd_ : 8 ≤ d) : (zz_o (zz_call_ d 249 [.ref 52, .int (iI z), .int (iI y)] (zm N xs M L)) fun r => zz_X (zz_call_ d) tb_ t_ ls_ (r.1.toList ++ rest_) r.2) = zz_X (zz_call_ d) tb_ t_ ls_ ((.int (iI (-2))) :: rest_) (zm N xs M L) := (s_249F M L z y h W hk hr hn0 m hm hf h13).go hd_
end ZR
theorem o_lots {M : Nat → Nat → Int32} {L : Nat → Nat → Int64} (a b : Int32) (hI : Inv M L) : Ok 133 249 [.int a, .int b] M L := by
  obtain ⟨z, z1, z2, rfl⟩ := iI_of a
  obtain ⟨y, y1, y2, rfl⟩ := iI_of b
  obtain ⟨V, D, m, K, E, h⟩ := hI.2.2.2.2.1.hd
  obtain ⟨hk, hv, h13⟩ := h.x1 (fun c _ _ => rfl)
  obtain ⟨_, hr, h521⟩ := h.r1 ⟨rfl, rfl, rfl⟩
  have hm40 : m ≤ 40 := h.2.2.2.2.2.2.2.2.2.1.1
  have hVn := run_n V D m
  have hn6 := hk.n
  by_cases q : (1 ≤ z ∧ z ≤ 20) ∧ (1 ≤ y ∧ y ≤ 2147483646)
  · obtain ⟨n, rfl⟩ : ∃ x : Nat, z = x := ⟨z.toNat, by omega⟩
    by_cases q0 : (V.run D m).n = 0
    · exact Ok.same hI (s_133Z M L n y q (by rw [hv.n, q0]; rfl)) (s_249Z M L n y q (by rw [hr.n, q0]; rfl)) (by omega) (by omega)
    · by_cases q1 : 40 < m + 2 * n
      · exact Ok.same hI (s_133F M L n y (by omega) _ hk hv q0 m hm40 q1 h13) (s_249F M L n y (by omega) _ hk hr q0 m hm40 q1 h521) (by omega) (by omega)
      · obtain ⟨sd, rfl⟩ : ∃ x : Nat, y = x := ⟨y.toNat, by omega⟩
        obtain ⟨M1, W1, x1, r1, r2, r3, r4⟩ := l_133 L n (iI sd) (by omega) (by omega) n 0 sd (D, m) M M (by omega) (by omega) (by show m + 2 * n ≤ 40; omega) h (fun c _ _ => rfl)
        generalize hD : (lotS V n sd (D, m)).1 = D' at r1
        generalize hm' : (lotS V n sd (D, m)).2 = m' at r1
        obtain ⟨hk1, hv1, _⟩ := r1.x1 r2
        have c1 : zc 8 133 [.ref 0, .int (iI n), .int (iI sd)] M L (some (.int (iI (sN (cmp (rel (bt (V.run D' m') 0)) (V.run D' m').n) (V.run D' m').n / 2 : Nat)))) (zz_wI M1 36 1 (iI (V.run D' m').n)) (sL L 37 (fun i => lI (bt (V.run D' m') 0 i)) (V.run D' m').n) := by
          refine zc_of (n := 7) (ls := [some (.ref 0), some (.int (iI n)), some (.int (iI sd)), none, none, none]) mk_133 rfl rfl rfl rfl (fun d hd N xs => ?_)
          rw [b_133_0]
          simp (disch := first | omega | assumption) only [iI_lit, t_lt, t_le, iI_to]
          rw [if_neg (by omega), if_neg (by omega), if_neg (by omega), if_pos (by omega), b_133_2, hv.n, if_neg (by rw [t_eq, iI_to (by omega) (by omega), show (0 : Int32).toInt = 0 from rfl]; omega), b_133_3, show (2 : Int32) = iI 2 from rfl, iI_mul, show (2 : Int) * (n : Int) = ((2 * n : Nat) : Int) by omega, g_51 M L m (2 * n) h13 hm40 (by omega) (by omega), b2_t (by omega), b_133_4, if_neg (show ¬ iI 1 = (0 : Int32) from iI10), b_133_5, iI_long (by omega) (by omega)]
          refine (r4 d (by omega) N xs).trans ?_
          rw [b_133_10, g_147 M1 L (V.run D' m') hk1 hv1 (by omega), b_133_11]
        have e1 : agR (zz_wI M1 36 1 (iI (V.run D' m').n)) M := by
          have f := r3 (fun c _ => c = 52 ∨ c = 53 ∨ c = 54) (by omega) (by omega) (by omega)
          refine ⟨?_, ?_, ?_⟩
          · rw [w_ne (by omega)]; exact f 52 1 (by omega)
          · rw [w_ne (by omega)]; funext k; exact f 53 k (by omega)
          · rw [w_ne (by omega)]; funext k; exact f 54 k (by omega)
        obtain ⟨M2, W2, x2, o2, p1, p2, p3, p4⟩ := l_249 (sL L 37 (fun i => lI (bt (V.run D' m') 0 i)) (V.run D' m').n) n (iI sd) (by omega) (by omega) n 0 sd (D, m) (zz_wI M1 36 1 (iI (V.run D' m').n)) M none (by omega) (by omega) (by show m + 2 * n ≤ 40; omega) h e1
        rw [hD, hm'] at p1
        obtain ⟨hk2, hr2, _⟩ := p1.r1 p2
        obtain ⟨hk0, hr0, h0521⟩ := h.r1 e1
        have e0 : zz_wI M1 36 1 (iI (V.run D' m').n) 53 0 = iI (V.run D m).n := hr0.n
        have c2 : zc 8 249 [.ref 52, .int (iI n), .int (iI sd)] (zz_wI M1 36 1 (iI (V.run D' m').n)) (sL L 37 (fun i => lI (bt (V.run D' m') 0 i)) (V.run D' m').n) (some (.int (iI (pout (fun i j => (V.run D' m').mt i j 0) (V.run D' m').n (V.run D' m').n 0 (0, 0, -9)).1))) (m3 (sI M2 61 (fun i => iI ((V.run D' m').minAt i 0)) (V.run D' m').n) (pout (fun i j => (V.run D' m').mt i j 0) (V.run D' m').n (V.run D' m').n 0 (0, 0, -9))) (sL L 37 (fun i => lI (bt (V.run D' m') 0 i)) (V.run D' m').n) := by
          refine zc_of (n := 7) (ls := [some (.ref 52), some (.int (iI n)), some (.int (iI sd)), none, none, none, none]) mk_249 rfl rfl rfl rfl (fun d hd N xs => ?_)
          rw [b_249_0, iI_long (by omega) (by omega), lI_lit, lI_lit, g_157 _ _ n 1 20 (by omega) (by omega) (by omega) (by omega) (by omega) (by omega) (by omega), b_249_1, b2_t (by omega), if_neg (show ¬ iI 1 = (0 : Int32) from iI10), iI_long (by omega) (by omega), lI_lit, lI_lit, g_157 _ _ sd 1 2147483646 (by omega) (by omega) (by omega) (by omega) (by omega) (by omega) (by omega), b2_t (by omega), b_249_2, if_neg (show ¬ iI 1 = (0 : Int32) from iI10), b_249_4, e0, if_neg (by rw [t_eq, iI_to (by omega) (by omega), show (0 : Int32).toInt = 0 from rfl]; omega), b_249_5, h0521, show (2 : Int32) = iI 2 from rfl, iI_mul, iI_add, if_pos (by rw [t_le, iI_to (by omega) (by omega), show (40 : Int32).toInt = 40 from rfl]; omega), b_249_6, iI_long (by omega) (by omega)]
          refine (p4 d (by omega) N xs).trans ?_
          rw [b_249_14, g_201 M2 _ (V.run D' m') hk2 hr2 (by omega), b_249_15]
        rw [nPairs] at c1
        refine ⟨_, _, _, _, _, c1.mono (by omega), c2.mono (by omega), ?_⟩
        have big : ∀ p : Nat → Nat → Prop, (∀ k, ¬ p 23 k) → (∀ k, ¬ p 29 k) → (∀ k, ¬ p 30 k) → ¬ p 36 1 → (∀ k, ¬ p 53 k) → ¬ p 52 1 → (∀ k, ¬ p 61 k) → ¬ p 52 15 → ¬ p 52 16 → eqs M (m3 (sI M2 61 (fun i => iI ((V.run D' m').minAt i 0)) (V.run D' m').n) (pout (fun i j => (V.run D' m').mt i j 0) (V.run D' m').n (V.run D' m').n 0 (0, 0, -9))) p := fun p a1 a2 a3 a4 a5 a6 a7 a8 a9 => (((((r3 p a1 a2 a3).w a4).tr (p3 p a5 a6)).r a7).w a8).w a9
        refine ⟨hI.1.cg (big pR ?_ ?_ ?_ ?_ ?_ ?_ ?_ ?_ ?_), hI.2.1.cg (big pT ?_ ?_ ?_ ?_ ?_ ?_ ?_ ?_ ?_), hI.2.2.1.cg (big pD ?_ ?_ ?_ ?_ ?_ ?_ ?_ ?_ ?_), hI.2.2.2.1.cg (big pF ?_ ?_ ?_ ?_ ?_ ?_ ?_ ?_ ?_), ?_, hI.2.2.2.2.2.cg (sL_SL _ _ _ _ (by omega) (by omega))⟩
        all_goals first | (unfold pR; omega) | (unfold pT; omega) | (unfold pD; omega) | (unfold pF; omega) | skip
        refine HD.hs (HD.mk2 r1 p1 (fun c c1 c2 => ?_) ⟨?_, ?_, ?_⟩)
        · have f := p3 (fun c _ => 23 ≤ c ∧ c ≤ 35) (by omega) (by omega)
          rw [m3_ne _ _ (by omega), sI_ne (by omega), ← r2 c c1 c2]
          funext k
          rw [f c k ⟨c1, c2⟩, w_ne (by omega)]
        · rw [m3_1, sI_ne (by omega)]; exact p2.1
        · rw [m3_ne _ _ (by omega), sI_ne (by omega)]; exact p2.2.1
        · rw [m3_ne _ _ (by omega), sI_ne (by omega)]; exact p2.2.2
  · exact Ok.same hI (s_133B M L z y z1 z2 y1 y2 q) (s_249B M L z y z1 z2 y1 y2 q) (by omega) (by omega)

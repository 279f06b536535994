/-! sounds, room, of both. -/
def lm (M : Nat → Nat → Int32) (x : Nat) : Nat → Nat → Int32 := sI M 62 (fun m => if x.testBit m = true then iI 1 else iI 0) 60
theorem lm_ne {M : Nat → Nat → Int32} {x c : Nat} (h : c ≠ 62) : lm M x c = M c := sI_ne h
theorem lm_at {M : Nat → Nat → Int32} {x j : Nat} (h : j < 60) : lm M x 62 j = if x.testBit j = true then iI 1 else iI 0 := sI_in h
theorem lm_w {M : Nat → Nat → Int32} {x j : Nat} (h : j < 60) : zz_wI (lm M x) 62 j (iI 1) = lm M (x ||| (1 <<< j)) := by
  funext c k
  rw [w_val]
  by_cases q : c = 62
  · subst q
    by_cases q2 : k = j
    · subst q2
      rw [if_pos ⟨rfl, rfl⟩, lm_at h, if_pos]
      rw [Nat.testBit_or, Bool.or_eq_true, one_bit]
      exact Or.inr rfl
    · rw [if_neg (by omega)]
      by_cases q3 : k < 60
      · rw [lm_at q3, lm_at q3]
        have e : (x ||| (1 <<< j)).testBit k = true ↔ x.testBit k = true := by
          rw [Nat.testBit_or, Bool.or_eq_true, one_bit]
          constructor
          · rintro (a | a)
            · exact a
            · exact absurd a q2
          · exact Or.inl
        by_cases q4 : x.testBit k = true
        · rw [if_pos q4, if_pos (e.2 q4)]
        · rw [if_neg q4, if_neg (fun a => q4 (e.1 a))]
      · unfold lm sI
        rw [rr_at, rr_at, if_neg q3, if_neg q3]
  · rw [if_neg (by omega), lm_ne q, lm_ne q]
theorem lm_0 (M : Nat → Nat → Int32) : sI M 62 (fun _ => iI 0) 60 = lm M 0 := by
  unfold lm
  congr 1
  funext m
  rw [Nat.zero_testBit]
  rfl
theorem rg_0 (a : Nat) : rg a 0 = 0 := by
  unfold rg tn
  simp
theorem rg_s {a k : Nat} (ha : a < 60) (hk : k < 9) : rg a k ||| (1 <<< ((a + k) % 60)) = rg a (k + 1) := by
  apply Nat.eq_of_testBit_eq
  intro m
  rw [Bool.eq_iff_iff, Nat.testBit_or, Bool.or_eq_true, one_bit, rg_bit (by omega) ha, rg_bit (by omega) ha, Bool.and_eq_true, Bool.and_eq_true, decide_eq_true_eq, decide_eq_true_eq, decide_eq_true_eq]
  omega
theorem lm_eqs (M : Nat → Nat → Int32) (x : Nat) : eqs M (lm M x) pA := eqs.rf.r (by unfold pA pR pT pD pF pH; omega)
theorem cZ_64 {x : Nat} (h : x < 2 ^ 60) : cZ (fun k => x.testBit k = true) 64 = cZ (fun k => x.testBit k = true) 60 := by
  rw [show (64 : Nat) = 60 + 4 from rfl, cZ_add]
  have : ¬ 0 < cZ (fun k => x.testBit (60 + k) = true) 4 := by
    rw [cZ_pos]
    rintro ⟨k, _, hk⟩
    rw [Nat.testBit_lt_two_pow (Nat.lt_of_lt_of_le h (Nat.pow_le_pow_right (by omega) (by omega)))] at hk
    cases hk
  omega
theorem lN_quiet {r x : Nat} (hr : r < 2 ^ 60) (hx : x < 2 ^ 60) : lI r &&& ((1152921504606846975 &&& (lI x ^^^ (-1))) ^^^ (-1)) = lI r &&& lI x := by
  rw [← Int64.toBitVec_inj]
  simp only [Int64.toBitVec_and, Int64.toBitVec_xor, lN_bv]
  rw [show (1152921504606846975 : Int64).toBitVec = BitVec.ofNat 64 (2 ^ 60 - 1) from rfl, show (-1 : Int64).toBitVec = BitVec.allOnes 64 from rfl]
  apply BitVec.eq_of_getLsbD_eq
  intro i hi
  simp only [BitVec.getLsbD_and, BitVec.getLsbD_xor, BitVec.getLsbD_ofNat, BitVec.getLsbD_allOnes, Nat.testBit_two_pow_sub_one, hi, decide_true, Bool.true_and]
  by_cases q : i < 60
  · simp only [q, decide_true, Bool.true_and]
    cases r.testBit i <;> cases x.testBit i <;> rfl
  · have e : r.testBit i = false := Nat.testBit_lt_two_pow (Nat.lt_of_lt_of_le hr (Nat.pow_le_pow_right (by omega) (by omega)))
    rw [e]
    rfl
abbrev qt (x w m : Nat) : Prop := rg m w &&& x = 0
theorem qt_iff {x w m : Nat} (hw : w ≤ 9) (hm : m < 60) : cZ (fun j => x.testBit ((m + j) % 60) = true) w = 0 ↔ qt x w m := by
  have h1 := @cZ_pos (fun j => x.testBit ((m + j) % 60) = true) _ w
  have h2 : rg m w &&& x ≠ 0 ↔ ∃ k, k < w ∧ x.testBit ((m + k) % 60) = true := by
    rw [and_ne]
    constructor
    · rintro ⟨b, b1, b2⟩
      rw [rg_bit hw hm, Bool.and_eq_true, decide_eq_true_eq, decide_eq_true_eq] at b1
      refine ⟨(b + (60 - m)) % 60, b1.2, ?_⟩
      rw [show (m + (b + (60 - m)) % 60) % 60 = b by omega]
      exact b2
    · rintro ⟨k, k1, k2⟩
      refine ⟨(m + k) % 60, ?_, k2⟩
      rw [rg_bit hw hm, Bool.and_eq_true, decide_eq_true_eq, decide_eq_true_eq]
      omega
  constructor
  · intro h
    by_cases q : qt x w m
    · exact q
    · have := h1.2 (h2.1 q)
      omega
  · intro h
    by_cases q : 0 < cZ (fun j => x.testBit ((m + j) % 60) = true) w
    · exact absurd h (h2.2 (h1.1 q))
    · omega
section ZR
variable (M : Nat → Nat → Int32) (L : Nat → Nat → Int64)
theorem l_219 {d : Nat} (hd : 5 ≤ d) (N : Nat) (xs : Nat → Int32) (V : Vw) (hk : Vk V) (hr : Rv V (M 53) 0) (n : Nat) (h : n ≤ 420) : ∀ (c i : Nat) (o3 o4 : Option Value), i + c = V.n → zz_X (zz_call_ d) tb_219 3 [some (.ref 52), some (.int (iI n)), some (.int (iI i)), o3, o4] [] (zm N xs (lm M (oR (bt V n) i)) L) = some (none, zm N xs (lm M (oR (bt V n) V.n)) L)
  | 0, i, o3, o4, hc => by
    have hn := hk.n
    have e0 : lm M (oR (bt V n) i) 53 0 = iI V.n := by rw [lm_ne (by omega)]; exact hr.n
    rw [b_219_3, e0, if_pos (by rw [t_le, iI_to (by omega) (by omega), iI_to (by omega) (by omega)]; omega), b_219_8, show i = V.n by omega]
  | c + 1, i, o3, o4, hc => by
    have hn := hk.n
    have hs := span_b (V.kind i)
    have e0 : lm M (oR (bt V n) i) 53 0 = iI V.n := by rw [lm_ne (by omega)]; exact hr.n
    have hr2 : ∀ x, Rv V (lm M x 53) 0 := fun x => by rw [lm_ne (by omega)]; exact hr
    have hma := minAt_b V i n
    obtain ⟨a, ha⟩ : ∃ a : Nat, V.minAt i n = a := ⟨(V.minAt i n).toNat, by omega⟩
    have eb : bt V n i = rg a (span (V.kind i)) := by show rg (V.minAt i n).toNat _ = _; rw [ha]; rfl
    rw [b_219_3, e0, if_neg (by rw [t_le, iI_to (by omega) (by omega), iI_to (by omega) (by omega)]; omega), g_190 _ L V hk (hr2 _) i n (by omega) (by omega) (by omega), b_219_4, ha]
    have hl := upto (fun k : Nat => zz_X (zz_call_ d) tb_219 5 [some (.ref 52), some (.int (iI n)), some (.int (iI i)), some (.int (iI a)), some (.int (iI k))] [] (zm N xs (lm M (oR (bt V n) i ||| rg a k)) L)) (span (V.kind i)) (fun k hkc => by
      show zz_X (zz_call_ d) tb_219 5 _ _ _ = zz_X (zz_call_ d) tb_219 5 _ _ _
      rw [b_219_5, show (10 : Int32) = iI 10 from rfl, iI_add, show (10 : Int) + (i : Int) = ((0 + (10 + i) : Nat) : Int) by omega, ix_nat (by omega) (by omega), o_some, (hr2 _).kind i (by omega), g_186 _ L _ (hk.kind i) (by omega), b_219_6, if_neg (by rw [t_le, iI_to (by omega) (by omega), iI_to (by omega) (by omega)]; omega), iI_add, show (60 : Int32) = iI 60 from rfl, iI_rem (by omega) (by omega) (by omega) (by omega), show ((a : Int) + (k : Int)).tmod 60 = (((a + k) % 60 : Nat) : Int) from rfl, ix_nat (by omega) (by omega), o_some, show (1 : Int32) = iI 1 from rfl, lm_w (by omega), Nat.or_assoc, rg_s (by omega) (by omega), iI_add]
      rfl)
    rw [rg_0, Nat.or_zero] at hl
    refine Eq.trans hl ?_
    show zz_X (zz_call_ d) tb_219 5 _ _ _ = _
    rw [b_219_5, show (10 : Int32) = iI 10 from rfl, iI_add, show (10 : Int) + (i : Int) = ((0 + (10 + i) : Nat) : Int) by omega, ix_nat (by omega) (by omega), o_some, (hr2 _).kind i (by omega), g_186 _ L _ (hk.kind i) (by omega), b_219_6, if_pos (by rw [t_le]; omega), b_219_7, show (1 : Int32) = iI 1 from rfl, iI_add, ← eb]
    exact l_219 hd N xs V hk hr n h c (i + 1) _ _ (by omega)
theorem s_219 (V : Vw) (hk : Vk V) (hr : Rv V (M 53) 0) (n : Nat) (h : n ≤ 420) : zc 6 219 [.ref 52, .int (iI n)] M L none (lm M (oR (bt V n) V.n)) L := by
  refine zc_of (n := 5) (ls := [some (.ref 52), some (.int (iI n)), none, none, none]) mk_219 rfl rfl rfl rfl (fun d hd N xs => ?_)
  rw [b_219_0]
  have hl := upto (fun k : Nat => zz_X (zz_call_ d) tb_219 1 [some (.ref 52), some (.int (iI n)), some (.int (iI k)), none, none] [] (zm N xs (sI M 62 (fun _ => iI 0) k) L)) 60 (fun k hkc => by
    show zz_X (zz_call_ d) tb_219 1 _ _ _ = zz_X (zz_call_ d) tb_219 1 _ _ _
    rw [b_219_1, if_neg (by rw [t_le, show (60 : Int32).toInt = 60 from rfl, iI_to (by omega) (by omega)]; omega), ix_nat (by omega) (by omega), o_some, show (0 : Int32) = iI 0 from rfl, sI_s M 62 (fun _ => iI 0) k, show (1 : Int32) = iI 1 from rfl, iI_add]
    rfl)
  simp only [sI_0] at hl
  refine Eq.trans hl ?_
  rw [b_219_1, if_pos (by rw [t_le, show (60 : Int32).toInt = 60 from rfl, iI_to (by omega) (by omega)]; omega), b_219_2, lm_0]
  exact l_219 M L hd N xs V hk hr n h V.n 0 none none (by omega)
theorem g_219 (V : Vw) (hk : Vk V) (hr : Rv V (M 53) 0) (n : Nat) (h : n ≤ 420) {d N : Nat} {xs : Nat → Int32} {tb_ : List zz_B} {t_ : Nat} {ls_ : zz_L} {rest_ : List Value} (hd_ : 6 ≤ d) : (zz_o (zz_call_ d 219 [.ref 52, .int (iI n)] (zm N xs M L)) fun r => zz_X (zz_call_ d) tb_ t_ ls_ (r.1.toList ++ rest_) r.2) = zz_X (zz_call_ d) tb_ t_ ls_ rest_ (zm N xs (lm M (oR (bt V n) V.n)) L) := (s_219 M L V hk hr n h).gov hd_
theorem s_118B (z : Int) (h1 : -2147483648 ≤ z) (h2 : z ≤ 2147483647) (h : ¬ (0 ≤ z ∧ z ≤ 420)) : zc 6 118 [.ref 0, .int (iI z)] M L (some (.int (iI (-1)))) M L := by
  refine zc_of (n := 5) (ls := [some (.ref 0), some (.int (iI z))]) mk_118 rfl rfl rfl rfl (fun d hd N xs => ?_)
  rw [b_118_0, g_149 M L z h1 h2 (by omega), b2_f h, b_118_1, iI_lit 0, if_pos rfl]
  rfl
theorem g_118B (z : Int) (h1 : -2147483648 ≤ z) (h2 : z ≤ 2147483647) (h : ¬ (0 ≤ z ∧ z ≤ 420)) {d N : Nat} {xs : Nat → Int32} {tb_ : List zz_B} {t_ : Nat} {ls_ : zz_L} {rest_ : List Value} (hd_ : 6 ≤ d) : (zz_o (zz_call_ d 118 [.ref 0, .int (iI z)] (zm N xs M L)) fun r => zz_X (zz_call_ d) tb_ t_ ls_ (r.1.toList ++ rest_) r.2) = zz_X (zz_call_ d) tb_ t_ ls_ ((.int (iI (-1))) :: rest_) (zm N xs M L) := (s_118B M L z h1 h2 h).go hd_
theorem s_118O (V : Vw) (hk : Vk V) (hv : Hv V M) (n : Nat) (h : n ≤ 420) : zc 6 118 [.ref 0, .int (iI n)] M L (some (.int (iI (cZ (fun k => (oR (bt V n) V.n).testBit k = true) 60)))) (zz_wI M 36 1 (iI V.n)) (sL L 37 (fun i => lI (bt V n i)) V.n) := by
  refine zc_of (n := 5) (ls := [some (.ref 0), some (.int (iI n))]) mk_118 rfl rfl rfl rfl (fun d hd N xs => ?_)
  have hm := Ms_see M L 36 V hk n
  have hx : oR (bt V n) V.n < 2 ^ 60 := oR_lt hm.2.2.1 V.n
  rw [b_118_0, g_149 M L n (by omega) (by omega) (by omega), b2_t (by omega), b_118_1, iI_lit 0, if_neg iI10, b_118_2, g_43 M L V hk hv n (by omega) (by omega), b_118_3, g_62a M L V hk hv n h (by omega), b_118_4, g_66 _ _ V.n _ hm (by omega), b_118_5, g_10 _ _ _ (Nat.lt_of_lt_of_le hx (by decide)) (by omega), b_118_6, cZ_64 hx]
theorem g_118O (V : Vw) (hk : Vk V) (hv : Hv V M) (n : Nat) (h : n ≤ 420) {d N : Nat} {xs : Nat → Int32} {tb_ : List zz_B} {t_ : Nat} {ls_ : zz_L} {rest_ : List Value} (hd_ : 6 ≤ d) : (zz_o (zz_call_ d 118 [.ref 0, .int (iI n)] (zm N xs M L)) fun r => zz_X (zz_call_ d) tb_ t_ ls_ (r.1.toList ++ rest_) r.2) = zz_X (zz_call_ d) tb_ t_ ls_ ((.int (iI (cZ (fun k => (oR (bt V n) V.n).testBit k = true) 60))) :: rest_) (zm N xs (zz_wI M 36 1 (iI V.n)) (sL L 37 (fun i => lI (bt V n i)) V.n)) := (s_118O M L V hk hv n h).go hd_
theorem s_220B (z : Int) (h1 : -2147483648 ≤ z) (h2 : z ≤ 2147483647) (h : ¬ (0 ≤ z ∧ z ≤ 420)) : zc 7 220 [.ref 52, .int (iI z)] M L (some (.int (iI (-1)))) M L := by
  refine zc_of (n := 6) (ls := [some (.ref 52), some (.int (iI z)), none, none]) mk_220 rfl rfl rfl rfl (fun d hd N xs => ?_)
  rw [b_220_0, g_209 M L z h1 h2 (by omega), b2_f h, b_220_1, iI_lit 0, if_pos rfl]
  rfl
theorem g_220B (z : Int) (h1 : -2147483648 ≤ z) (h2 : z ≤ 2147483647) (h : ¬ (0 ≤ z ∧ z ≤ 420)) {d N : Nat} {xs : Nat → Int32} {tb_ : List zz_B} {t_ : Nat} {ls_ : zz_L} {rest_ : List Value} (hd_ : 7 ≤ d) : (zz_o (zz_call_ d 220 [.ref 52, .int (iI z)] (zm N xs M L)) fun r => zz_X (zz_call_ d) tb_ t_ ls_ (r.1.toList ++ rest_) r.2) = zz_X (zz_call_ d) tb_ t_ ls_ ((.int (iI (-1))) :: rest_) (zm N xs M L) := (s_220B M L z h1 h2 h).go hd_
theorem s_220O (V : Vw) (hk : Vk V) (hr : Rv V (M 53) 0) (n : Nat) (h : n ≤ 420) : zc 7 220 [.ref 52, .int (iI n)] M L (some (.int (iI (cZ (fun k => (oR (bt V n) V.n).testBit k = true) 60)))) (lm M (oR (bt V n) V.n)) L := by
  refine zc_of (n := 6) (ls := [some (.ref 52), some (.int (iI n)), none, none]) mk_220 rfl rfl rfl rfl (fun d hd N xs => ?_)
  rw [b_220_0, g_209 M L n (by omega) (by omega) (by omega), b2_t (by omega), b_220_1, iI_lit 0, if_neg iI10, b_220_2, g_219 M L V hk hr n h (by omega), b_220_3]
  generalize oR (bt V n) V.n = x
  have hl := upto (fun k : Nat => zz_X (zz_call_ d) tb_220 4 [some (.ref 52), some (.int (iI n)), some (.int (iI (cZ (fun k => x.testBit k = true) k))), some (.int (iI k))] [] (zm N xs (lm M x) L)) 60 (fun k hkc => by
    show zz_X (zz_call_ d) tb_220 4 _ _ _ = zz_X (zz_call_ d) tb_220 4 _ _ _
    rw [b_220_4, if_neg (by rw [t_le, show (60 : Int32).toInt = 60 from rfl, iI_to (by omega) (by omega)]; omega), ix_nat (by omega) (by omega), o_some, lm_at hkc]
    by_cases q : x.testBit k = true
    · rw [if_pos q, if_neg (show ¬ iI 1 = (0 : Int32) from iI10), b_220_6, cZ_t (p := fun k => x.testBit k = true) q, show (1 : Int32) = iI 1 from rfl, iI_add, iI_add]
      rfl
    · rw [if_neg q, if_pos (show iI 0 = (0 : Int32) from rfl), b_220_5, b_220_6, cZ_f (p := fun k => x.testBit k = true) q, show (1 : Int32) = iI 1 from rfl, show (0 : Int32) = iI 0 from rfl, iI_add, iI_add, Int.add_zero]
      rfl)
  refine Eq.trans hl ?_
  show zz_X (zz_call_ d) tb_220 4 _ _ _ = _
  rw [b_220_4, if_pos (by rw [t_le, show (60 : Int32).toInt = 60 from rfl, iI_to (by omega) (by omega)]; omega), b_220_7]
theorem g_220O (V : Vw) (hk : Vk V) (hr : Rv V (M 53) 0) (n : Nat) (h : n ≤ 420) {d N : Nat} {xs : Nat → Int32} {tb_ : List zz_B} {t_ : Nat} {ls_ : zz_L} {rest_ : List Value} (hd_ : 7 ≤ d) : (zz_o (zz_call_ d 220 [.ref 52, .int (iI n)] (zm N xs M L)) fun r => zz_X (zz_call_ d) tb_ t_ ls_ (r.1.toList ++ rest_) r.2) = zz_X (zz_call_ d) tb_ t_ ls_ ((.int (iI (cZ (fun k => (oR (bt V n) V.n).testBit k = true) 60))) :: rest_) (zm N xs (lm M (oR (bt V n) V.n)) L) := (s_220O M L V hk hr n h).go hd_
theorem s_119B (z y : Int) (h1 : -2147483648 ≤ z) (h2 : z ≤ 2147483647) (h3 : -2147483648 ≤ y) (h4 : y ≤ 2147483647) (h : ¬ ((0 ≤ z ∧ z ≤ 420) ∧ 1 ≤ y ∧ y ≤ 9)) : zc 6 119 [.ref 0, .int (iI z), .int (iI y)] M L (some (.int (iI (-1)))) M L := by
  refine zc_of (n := 5) (ls := [some (.ref 0), some (.int (iI z)), some (.int (iI y)), none, none, none, none, none]) mk_119 rfl rfl rfl rfl (fun d hd N xs => ?_)
  simp (disch := first | omega | assumption) only [b_119_0, b_119_1, b_119_2, g_149, iI_lit, iI_neg, iI_add, iI_sub, iI_mul, t_lt, t_le, t_eq, iI_to, b2_to, if_10, if_11, nor_em, Decidable.not_not, Int.reduceEq, Int.reduceLT, Int.reduceLE, Int.reduceAdd, Int.reduceSub, Int.reduceMul, Int.reduceNeg, reduceIte, or_true, true_or, or_false, false_or, o_some]
  repeat' split
  all_goals first | rfl | (exfalso; omega)
theorem g_119B (z y : Int) (h1 : -2147483648 ≤ z) (h2 : z ≤ 2147483647) (h3 : -2147483648 ≤ y) (h4 : y ≤ 2147483647) (h : ¬ ((0 ≤ z ∧ z ≤ 420) ∧ 1 ≤ y ∧ y ≤ 9)) {d N : Nat} {xs : Nat → Int32} {tb_ : List zz_B} {t_ : Nat} {ls_ : zz_L} {rest_ : List Value} (hd_ : 6 ≤ d) : (zz_o (zz_call_ d 119 [.ref 0, .int (iI z), .int (iI y)] (zm N xs M L)) fun r => zz_X (zz_call_ d) tb_ t_ ls_ (r.1.toList ++ rest_) r.2) = zz_X (zz_call_ d) tb_ t_ ls_ ((.int (iI (-1))) :: rest_) (zm N xs M L) := (s_119B M L z y h1 h2 h3 h4 h).go hd_
theorem s_119O (V : Vw) (hk : Vk V) (hv : Hv V M) (n w : Nat) (h : n ≤ 420) (hw : 1 ≤ w ∧ w ≤ 9) : zc 6 119 [.ref 0, .int (iI n), .int (iI w)] M L (some (.int (iI (fsF (qt (oR (bt V n) V.n) w) 60 60)))) (zz_wI (zz_wI M 36 1 (iI V.n)) 0 10 (iI (cZ (qt (oR (bt V n) V.n) w) 60))) (sL L 37 (fun i => lI (bt V n i)) V.n) := by
  refine zc_of (n := 5) (ls := [some (.ref 0), some (.int (iI n)), some (.int (iI w)), none, none, none, none, none]) mk_119 rfl rfl rfl rfl (fun d hd N xs => ?_)
  have hm := Ms_see M L 36 V hk n
  have hx : oR (bt V n) V.n < 2 ^ 60 := oR_lt hm.2.2.1 V.n
  rw [b_119_0, g_149 M L n (by omega) (by omega) (by omega), b2_t (by omega), b_119_1, iI_lit 0, if_neg iI10, iI_lit, if_neg (by rw [t_lt, iI_to (by omega) (by omega), iI_to (by omega) (by omega)]; omega), iI_lit, if_pos (by rw [t_le, iI_to (by omega) (by omega), iI_to (by omega) (by omega)]; omega), b_119_3, g_43 M L V hk hv n (by omega) (by omega), b_119_4, g_62a M L V hk hv n h (by omega), b_119_5, g_66 _ _ V.n _ hm (by omega), b_119_6]
  generalize oR (bt V n) V.n = x at *
  have hl := upto (fun k : Nat => zz_X (zz_call_ d) tb_119 7 [some (.ref 0), some (.int (iI n)), some (.int (iI w)), some (.long (1152921504606846975 &&& (lI x ^^^ (-1)))), none, some (.int (iI (fsB (qt x w) 60 (60 - k)))), some (.int (iI ((cZ (qt x w) 60 : Int) - cZ (qt x w) (60 - k)))), some (.int (iI (59 - (k : Int))))] [] (zm N xs (zz_wI M 36 1 (iI V.n)) (sL L 37 (fun i => lI (bt V n i)) V.n))) 60 (fun k hkc => by
    show zz_X (zz_call_ d) tb_119 7 _ _ _ = zz_X (zz_call_ d) tb_119 7 _ _ _
    have hrl : rg (59 - k) w < 2 ^ 60 := tn_lt (2 ^ w - 1) (59 - k)
    rw [b_119_7, if_neg (by rw [t_lt, show (0 : Int32).toInt = 0 from rfl, iI_to (by omega) (by omega)]; omega), show (59 : Int) - (k : Int) = ((59 - k : Nat) : Int) by omega, g_154 _ _ (59 - k) w (by omega) (by omega) (by omega), b_119_8, lN_quiet hrl hx]
    have hz := lgz (a := rg (59 - k) w) (b := x) hrl hx
    by_cases q : qt x w (59 - k)
    · rw [if_pos (hz.2 (fun e => e q)), b_119_9, show 60 - (k + 1) = 59 - k by omega, fsB_t (by omega) q, show 60 - k = 59 - k + 1 by omega, cZ_t (p := qt x w) q, show (-1 : Int32) = iI (-1) from rfl, show (1 : Int32) = iI 1 from rfl, iI_add, iI_add, show ((cZ (qt x w) 60 : Nat) : Int) - ((cZ (qt x w) (59 - k) + 1 : Nat) : Int) + 1 = (cZ (qt x w) 60 : Nat) - (cZ (qt x w) (59 - k) : Nat) by omega, show ((59 - k : Nat) : Int) + -1 = 59 - ((k + 1 : Nat) : Int) by omega]
    · rw [if_neg (fun e => hz.1 e q), b_119_9, show 60 - (k + 1) = 59 - k by omega, fsB_f (by omega) q, show 60 - k = 59 - k + 1 by omega, cZ_f (p := qt x w) q, show (-1 : Int32) = iI (-1) from rfl, iI_add, show ((59 - k : Nat) : Int) + -1 = 59 - ((k + 1 : Nat) : Int) by omega])
  have e0 : fsB (qt x w) 60 (60 - 0) = -9 := fsB_n _ _
  have e1 : ((cZ (qt x w) 60 : Nat) : Int) - ((cZ (qt x w) (60 - 0) : Nat) : Int) = 0 := by show ((cZ (qt x w) 60 : Nat) : Int) - ((cZ (qt x w) 60 : Nat) : Int) = 0; omega
  simp only [e0, e1] at hl
  refine Eq.trans hl ?_
  rw [b_119_7, if_pos (by rw [t_lt, show (0 : Int32).toInt = 0 from rfl, iI_to (by omega) (by omega)]; omega), b_119_10, show 60 - 60 = 0 from rfl, fsB_0, show ((cZ (qt x w) 0 : Nat) : Int) = 0 from rfl, Int.sub_zero]
theorem g_119O (V : Vw) (hk : Vk V) (hv : Hv V M) (n w : Nat) (h : n ≤ 420) (hw : 1 ≤ w ∧ w ≤ 9) {d N : Nat} {xs : Nat → Int32} {tb_ : List zz_B} {t_ : Nat} {ls_ : zz_L} {rest_ : List Value} (hd_ : 6 ≤ d) : (zz_o (zz_call_ d 119 [.ref 0, .int (iI n), .int (iI w)] (zm N xs M L)) fun r => zz_X (zz_call_ d) tb_ t_ ls_ (r.1.toList ++ rest_) r.2) = zz_X (zz_call_ d) tb_ t_ ls_ ((.int (iI (fsF (qt (oR (bt V n) V.n) w) 60 60))) :: rest_) (zm N xs (zz_wI (zz_wI M 36 1 (iI V.n)) 0 10 (iI (cZ (qt (oR (bt V n) V.n) w) 60))) (sL L 37 (fun i => lI (bt V n i)) V.n)) := (s_119O M L V hk hv n w h hw).go hd_
theorem s_221B (z y : Int) (h1 : -2147483648 ≤ z) (h2 : z ≤ 2147483647) (h3 : -2147483648 ≤ y) (h4 : y ≤ 2147483647) (h : ¬ ((0 ≤ z ∧ z ≤ 420) ∧ 1 ≤ y ∧ y ≤ 9)) : zc 7 221 [.ref 52, .int (iI z), .int (iI y)] M L (some (.int (iI (-1)))) M L := by
  refine zc_of (n := 6) (ls := [some (.ref 52), some (.int (iI z)), some (.int (iI y)), none, none, none, none, none]) mk_221 rfl rfl rfl rfl (fun d hd N xs => ?_)
  rw [b_221_0, g_209 M L z h1 h2 (by omega), b_221_1]
  by_cases q : 0 ≤ z ∧ z ≤ 420
  · rw [b2_t q, if_neg (show ¬ iI 1 = (0 : Int32) from iI10), iI_long h3 h4, lI_lit, lI_lit, g_157 M L y 1 9 (by omega) (by omega) (by omega) (by omega) (by omega) (by omega) (by omega), b2_f (by omega), b_221_2, if_pos (show iI 0 = (0 : Int32) from rfl), b_221_3]
    rfl
  · rw [b2_f q, if_pos (show iI 0 = (0 : Int32) from rfl), b_221_3]
    rfl
theorem g_221B (z y : Int) (h1 : -2147483648 ≤ z) (h2 : z ≤ 2147483647) (h3 : -2147483648 ≤ y) (h4 : y ≤ 2147483647) (h : ¬ ((0 ≤ z ∧ z ≤ 420) ∧ 1 ≤ y ∧ y ≤ 9)) {d N : Nat} {xs : Nat → Int32} {tb_ : List zz_B} {t_ : Nat} {ls_ : zz_L} {rest_ : List Value} (hd_ : 7 ≤ d) : (zz_o (zz_call_ d 221 [.ref 52, .int (iI z), .int (iI y)] (zm N xs M L)) fun r => zz_X (zz_call_ d) tb_ t_ ls_ (r.1.toList ++ rest_) r.2) = zz_X (zz_call_ d) tb_ t_ ls_ ((.int (iI (-1))) :: rest_) (zm N xs M L) := (s_221B M L z y h1 h2 h3 h4 h).go hd_
theorem l_221 {d : Nat} (hd : 5 ≤ d) (N : Nat) (xs : Nat → Int32) (n : Int32) (w x : Nat) (hw : 1 ≤ w ∧ w ≤ 9) : ∀ (c m : Nat) (o6 o7 : Option Value), m + c = 60 → zz_X (zz_call_ d) tb_221 6 [some (.ref 52), some (.int n), some (.int (iI w)), some (.int (iI (cZ (qt x w) m))), some (.int (iI (fsF (qt x w) 60 m))), some (.int (iI m)), o6, o7] [] (zm N xs (lm M x) L) = some (some (.int (iI (fsF (qt x w) 60 60))), zm N xs (zz_wI (lm M x) 52 10 (iI (cZ (qt x w) 60))) L)
  | 0, m, o6, o7, hc => by
    rw [b_221_6, if_pos (by rw [t_le, show (60 : Int32).toInt = 60 from rfl, iI_to (by omega) (by omega)]; omega), b_221_15, g_162 _ _ _ _ (by omega), b_221_16, show m = 60 by omega]
  | c + 1, m, o6, o7, hc => by
    rw [b_221_6, if_neg (by rw [t_le, show (60 : Int32).toInt = 60 from rfl, iI_to (by omega) (by omega)]; omega)]
    have hl := upto (fun k : Nat => zz_X (zz_call_ d) tb_221 7 [some (.ref 52), some (.int n), some (.int (iI w)), some (.int (iI (cZ (qt x w) m))), some (.int (iI (fsF (qt x w) 60 m))), some (.int (iI m)), some (.int (b2 (cZ (fun j => x.testBit ((m + j) % 60) = true) k = 0))), some (.int (iI k))] [] (zm N xs (lm M x) L)) w (fun k hkc => by
      show zz_X (zz_call_ d) tb_221 7 _ _ _ = zz_X (zz_call_ d) tb_221 7 _ _ _
      have l9 : ∀ v : Int32, zz_X (zz_call_ d) tb_221 9 [some (.ref 52), some (.int n), some (.int (iI w)), some (.int (iI (cZ (qt x w) m))), some (.int (iI (fsF (qt x w) 60 m))), some (.int (iI m)), some (.int (b2 (cZ (fun j => x.testBit ((m + j) % 60) = true) k = 0))), some (.int (iI k))] [.int v] (zm N xs (lm M x) L) = zz_X (zz_call_ d) tb_221 7 [some (.ref 52), some (.int n), some (.int (iI w)), some (.int (iI (cZ (qt x w) m))), some (.int (iI (fsF (qt x w) 60 m))), some (.int (iI m)), some (.int v), some (.int (iI ((k + 1 : Nat) : Int)))] [] (zm N xs (lm M x) L) := by
        intro v
        rw [b_221_9, show (1 : Int32) = iI 1 from rfl, iI_add]
        rfl
      rw [b_221_7, if_neg (by rw [t_le, iI_to (by omega) (by omega), iI_to (by omega) (by omega)]; omega)]
      by_cases q : cZ (fun j => x.testBit ((m + j) % 60) = true) k = 0
      · rw [b2_t q] at l9 ⊢
        rw [if_neg (show ¬ iI 1 = (0 : Int32) from iI10), iI_add, show (60 : Int32) = iI 60 from rfl, iI_rem (by omega) (by omega) (by omega) (by omega), show ((m : Int) + (k : Int)).tmod 60 = (((m + k) % 60 : Nat) : Int) from rfl, ix_nat (by omega) (by omega), o_some, lm_at (by omega)]
        by_cases q2 : x.testBit ((m + k) % 60) = true
        · rw [if_pos q2, if_neg (show ¬ iI 1 = (0 : Int32) from iI10), b_221_8, l9, cZ_t (p := fun j => x.testBit ((m + j) % 60) = true) q2, b2_f (by omega)]
          rfl
        · rw [if_neg q2, if_pos (show iI 0 = (0 : Int32) from rfl), l9, cZ_f (p := fun j => x.testBit ((m + j) % 60) = true) q2, b2_t q]
          rfl
      · have q3 : ¬ cZ (fun j => x.testBit ((m + j) % 60) = true) (k + 1) = 0 := by
          have := cZ_mono (fun j => x.testBit ((m + j) % 60) = true) (Nat.le_succ k)
          show ¬ cZ (fun j => x.testBit ((m + j) % 60) = true) (Nat.succ k) = 0
          omega
        rw [b2_f q] at l9 ⊢
        rw [if_pos (show iI 0 = (0 : Int32) from rfl), b_221_8, l9, b2_f q3]
        rfl)
    refine Eq.trans hl ?_
    show zz_X (zz_call_ d) tb_221 7 _ _ _ = _
    have hq := qt_iff (x := x) (w := w) (m := m) hw.2 (by omega)
    have hb := cZ_le (qt x w) m
    have hfb := fsF_b (qt x w) 60 m
    rw [b_221_7, if_pos (by rw [t_le]; omega), b_221_10]
    by_cases q : qt x w m
    · rw [b2_t (hq.2 q), if_neg (show ¬ iI 1 = (0 : Int32) from iI10)]
      have ih := fun o6 o7 => l_221 hd N xs n w x hw c (m + 1) o6 o7 (by omega)
      rw [fsF_t (p := qt x w) (by omega) q, cZ_t (p := qt x w) q] at ih
      by_cases q0 : cZ (qt x w) m = 0
      · rw [if_pos (by rw [q0]; rfl), b_221_12, if_neg (show ¬ iI 1 = (0 : Int32) from iI10), b_221_14, show (1 : Int32) = iI 1 from rfl, iI_add, iI_add]
        rw [if_pos q0] at ih
        exact ih _ _
      · rw [if_neg (by rw [t_eq, iI_to (by omega) (by omega), show (0 : Int32).toInt = 0 from rfl]; omega), b_221_11, b_221_12, if_neg (show ¬ iI 1 = (0 : Int32) from iI10), b_221_14, show (1 : Int32) = iI 1 from rfl, iI_add, iI_add]
        rw [if_neg q0] at ih
        exact ih _ _
    · have ih := fun o6 o7 => l_221 hd N xs n w x hw c (m + 1) o6 o7 (by omega)
      rw [fsF_f (p := qt x w) q, cZ_f (p := qt x w) q] at ih
      rw [b2_f (fun e => q (hq.1 e)), if_pos (show iI 0 = (0 : Int32) from rfl), b_221_11, b_221_12, if_pos (show iI 0 = (0 : Int32) from rfl), b_221_13, b_221_14, show (1 : Int32) = iI 1 from rfl, show (0 : Int32) = iI 0 from rfl, iI_add, iI_add, Int.add_zero]
      exact ih _ _
theorem s_221O (V : Vw) (hk : Vk V) (hr : Rv V (M 53) 0) (n w : Nat) (h : n ≤ 420) (hw : 1 ≤ w ∧ w ≤ 9) : zc 7 221 [.ref 52, .int (iI n), .int (iI w)] M L (some (.int (iI (fsF (qt (oR (bt V n) V.n) w) 60 60)))) (zz_wI (lm M (oR (bt V n) V.n)) 52 10 (iI (cZ (qt (oR (bt V n) V.n) w) 60))) L := by
  refine zc_of (n := 6) (ls := [some (.ref 52), some (.int (iI n)), some (.int (iI w)), none, none, none, none, none]) mk_221 rfl rfl rfl rfl (fun d hd N xs => ?_)
  rw [b_221_0, g_209 M L n (by omega) (by omega) (by omega), b2_t (by omega), b_221_1, if_neg (show ¬ iI 1 = (0 : Int32) from iI10), iI_long (by omega) (by omega), lI_lit, lI_lit, g_157 M L w 1 9 (by omega) (by omega) (by omega) (by omega) (by omega) (by omega) (by omega), b2_t (by omega), b_221_2, if_neg (show ¬ iI 1 = (0 : Int32) from iI10), b_221_4, g_219 M L V hk hr n h (by omega), b_221_5]
  exact l_221 M L (by omega) N xs (iI n) w _ hw 60 0 none none (by omega)
theorem g_221O (V : Vw) (hk : Vk V) (hr : Rv V (M 53) 0) (n w : Nat) (h : n ≤ 420) (hw : 1 ≤ w ∧ w ≤ 9) {d N : Nat} {xs : Nat → Int32} {tb_ : List zz_B} {t_ : Nat} {ls_ : zz_L} {rest_ : List Value} (hd_ : 7 ≤ d) : (zz_o (zz_call_ d 221 [.ref 52, .int (iI n), .int (iI w)] (zm N xs M L)) fun r => zz_X (zz_call_ d) tb_ t_ ls_ (r.1.toList ++ rest_) r.2) = zz_X (zz_call_ d) tb_ t_ ls_ ((.int (iI (fsF (qt (oR (bt V n) V.n) w) 60 60))) :: rest_) (zm N xs (zz_wI (lm M (oR (bt V n) V.n)) 52 10 (iI (cZ (qt (oR (bt V n) V.n) w) 60))) L) := (s_221O M L V hk hr n w h hw).go hd_
end ZR
theorem o_sounds {M : Nat → Nat → Int32} {L : Nat → Nat → Int64} (a : Int32) (hI : Inv M L) : Ok 118 220 [.int a] M L := by
  obtain ⟨z, h1, h2, rfl⟩ := iI_of a
  obtain ⟨V, hk, hv, hr⟩ := hI.view
  by_cases q : 0 ≤ z ∧ z ≤ 420
  · obtain ⟨n, rfl⟩ : ∃ x : Nat, z = x := ⟨z.toNat, by omega⟩
    refine ⟨_, _, _, _, _, (s_118O M L V hk hv n (by omega)).mono (by omega), (s_220O _ _ V hk (by rw [w_ne (by omega)]; exact hr) n (by omega)).mono (by omega), hI.cg ?_ (sL_SL _ _ _ _ (by omega) (by omega))⟩
    exact (eqs.rf.w (by unfold pA pR pT pD pF pH; omega)).tr (lm_eqs _ _)
  · exact Ok.same hI (s_118B M L z h1 h2 q) (s_220B M L z h1 h2 q) (by omega) (by omega)
theorem o_room {M : Nat → Nat → Int32} {L : Nat → Nat → Int64} (a b : Int32) (hI : Inv M L) : Ok 119 221 [.int a, .int b] M L := by
  obtain ⟨z, h1, h2, rfl⟩ := iI_of a
  obtain ⟨y, h3, h4, rfl⟩ := iI_of b
  obtain ⟨V, hk, hv, hr⟩ := hI.view
  by_cases q : (0 ≤ z ∧ z ≤ 420) ∧ 1 ≤ y ∧ y ≤ 9
  · obtain ⟨n, rfl⟩ : ∃ x : Nat, z = x := ⟨z.toNat, by omega⟩
    obtain ⟨w, rfl⟩ : ∃ x : Nat, y = x := ⟨y.toNat, by omega⟩
    refine Ok.tells (x := iI (cZ (qt (oR (bt V n) V.n) w) 60)) hI (s_119O M L V hk hv n w (by omega) (by omega)) (s_221O _ _ V hk (by rw [w_ne (by omega), w_ne (by omega)]; exact hr) n w (by omega) (by omega)) ?_ ?_ (sL_SL _ _ _ _ (by omega) (by omega)) SL.rf (by omega) (by omega)
    · exact eqs.ww (eqs.rf.w (by unfold pA pR pT pD pF pH; omega))
    · exact eqs.ww (lm_eqs _ _)
  · exact Ok.same hI (s_119B M L z y h1 h2 h3 h4 q) (s_221B M L z y h1 h2 h3 h4 q) (by omega) (by omega)

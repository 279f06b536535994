/-! keep, of both. -/
section ZR
variable (M : Nat → Nat → Int32) (L : Nat → Nat → Int64)
theorem s_111B (z : Int) (h1 : -2147483648 ≤ z) (h2 : z ≤ 2147483647) (h : ¬ (0 ≤ z ∧ z < 3)) : zc 3 111 [.ref 0, .int (iI z)] M L (some (.int (iI (-1)))) M L := by
  refine zc_of (n := 2) (ls := [some (.ref 0), some (.int (iI z))]) mk_111 rfl rfl rfl rfl (fun d hd N xs => ?_)
  simp (disch := first | omega | assumption) only [b_111_0, b_111_1, iI_lit, iI_neg, iI_add, iI_sub, iI_mul, t_lt, t_le, t_eq, iI_to, b2_to, if_10, if_11, nor_em, Decidable.not_not, Int.reduceEq, Int.reduceLT, Int.reduceLE, Int.reduceAdd, Int.reduceSub, Int.reduceMul, Int.reduceNeg, reduceIte, or_true, true_or, or_false, false_or, o_some]
  repeat' split
  all_goals first | rfl | (exfalso; omega)
theorem g_111B (z : Int) (h1 : -2147483648 ≤ z) (h2 : z ≤ 2147483647) (h : ¬ (0 ≤ z ∧ z < 3)) {d N : Nat} {xs : Nat → Int32} {tb_ : List zz_B} {t_ : Nat} {ls_ : zz_L} {rest_ : List Value} (hd_ : 3 ≤ d) : (zz_o (zz_call_ d 111 [.ref 0, .int (iI z)] (zm N xs M L)) fun r => zz_X (zz_call_ d) tb_ t_ ls_ (r.1.toList ++ rest_) r.2) = zz_X (zz_call_ d) tb_ t_ ls_ ((.int (iI (-1))) :: rest_) (zm N xs M L) := (s_111B M L z h1 h2 h).go hd_
theorem s_111Z (j : Nat) (hj : j < 3) (h : M 23 10 = iI 0) : zc 3 111 [.ref 0, .int (iI j)] M L (some (.int (iI (-4)))) M L := by
  refine zc_of (n := 2) (ls := [some (.ref 0), some (.int (iI j))]) mk_111 rfl rfl rfl rfl (fun d hd N xs => ?_)
  rw [b_111_0, iI_lit, if_neg (by rw [t_lt, iI_to (by omega) (by omega), iI_to (by omega) (by omega)]; omega), iI_lit, if_pos (by rw [t_lt, iI_to (by omega) (by omega), iI_to (by omega) (by omega)]; omega), b_111_2, h, if_pos (show iI 0 = (0 : Int32) from rfl)]
  rfl
theorem g_111Z (j : Nat) (hj : j < 3) (h : M 23 10 = iI 0) {d N : Nat} {xs : Nat → Int32} {tb_ : List zz_B} {t_ : Nat} {ls_ : zz_L} {rest_ : List Value} (hd_ : 3 ≤ d) : (zz_o (zz_call_ d 111 [.ref 0, .int (iI j)] (zm N xs M L)) fun r => zz_X (zz_call_ d) tb_ t_ ls_ (r.1.toList ++ rest_) r.2) = zz_X (zz_call_ d) tb_ t_ ls_ ((.int (iI (-4))) :: rest_) (zm N xs M L) := (s_111Z M L j hj h).go hd_
theorem s_111O (W : Vw) (hk : Vk W) (hv : Hv W M) (hn0 : W.n ≠ 0) (j : Nat) (hj : j < 3) : zc 3 111 [.ref 0, .int (iI j)] M L (some (.int (M 23 13))) (zz_wI (sI M (32 + j) (M 30) 40) 35 j (M 23 13)) L := by
  refine zc_of (n := 2) (ls := [some (.ref 0), some (.int (iI j))]) mk_111 rfl rfl rfl rfl (fun d hd N xs => ?_)
  have hn := hk.n
  rw [b_111_0, iI_lit, if_neg (by rw [t_lt, iI_to (by omega) (by omega), iI_to (by omega) (by omega)]; omega), iI_lit, if_pos (by rw [t_lt, iI_to (by omega) (by omega), iI_to (by omega) (by omega)]; omega), b_111_2, hv.n, if_neg (by rw [t_eq, iI_to (by omega) (by omega), show (0 : Int32).toInt = 0 from rfl]; omega), b_111_3, g_60 M L j hj (by omega), b_111_4, w_ne (by omega), sI_ne (by omega)]
theorem g_111O (W : Vw) (hk : Vk W) (hv : Hv W M) (hn0 : W.n ≠ 0) (j : Nat) (hj : j < 3) {d N : Nat} {xs : Nat → Int32} {tb_ : List zz_B} {t_ : Nat} {ls_ : zz_L} {rest_ : List Value} (hd_ : 3 ≤ d) : (zz_o (zz_call_ d 111 [.ref 0, .int (iI j)] (zm N xs M L)) fun r => zz_X (zz_call_ d) tb_ t_ ls_ (r.1.toList ++ rest_) r.2) = zz_X (zz_call_ d) tb_ t_ ls_ ((.int (M 23 13)) :: rest_) (zm N xs (zz_wI (sI M (32 + j) (M 30) 40) 35 j (M 23 13)) L) := (s_111O M L W hk hv hn0 j hj).go hd_
theorem s_207B (z : Int) (h1 : -2147483648 ≤ z) (h2 : z ≤ 2147483647) (h : ¬ (0 ≤ z ∧ z < 3)) : zc 3 207 [.ref 52, .int (iI z)] M L (some (.int (iI (-1)))) M L := by
  refine zc_of (n := 2) (ls := [some (.ref 52), some (.int (iI z))]) mk_207 rfl rfl rfl rfl (fun d hd N xs => ?_)
  rw [b_207_0, iI_long h1 h2, lI_lit, lI_lit, g_157 M L z 0 2 (by omega) (by omega) (by omega) (by omega) (by omega) (by omega) (by omega), b2_f (by omega), b_207_1, iI_lit 0, if_pos rfl]
  rfl
theorem g_207B (z : Int) (h1 : -2147483648 ≤ z) (h2 : z ≤ 2147483647) (h : ¬ (0 ≤ z ∧ z < 3)) {d N : Nat} {xs : Nat → Int32} {tb_ : List zz_B} {t_ : Nat} {ls_ : zz_L} {rest_ : List Value} (hd_ : 3 ≤ d) : (zz_o (zz_call_ d 207 [.ref 52, .int (iI z)] (zm N xs M L)) fun r => zz_X (zz_call_ d) tb_ t_ ls_ (r.1.toList ++ rest_) r.2) = zz_X (zz_call_ d) tb_ t_ ls_ ((.int (iI (-1))) :: rest_) (zm N xs M L) := (s_207B M L z h1 h2 h).go hd_
theorem s_207Z (j : Nat) (hj : j < 3) (h : M 53 0 = iI 0) : zc 3 207 [.ref 52, .int (iI j)] M L (some (.int (iI (-4)))) M L := by
  refine zc_of (n := 2) (ls := [some (.ref 52), some (.int (iI j))]) mk_207 rfl rfl rfl rfl (fun d hd N xs => ?_)
  rw [b_207_0, iI_long (by omega) (by omega), lI_lit, lI_lit, g_157 M L j 0 2 (by omega) (by omega) (by omega) (by omega) (by omega) (by omega) (by omega), b2_t (by omega), b_207_1, iI_lit 0, if_neg iI10, b_207_2, h, if_pos (show iI 0 = (0 : Int32) from rfl)]
  rfl
theorem g_207Z (j : Nat) (hj : j < 3) (h : M 53 0 = iI 0) {d N : Nat} {xs : Nat → Int32} {tb_ : List zz_B} {t_ : Nat} {ls_ : zz_L} {rest_ : List Value} (hd_ : 3 ≤ d) : (zz_o (zz_call_ d 207 [.ref 52, .int (iI j)] (zm N xs M L)) fun r => zz_X (zz_call_ d) tb_ t_ ls_ (r.1.toList ++ rest_) r.2) = zz_X (zz_call_ d) tb_ t_ ls_ ((.int (iI (-4))) :: rest_) (zm N xs M L) := (s_207Z M L j hj h).go hd_
theorem s_207O (W : Vw) (hk : Vk W) (hr : Rv W (M 53) 0) (hn0 : W.n ≠ 0) (j : Nat) (hj : j < 3) : zc 3 207 [.ref 52, .int (iI j)] M L (some (.int (M 52 1))) (zz_wI (zz_rI M 53 (va_cpy (M 53) (M 53) 0 (1640 * (j + 1)) 1640)) 54 j (M 52 1)) L := by
  refine zc_of (n := 2) (ls := [some (.ref 52), some (.int (iI j))]) mk_207 rfl rfl rfl rfl (fun d hd N xs => ?_)
  have hn := hk.n
  have e0 : M 53 0 = iI W.n := hr.n
  have g := g_163 (d := d) (N := N) (xs := xs) (tb_ := tb_207) (t_ := 4) (ls_ := [some (.ref 52), some (.int (iI j))]) (rest_ := []) M L 0 (1640 * (j + 1)) 1640 (by omega) (by omega) (by omega) (by omega)
  rw [show ((1640 * (j + 1) : Nat) : Int) = 1640 * ((j : Int) + 1) by omega] at g
  rw [b_207_0, iI_long (by omega) (by omega), lI_lit, lI_lit, g_157 M L j 0 2 (by omega) (by omega) (by omega) (by omega) (by omega) (by omega) (by omega), b2_t (by omega), b_207_1, iI_lit 0, if_neg iI10, b_207_2, e0, if_neg (by rw [t_eq, iI_to (by omega) (by omega), show (0 : Int32).toInt = 0 from rfl]; omega), b_207_3]
  simp only [iI_lit, iI_add, iI_mul]
  refine Eq.trans g ?_
  rw [b_207_4, ix_nat (by omega) (by omega), o_some, w_ne (by omega : (52 : Nat) ≠ 54), rr_ne (by omega : (52 : Nat) ≠ 53)]
theorem g_207O (W : Vw) (hk : Vk W) (hr : Rv W (M 53) 0) (hn0 : W.n ≠ 0) (j : Nat) (hj : j < 3) {d N : Nat} {xs : Nat → Int32} {tb_ : List zz_B} {t_ : Nat} {ls_ : zz_L} {rest_ : List Value} (hd_ : 3 ≤ d) : (zz_o (zz_call_ d 207 [.ref 52, .int (iI j)] (zm N xs M L)) fun r => zz_X (zz_call_ d) tb_ t_ ls_ (r.1.toList ++ rest_) r.2) = zz_X (zz_call_ d) tb_ t_ ls_ ((.int (M 52 1)) :: rest_) (zm N xs (zz_wI (zz_rI M 53 (va_cpy (M 53) (M 53) 0 (1640 * (j + 1)) 1640)) 54 j (M 52 1)) L) := (s_207O M L W hk hr hn0 j hj).go hd_
end ZR
theorem Hv.c3 {V : Vw} {M M' : Nat → Nat → Int32} (h : Hv V M) (ee : ∀ c, 23 ≤ c → c ≤ 29 → M' c = M c) : Hv V M' := by
  refine ⟨?_, ?_, ?_, ?_, ?_, ?_, ?_, ?_, ?_⟩
  · rw [ee _ (by omega) (by omega)]; exact h.n
  · rw [ee _ (by omega) (by omega)]; exact h.hc
  · rw [ee _ (by omega) (by omega)]; exact h.day
  · rw [ee _ (by omega) (by omega)]; exact h.tset
  · intro k hk; rw [ee _ (by omega) (by omega)]; exact h.heat k hk
  · intro k hk; rw [ee _ (by omega) (by omega)]; exact h.kind k hk
  · intro k hk; rw [ee _ (by omega) (by omega)]; exact h.rate k hk
  · intro k hk; rw [ee _ (by omega) (by omega)]; exact h.floor k hk
  · intro k hk; rw [ee _ (by omega) (by omega)]; exact h.minute k hk
theorem o_keep {M : Nat → Nat → Int32} {L : Nat → Nat → Int64} (a : Int32) (hI : Inv M L) : Ok 111 207 [.int a] M L := by
  obtain ⟨z, z1, z2, rfl⟩ := iI_of a
  obtain ⟨V, D, m, K, E, h⟩ := hI.2.2.2.2.1.hd
  have hk := h.nk
  obtain ⟨h1, h2, h3, h4, h5, h6, h7, h8, h9, h10, h11⟩ := h
  have hVn := run_n V D m
  have hr : Rv (V.run D m) (M 53) 0 := h10.2.2.1
  have hm := h10.1
  by_cases q : 0 ≤ z ∧ z < 3
  · obtain ⟨j, rfl⟩ : ∃ x : Nat, z = x := ⟨z.toNat, by omega⟩
    by_cases q0 : (V.run D m).n = 0
    · exact Ok.same hI (s_111Z M L j (by omega) (by rw [h9.n, q0]; rfl)) (s_207Z M L j (by omega) (by rw [hr.n, q0]; rfl)) (by omega) (by omega)
    · have g1 := s_111O M L _ hk h9 q0 j (by omega)
      have e53 : zz_wI (sI M (32 + j) (M 30) 40) 35 j (M 23 13) 53 = M 53 := by rw [w_ne (by omega), sI_ne (by omega)]
      have e52 : zz_wI (sI M (32 + j) (M 30) 40) 35 j (M 23 13) 52 = M 52 := by rw [w_ne (by omega), sI_ne (by omega)]
      have g2 := s_207O (zz_wI (sI M (32 + j) (M 30) 40) 35 j (M 23 13)) L _ hk (by rw [e53]; exact hr) q0 j (by omega)
      rw [e53, e52, h6] at g2
      rw [h5] at g1 g2
      refine ⟨_, _, _, _, _, g1.mono (by omega), g2.mono (by omega), ?_⟩
      refine ⟨hI.1.cg ?_, hI.2.1.cg ?_, hI.2.2.1.cg ?_, hI.2.2.2.1.cg ?_, ?_, hI.2.2.2.2.2⟩
      · exact (((eqs.rf.r (by unfold pR; omega)).w (by unfold pR; omega)).r (by unfold pR; omega)).w (by unfold pR; omega)
      · exact (((eqs.rf.r (by unfold pT; omega)).w (by unfold pT; omega)).r (by unfold pT; omega)).w (by unfold pT; omega)
      · exact (((eqs.rf.r (by unfold pD; omega)).w (by unfold pD; omega)).r (by unfold pD; omega)).w (by unfold pD; omega)
      · exact (((eqs.rf.r (by unfold pF; omega)).w (by unfold pF; omega)).r (by unfold pF; omega)).w (by unfold pF; omega)
      · have s23 : ∀ c, c ≠ 32 + j → c ≠ 35 → c ≠ 53 → c ≠ 54 → zz_wI (zz_rI (zz_wI (sI M (32 + j) (M 30) 40) 35 j (iI m)) 53 (va_cpy (M 53) (M 53) 0 (1640 * (j + 1)) 1640)) 54 j (iI m) c = M c := fun c a1 a2 a3 a4 => by rw [w_ne a4, rr_ne a3, w_ne a2, sI_ne a1]
        have s53 : zz_wI (zz_rI (zz_wI (sI M (32 + j) (M 30) 40) 35 j (iI m)) 53 (va_cpy (M 53) (M 53) 0 (1640 * (j + 1)) 1640)) 54 j (iI m) 53 = va_cpy (M 53) (M 53) 0 (1640 * (j + 1)) 1640 := by rw [w_ne (by omega), rr_at]
        refine ⟨V, D, m, (fun i => if i = j then (m : Int) else K i), (fun i => if i = j then D else E i), h1, h2, h3, h4, ?_, ?_, ?_, ?_, ?_, ?_, ?_⟩
        · rw [s23 _ (by omega) (by omega) (by omega) (by omega)]; exact h5
        · rw [s23 _ (by omega) (by omega) (by omega) (by omega)]; exact h6
        · intro i hi; rw [s23 _ (by omega) (by omega) (by omega) (by omega)]; exact h7 i hi
        · intro i hi; rw [s23 _ (by omega) (by omega) (by omega) (by omega)]; exact h8 i hi
        · exact h9.c3 (fun c c1 c2 => s23 c (by omega) (by omega) (by omega) (by omega))
        · rw [s53]; exact h10.cg h1 (fun k hkk => c_out (by omega))
        · intro i hi
          by_cases e : i = j
          · subst e
            simp only [if_true]
            refine ⟨?_, ?_, by omega, by omega, fun _ => ⟨fun k hkk => ?_, ?_⟩⟩
            · rw [w_ne (by omega), rr_ne (by omega), w_at]
            · rw [w_at]
            · rw [w_ne (by omega), rr_ne (by omega), w_ne (by omega), sI_in (by omega)]
              exact h8 k (by omega)
            · rw [s53, Int.toNat_natCast]
              refine h10.cg h1 (fun k hkk => ?_)
              rw [c_in (by omega) (by omega), show 0 + (1640 * (i + 1) + k - 1640 * (i + 1)) = 0 + k by omega]
          · have eK : (if i = j then (m : Int) else K i) = K i := if_neg e
            have eE : (if i = j then D else E i) = E i := if_neg e
            simp only [eK, eE]
            obtain ⟨a1, a2, a3, a4, a5⟩ := h11 i hi
            refine ⟨?_, ?_, a3, a4, fun q => ⟨fun k hkk => ?_, ?_⟩⟩
            · rw [w_ne (by omega), rr_ne (by omega), w_nk e, sI_ne (by omega)]; exact a1
            · rw [w_nk e, rr_ne (by omega), w_ne (by omega), sI_ne (by omega)]; exact a2
            · rw [s23 _ (by omega) (by omega) (by omega) (by omega)]; exact (a5 q).1 k hkk
            · rw [s53]
              exact (a5 q).2.cg h1 (fun k hkk => c_out (by omega))
  · exact Ok.same hI (s_111B M L z z1 z2 q) (s_207B M L z z1 z2 q) (by omega) (by omega)

/-! a text as a house: the reference. -/
def CR (s : Nat) (a : Nat → Int32) (z hc n : Nat) (q : Nat → Nat) (M : Nat → Nat → Int32) : Prop := M 53 6560 = iI n ∧ M 53 6562 = iI hc ∧ M 53 6561 = iI 0 ∧ (∀ i, i < 6 → M 53 (6594 + i) = iI 0) ∧ (∀ k, k < hc → M 53 (6563 + k) = iI (fv s a (z + 1 + k))) ∧ ∀ i, i < n → M 53 (6570 + i) = iI (kc (chA s a (q i))) ∧ M 53 (6588 + i) = iI (10 * fv s a (q i + 1) + fv s a (q i + 2)) ∧ M 53 (6576 + i) = iI (fv s a (q i + 3) - 4) ∧ M 53 (6582 + i) = iI (fv s a (q i + 4))
def pRd (c k : Nat) : Prop := (c ≠ 53 ∧ c ≠ 52) ∨ (c = 53 ∧ k < 6560) ∨ (c = 52 ∧ k ≠ 13)
theorem pRd_T {M M' : Nat → Nat → Int32} {t s : Nat} {a : Nat → Int32} (h : Tr M t s a) (e : eqs M M' pRd) : Tr M' t s a := h.cg (e.col 57 (fun k => Or.inl (by omega))) (e.col 58 (fun k => Or.inl (by omega)))
section ZR
variable (M : Nat → Nat → Int32) (L : Nat → Nat → Int64)
theorem s_177 (t s p : Nat) (a : Nat → Int32) (hw : Tr M t s a) (hp : p ≤ 100) : zc 1 177 [.ref 52, .int (iI t), .int (iI p)] M L (some (.int (chA s a p))) M L := by
  refine zc_of (n := 0) (ls := [some (.ref 52), some (.int (iI t)), some (.int (iI p))]) mk_177 rfl rfl rfl rfl (fun d hd N xs => ?_)
  obtain ⟨h1, h2, h3, h4⟩ := hw
  rw [b_177_0, ix_nat (by omega) (by omega), o_some, h3]
  by_cases q : p < s
  · rw [if_neg (by rw [t_le, iI_to (by omega) (by omega), iI_to (by omega) (by omega)]; omega), show (60 : Int32) = iI 60 from rfl, iI_mul, iI_add, show (60 : Int) * (t : Int) + (p : Int) = ((60 * t + p : Nat) : Int) by omega, ix_nat (by omega) (by omega), o_some, h4 p q, b_177_2, ch_in q]
  · rw [if_pos (by rw [t_le, iI_to (by omega) (by omega), iI_to (by omega) (by omega)]; omega), b_177_1, b_177_2, ch_out q]
theorem g_177 (t s p : Nat) (a : Nat → Int32) (hw : Tr M t s a) (hp : p ≤ 100) {d N : Nat} {xs : Nat → Int32} {tb_ : List zz_B} {t_ : Nat} {ls_ : zz_L} {rest_ : List Value} (hd_ : 1 ≤ d) : (zz_o (zz_call_ d 177 [.ref 52, .int (iI t), .int (iI p)] (zm N xs M L)) fun r => zz_X (zz_call_ d) tb_ t_ ls_ (r.1.toList ++ rest_) r.2) = zz_X (zz_call_ d) tb_ t_ ls_ ((.int (chA s a p)) :: rest_) (zm N xs M L) := (s_177 M L t s p a hw hp).go hd_
theorem l_178 {d : Nat} (hd : 1 ≤ d) (N : Nat) (xs : Nat → Int32) (t s : Nat) (a : Nat → Int32) : ∀ (c p : Nat) (M : Nat → Nat → Int32), p + c = s → Tr M t s a → M 52 13 = iI p → zz_X (zz_call_ d) tb_178 0 [some (.ref 52), some (.int (iI t))] [] (zm N xs M L) = some (none, zm N xs (zz_wI M 52 13 (iI (fx (nbl s a) c p))) L)
  | 0, p, M, hc, hw, h7 => by
    have h60 := hw.2.1
    rw [b_178_0, h7, g_177 M L t s p a hw (by omega) hd, b_178_1, ch_out (by omega), if_neg (by decide), b_178_2]
    unfold fx
    rw [w_self h7]
  | c + 1, p, M, hc, hw, h7 => by
    have h60 := hw.2.1
    rw [b_178_0, h7, g_177 M L t s p a hw (by omega) hd, b_178_1]
    by_cases q : chA s a p = 32
    · have ih := l_178 hd N xs t s a c (p + 1) (zz_wI M 52 13 (iI ((p + 1 : Nat) : Int))) (by omega) (hw.cg (by rw [w_ne (by omega)]) (by rw [w_ne (by omega)])) w_at
      rw [w_w] at ih
      rw [if_pos q, h7, show (1 : Int32) = iI 1 from rfl, iI_add, show fx (nbl s a) (c + 1) p = fx (nbl s a) c (p + 1) from if_neg (fun e => e q)]
      exact ih
    · rw [if_neg q, b_178_2, show fx (nbl s a) (c + 1) p = p from if_pos q, w_self h7]
theorem s_178 (t s p : Nat) (a : Nat → Int32) (hw : Tr M t s a) (hp : p ≤ s) (h7 : M 52 13 = iI p) : zc 2 178 [.ref 52, .int (iI t)] M L none (zz_wI M 52 13 (iI (bl s a p))) L := by
  refine zc_of (n := 1) (ls := [some (.ref 52), some (.int (iI t))]) mk_178 rfl rfl rfl rfl (fun d hd N xs => ?_)
  exact l_178 L hd N xs t s a (s - p) p M (by omega) hw h7
theorem g_178 (t s p : Nat) (a : Nat → Int32) (hw : Tr M t s a) (hp : p ≤ s) (h7 : M 52 13 = iI p) {d N : Nat} {xs : Nat → Int32} {tb_ : List zz_B} {t_ : Nat} {ls_ : zz_L} {rest_ : List Value} (hd_ : 2 ≤ d) : (zz_o (zz_call_ d 178 [.ref 52, .int (iI t)] (zm N xs M L)) fun r => zz_X (zz_call_ d) tb_ t_ ls_ (r.1.toList ++ rest_) r.2) = zz_X (zz_call_ d) tb_ t_ ls_ rest_ (zm N xs (zz_wI M 52 13 (iI (bl s a p))) L) := (s_178 M L t s p a hw hp h7).gov hd_
theorem s_179T (t s p m : Nat) (a : Nat → Int32) (hw : Tr M t s a) (hm : m ≤ 9) (h7 : M 52 13 = iI p) (hf : fg s a m p) : zc 2 179 [.ref 52, .int (iI t), .int (iI m)] M L (some (.int (iI (fv s a p)))) (zz_wI M 52 13 (iI ((p + 1 : Nat) : Int))) L := by
  refine zc_of (n := 1) (ls := [some (.ref 52), some (.int (iI t)), some (.int (iI m)), none]) mk_179 rfl rfl rfl rfl (fun d hd N xs => ?_)
  have hps := fg_lt hf
  have h60 := hw.2.1
  have hb := fv_b s a p
  rw [b_179_0, h7, g_177 M L t s p a hw (by omega) (by omega), b_179_1, fv_iI, iI_long hb.1 hb.2, iI_long (by omega) (by omega), lI_lit, g_157 M L _ 0 m (by omega) (by omega) (by omega) (by omega) (by omega) (by omega) (by omega), b2_t hf, b_179_2, if_neg (show ¬ iI 1 = (0 : Int32) from iI10), b_179_3, h7, show (1 : Int32) = iI 1 from rfl, iI_add]
  rfl
theorem g_179T (t s p m : Nat) (a : Nat → Int32) (hw : Tr M t s a) (hm : m ≤ 9) (h7 : M 52 13 = iI p) (hf : fg s a m p) {d N : Nat} {xs : Nat → Int32} {tb_ : List zz_B} {t_ : Nat} {ls_ : zz_L} {rest_ : List Value} (hd_ : 2 ≤ d) : (zz_o (zz_call_ d 179 [.ref 52, .int (iI t), .int (iI m)] (zm N xs M L)) fun r => zz_X (zz_call_ d) tb_ t_ ls_ (r.1.toList ++ rest_) r.2) = zz_X (zz_call_ d) tb_ t_ ls_ ((.int (iI (fv s a p))) :: rest_) (zm N xs (zz_wI M 52 13 (iI ((p + 1 : Nat) : Int))) L) := (s_179T M L t s p m a hw hm h7 hf).go hd_
theorem s_179F (t s p m : Nat) (a : Nat → Int32) (hw : Tr M t s a) (hm : m ≤ 9) (hp : p ≤ 100) (h7 : M 52 13 = iI p) (hf : ¬ fg s a m p) : zc 2 179 [.ref 52, .int (iI t), .int (iI m)] M L (some (.int (iI (-1)))) M L := by
  refine zc_of (n := 1) (ls := [some (.ref 52), some (.int (iI t)), some (.int (iI m)), none]) mk_179 rfl rfl rfl rfl (fun d hd N xs => ?_)
  have h60 := hw.2.1
  have hb := fv_b s a p
  rw [b_179_0, h7, g_177 M L t s p a hw (by omega) (by omega), b_179_1, fv_iI, iI_long hb.1 hb.2, iI_long (by omega) (by omega), lI_lit, g_157 M L _ 0 m (by omega) (by omega) (by omega) (by omega) (by omega) (by omega) (by omega), b2_f hf, b_179_2, if_pos (show iI 0 = (0 : Int32) from rfl)]
  rfl
theorem g_179F (t s p m : Nat) (a : Nat → Int32) (hw : Tr M t s a) (hm : m ≤ 9) (hp : p ≤ 100) (h7 : M 52 13 = iI p) (hf : ¬ fg s a m p) {d N : Nat} {xs : Nat → Int32} {tb_ : List zz_B} {t_ : Nat} {ls_ : zz_L} {rest_ : List Value} (hd_ : 2 ≤ d) : (zz_o (zz_call_ d 179 [.ref 52, .int (iI t), .int (iI m)] (zm N xs M L)) fun r => zz_X (zz_call_ d) tb_ t_ ls_ (r.1.toList ++ rest_) r.2) = zz_X (zz_call_ d) tb_ t_ ls_ ((.int (iI (-1))) :: rest_) (zm N xs M L) := (s_179F M L t s p m a hw hm hp h7 hf).go hd_
theorem s_176 (x : Int32) : zc 1 176 [.int x] M L (some (.int (iI (kc x)))) M L := by
  refine zc_of (n := 0) (ls := [some (.int x)]) mk_176 rfl rfl rfl rfl (fun d hd N xs => ?_)
  rw [b_176_0]
  unfold kc
  by_cases q0 : x = 99
  · rw [if_pos q0, if_pos q0, b_176_7]; rfl
  · rw [if_neg q0, if_neg q0, b_176_1]
    by_cases q1 : x = 107
    · rw [if_pos q1, if_pos q1, b_176_7]; rfl
    · rw [if_neg q1, if_neg q1, b_176_2]
      by_cases q2 : x = 98
      · rw [if_pos q2, if_pos q2, b_176_7]; rfl
      · rw [if_neg q2, if_neg q2, b_176_3]
        by_cases q3 : x = 115
        · rw [if_pos q3, if_pos q3, b_176_7]; rfl
        · rw [if_neg q3, if_neg q3, b_176_4]
          by_cases q4 : x = 109
          · rw [if_pos q4, if_pos q4, b_176_7]; rfl
          · rw [if_neg q4, if_neg q4, b_176_5]
            by_cases q5 : x = 114
            · rw [if_pos q5, if_pos q5, b_176_7]; rfl
            · rw [if_neg q5, if_neg q5, b_176_6, b_176_7]; rfl
theorem g_176 (x : Int32) {d N : Nat} {xs : Nat → Int32} {tb_ : List zz_B} {t_ : Nat} {ls_ : zz_L} {rest_ : List Value} (hd_ : 1 ≤ d) : (zz_o (zz_call_ d 176 [.int x] (zm N xs M L)) fun r => zz_X (zz_call_ d) tb_ t_ ls_ (r.1.toList ++ rest_) r.2) = zz_X (zz_call_ d) tb_ t_ ls_ ((.int (iI (kc x))) :: rest_) (zm N xs M L) := (s_176 M L x).go hd_
/-- what a piece leaves in the reference's record -/
def tpR (s : Nat) (a : Nat → Int32) (M : Nat → Nat → Int32) (n p : Nat) : Nat → Nat → Int32 := zz_wI (zz_wI (zz_wI (zz_wI (zz_wI (zz_wI M 52 13 (iI ((p + 5 : Nat) : Int))) 53 (6570 + n) (iI (kc (chA s a p)))) 53 (6588 + n) (iI (10 * fv s a (p + 1) + fv s a (p + 2)))) 53 (6576 + n) (iI (fv s a (p + 3) - 4))) 53 (6582 + n) (iI (fv s a (p + 4)))) 53 6560 (iI ((n + 1 : Nat) : Int))
theorem h_181 {d : Nat} (hd : 3 ≤ d) (N : Nat) (xs : Nat → Int32) (t s p n : Nat) (a : Nat → Int32) (hw : Tr M t s a) (hp : p ≤ s) (hn : n < 6) (hn0 : M 53 6560 = iI n) (h7 : M 52 13 = iI p) : zz_X (zz_call_ d) tb_181 0 [some (.ref 52), some (.int (iI t)), none, none, none, none, none, none] [] (zm N xs M L) = if (tq s a p).2 = true then some (some (.int (iI 1)), zm N xs (tpR s a M n p) L) else some (some (.int (iI 0)), zm N xs (zz_wI M 52 13 (iI (tq s a p).1)) L) := by
  have h60 := hw.2.1
  have hkb := kc_b (chA s a p)
  have hwp : ∀ v, Tr (zz_wI M 52 13 v) t s a := fun v => hw.cg (by rw [w_ne (by omega)]) (by rw [w_ne (by omega)])
  rw [b_181_0, h7, g_177 M L t s p a hw (by omega) (by omega), b_181_1, g_176 M L _ (by omega), b_181_2, hn0]
  by_cases q0 : kc (chA s a p) < 0
  · rw [tq_k q0, if_pos (by rw [t_lt, show (0 : Int32).toInt = 0 from rfl, iI_to (by omega) (by omega)]; omega), if_neg (ffF _), w_self h7, b_181_3]
    rfl
  · rw [if_neg (by rw [t_lt, show (0 : Int32).toInt = 0 from rfl, iI_to (by omega) (by omega)]; omega), if_neg (by rw [t_eq, show (6 : Int32).toInt = 6 from rfl, iI_to (by omega) (by omega)]; omega), b_181_4, h7, show (1 : Int32) = iI 1 from rfl, iI_add, show (p : Int) + 1 = ((p + 1 : Nat) : Int) by omega, show (5 : Int32) = iI ((5 : Nat) : Int) from rfl]
    by_cases q1 : fg s a 5 (p + 1)
    · rw [g_179T _ L t s (p + 1) 5 a (hwp _) (by omega) w_at q1 (by omega), w_w, b_181_5, if_pos (by rw [t_le, show (0 : Int32).toInt = 0 from rfl, iI_to (by omega) (by omega)]; omega), b_181_6, show (9 : Int32) = iI ((9 : Nat) : Int) from rfl]
      by_cases q2 : fg s a 9 (p + 2)
      · rw [g_179T _ L t s (p + 2) 9 a (hwp _) (by omega) w_at q2 (by omega), w_w, b_181_7, if_pos (by rw [t_le, show (0 : Int32).toInt = 0 from rfl, iI_to (by omega) (by omega)]; omega), b_181_8, show (9 : Int32) = iI ((9 : Nat) : Int) from rfl]
        by_cases q3 : fg s a 9 (p + 3)
        · rw [g_179T _ L t s (p + 3) 9 a (hwp _) (by omega) w_at q3 (by omega), w_w, b_181_9, if_pos (by rw [t_le, show (0 : Int32).toInt = 0 from rfl, iI_to (by omega) (by omega)]; omega), b_181_10, show (3 : Int32) = iI ((3 : Nat) : Int) from rfl]
          by_cases q4 : fg s a 3 (p + 4)
          · rw [g_179T _ L t s (p + 4) 3 a (hwp _) (by omega) w_at q4 (by omega), w_w, b_181_11, if_pos (by rw [t_le, show (0 : Int32).toInt = 0 from rfl, iI_to (by omega) (by omega)]; omega), b_181_12, tq_5 q0 q1 q2 q3 q4, if_pos rfl]
            simp only [iI_lit, iI_add, iI_mul, iI_sub]
            rw [show (6570 : Int) + (n : Int) = ((6570 + n : Nat) : Int) by omega, show (6588 : Int) + (n : Int) = ((6588 + n : Nat) : Int) by omega, show (6576 : Int) + (n : Int) = ((6576 + n : Nat) : Int) by omega, show (6582 : Int) + (n : Int) = ((6582 + n : Nat) : Int) by omega, ix_nat (by omega) (by omega), o_some, ix_nat (by omega) (by omega), o_some, ix_nat (by omega) (by omega), o_some, ix_nat (by omega) (by omega), o_some, w_nk (by omega : (6560 : Nat) ≠ 6582 + n), w_nk (by omega : (6560 : Nat) ≠ 6576 + n), w_nk (by omega : (6560 : Nat) ≠ 6588 + n), w_nk (by omega : (6560 : Nat) ≠ 6570 + n), w_ne (by omega : (53 : Nat) ≠ 52), hn0, iI_add]
            rfl
          · rw [g_179F _ L t s (p + 4) 3 a (hwp _) (by omega) (by omega) w_at q4 (by omega), b_181_11, if_neg (by decide), tq_4 q0 q1 q2 q3 q4, if_neg (ffF _)]
            rfl
        · rw [g_179F _ L t s (p + 3) 9 a (hwp _) (by omega) (by omega) w_at q3 (by omega), b_181_9, if_neg (by decide), b_181_11, if_neg (by decide), tq_3 q0 q1 q2 q3, if_neg (ffF _)]
          rfl
      · rw [g_179F _ L t s (p + 2) 9 a (hwp _) (by omega) (by omega) w_at q2 (by omega), b_181_7, if_neg (by decide), b_181_9, if_neg (by decide), b_181_11, if_neg (by decide), tq_2 q0 q1 q2, if_neg (ffF _)]
        rfl
    · rw [g_179F _ L t s (p + 1) 5 a (hwp _) (by omega) (by omega) w_at q1 (by omega), b_181_5, if_neg (by decide), b_181_7, if_neg (by decide), b_181_9, if_neg (by decide), b_181_11, if_neg (by decide), tq_1 q0 q1, if_neg (ffF _)]
      rfl
theorem s_181T (t s p n : Nat) (a : Nat → Int32) (hw : Tr M t s a) (hp : p ≤ s) (hn : n < 6) (hn0 : M 53 6560 = iI n) (h7 : M 52 13 = iI p) (ht : (tq s a p).2 = true) : zc 4 181 [.ref 52, .int (iI t)] M L (some (.int (iI 1))) (tpR s a M n p) L := by
  refine zc_of (n := 3) (ls := [some (.ref 52), some (.int (iI t)), none, none, none, none, none, none]) mk_181 rfl rfl rfl rfl (fun d hd N xs => ?_)
  rw [h_181 M L hd N xs t s p n a hw hp hn hn0 h7, if_pos ht]
theorem g_181T (t s p n : Nat) (a : Nat → Int32) (hw : Tr M t s a) (hp : p ≤ s) (hn : n < 6) (hn0 : M 53 6560 = iI n) (h7 : M 52 13 = iI p) (ht : (tq s a p).2 = true) {d N : Nat} {xs : Nat → Int32} {tb_ : List zz_B} {t_ : Nat} {ls_ : zz_L} {rest_ : List Value} (hd_ : 4 ≤ d) : (zz_o (zz_call_ d 181 [.ref 52, .int (iI t)] (zm N xs M L)) fun r => zz_X (zz_call_ d) tb_ t_ ls_ (r.1.toList ++ rest_) r.2) = zz_X (zz_call_ d) tb_ t_ ls_ ((.int (iI 1)) :: rest_) (zm N xs (tpR s a M n p) L) := (s_181T M L t s p n a hw hp hn hn0 h7 ht).go hd_
theorem s_181F (t s p n : Nat) (a : Nat → Int32) (hw : Tr M t s a) (hp : p ≤ s) (hn : n < 6) (hn0 : M 53 6560 = iI n) (h7 : M 52 13 = iI p) (ht : ¬ (tq s a p).2 = true) : zc 4 181 [.ref 52, .int (iI t)] M L (some (.int (iI 0))) (zz_wI M 52 13 (iI (tq s a p).1)) L := by
  refine zc_of (n := 3) (ls := [some (.ref 52), some (.int (iI t)), none, none, none, none, none, none]) mk_181 rfl rfl rfl rfl (fun d hd N xs => ?_)
  rw [h_181 M L hd N xs t s p n a hw hp hn hn0 h7, if_neg ht]
theorem g_181F (t s p n : Nat) (a : Nat → Int32) (hw : Tr M t s a) (hp : p ≤ s) (hn : n < 6) (hn0 : M 53 6560 = iI n) (h7 : M 52 13 = iI p) (ht : ¬ (tq s a p).2 = true) {d N : Nat} {xs : Nat → Int32} {tb_ : List zz_B} {t_ : Nat} {ls_ : zz_L} {rest_ : List Value} (hd_ : 4 ≤ d) : (zz_o (zz_call_ d 181 [.ref 52, .int (iI t)] (zm N xs M L)) fun r => zz_X (zz_call_ d) tb_ t_ ls_ (r.1.toList ++ rest_) r.2) = zz_X (zz_call_ d) tb_ t_ ls_ ((.int (iI 0)) :: rest_) (zm N xs (zz_wI M 52 13 (iI (tq s a p).1)) L) := (s_181F M L t s p n a hw hp hn hn0 h7 ht).go hd_
theorem s_181S (t s p : Nat) (a : Nat → Int32) (hw : Tr M t s a) (hp : p ≤ s) (hn0 : M 53 6560 = iI ((6 : Nat) : Int)) (h7 : M 52 13 = iI p) : zc 4 181 [.ref 52, .int (iI t)] M L (some (.int (iI 0))) M L := by
  refine zc_of (n := 3) (ls := [some (.ref 52), some (.int (iI t)), none, none, none, none, none, none]) mk_181 rfl rfl rfl rfl (fun d hd N xs => ?_)
  have h60 := hw.2.1
  have hkb := kc_b (chA s a p)
  rw [b_181_0, h7, g_177 M L t s p a hw (by omega) (by omega), b_181_1, g_176 M L _ (by omega), b_181_2, hn0]
  by_cases q0 : kc (chA s a p) < 0
  · rw [if_pos (by rw [t_lt, show (0 : Int32).toInt = 0 from rfl, iI_to (by omega) (by omega)]; omega), b_181_3]
    rfl
  · rw [if_neg (by rw [t_lt, show (0 : Int32).toInt = 0 from rfl, iI_to (by omega) (by omega)]; omega), if_pos (by rfl), b_181_3]
    rfl
theorem g_181S (t s p : Nat) (a : Nat → Int32) (hw : Tr M t s a) (hp : p ≤ s) (hn0 : M 53 6560 = iI ((6 : Nat) : Int)) (h7 : M 52 13 = iI p) {d N : Nat} {xs : Nat → Int32} {tb_ : List zz_B} {t_ : Nat} {ls_ : zz_L} {rest_ : List Value} (hd_ : 4 ≤ d) : (zz_o (zz_call_ d 181 [.ref 52, .int (iI t)] (zm N xs M L)) fun r => zz_X (zz_call_ d) tb_ t_ ls_ (r.1.toList ++ rest_) r.2) = zz_X (zz_call_ d) tb_ t_ ls_ ((.int (iI 0)) :: rest_) (zm N xs M L) := (s_181S M L t s p a hw hp hn0 h7).go hd_
end ZR
def p180 (c k : Nat) : Prop := (c ≠ 53 ∨ k < 6562 ∨ 6570 ≤ k) ∧ (c ≠ 52 ∨ k ≠ 13)
section ZL
variable (L : Nat → Nat → Int64)
theorem l_180 (t s z : Nat) (a : Nat → Int32) (hz : z < s) : ∀ (c j : Nat) (M : Nat → Nat → Int32) (v : Int32), j + c = 7 → Tr M t s a → M 53 6562 = iI j → (∀ k, k < j → M 53 (6563 + k) = iI (fv s a (z + 1 + k))) → (fg s a 3 (z + 1 + j) → M 52 13 = iI ((z + 1 + j + 1 : Nat) : Int) ∧ v = iI (fv s a (z + 1 + j))) → (¬ fg s a 3 (z + 1 + j) → M 52 13 = iI ((z + 1 + j : Nat) : Int) ∧ v = iI (-1)) → ∃ M', eqs M M' p180 ∧ M' 52 13 = iI ((z + 1 + fx (fun k => ¬ fg s a 3 (z + 1 + k)) c j : Nat) : Int) ∧ M' 53 6562 = iI (fx (fun k => ¬ fg s a 3 (z + 1 + k)) c j) ∧ (∀ k, k < fx (fun k => ¬ fg s a 3 (z + 1 + k)) c j → M' 53 (6563 + k) = iI (fv s a (z + 1 + k))) ∧ ∀ d, 2 ≤ d → ∀ N xs, zz_X (zz_call_ d) tb_180 4 [some (.ref 52), some (.int (iI t)), some (.int v)] [] (zm N xs M L) = some (some (.int (b2 (0 < fx (fun k => ¬ fg s a 3 (z + 1 + k)) c j ∧ ¬ fg s a 3 (z + 1 + fx (fun k => ¬ fg s a 3 (z + 1 + k)) c j)))), zm N xs M' L)
  | 0, j, M, v, hc, hw, h62, h63, hy, hn => by
    show ∃ M', eqs M M' p180 ∧ M' 52 13 = iI ((z + 1 + j : Nat) : Int) ∧ M' 53 6562 = iI j ∧ (∀ k, k < j → M' 53 (6563 + k) = iI (fv s a (z + 1 + k))) ∧ ∀ d, 2 ≤ d → ∀ N xs, zz_X (zz_call_ d) tb_180 4 [some (.ref 52), some (.int (iI t)), some (.int v)] [] (zm N xs M L) = some (some (.int (b2 (0 < j ∧ ¬ fg s a 3 (z + 1 + j)))), zm N xs M' L)
    by_cases q : fg s a 3 (z + 1 + j)
    · obtain ⟨h13, hv⟩ := hy q
      have hb := fv_b s a (z + 1 + j)
      refine ⟨zz_wI M 52 13 (iI ((z + 1 + j : Nat) : Int)), eqs.rf.w (by unfold p180; omega), w_at, by rw [w_ne (by omega)]; exact h62, fun k hk => by rw [w_ne (by omega)]; exact h63 k hk, fun d hd N xs => ?_⟩
      rw [hv, b_180_4, if_neg (by rw [t_lt, show (0 : Int32).toInt = 0 from rfl, iI_to hb.1 hb.2]; omega), h62, if_pos (by rw [t_le, show (7 : Int32).toInt = 7 from rfl, iI_to (by omega) (by omega)]; omega), b_180_6, if_neg (by rw [t_lt, show (0 : Int32).toInt = 0 from rfl, iI_to hb.1 hb.2]; omega), h13, show (1 : Int32) = iI 1 from rfl, iI_sub, show ((z + 1 + j + 1 : Nat) : Int) - 1 = ((z + 1 + j : Nat) : Int) by omega, b_180_7, if_pos (by rw [t_le, show (0 : Int32).toInt = 0 from rfl, iI_to hb.1 hb.2]; exact q.1), b_180_8, b_180_9, if_pos (Or.inl rfl), b2_f (fun e => e.2 q)]
      rfl
    · obtain ⟨h13, hv⟩ := hn q
      refine ⟨M, eqs.rf, h13, h62, h63, fun d hd N xs => ?_⟩
      rw [hv, b_180_4, if_pos (by decide), b_180_6, if_pos (by decide), b_180_7, if_neg (by decide), h62, if_neg (by rw [t_le, show (0 : Int32).toInt = 0 from rfl, iI_to (by omega) (by omega)]; omega), b_180_9, if_pos (Or.inr rfl), b2_t ⟨by omega, q⟩]
      rfl
  | c + 1, j, M, v, hc, hw, h62, h63, hy, hn => by
    have h60 := hw.2.1
    by_cases q : fg s a 3 (z + 1 + j)
    · obtain ⟨h13, hv⟩ := hy q
      have hlt := fg_lt q
      have hb := fv_b s a (z + 1 + j)
      have ef : fx (fun k => ¬ fg s a 3 (z + 1 + k)) (c + 1) j = fx (fun k => ¬ fg s a 3 (z + 1 + k)) c (j + 1) := if_neg (fun e => e q)
      rw [ef]
      have e1 : eqs M (zz_wI (zz_wI M 53 (6563 + j) (iI (fv s a (z + 1 + j)))) 53 6562 (iI ((j + 1 : Nat) : Int))) p180 := (eqs.rf.w (by unfold p180; omega)).w (by unfold p180; omega)
      have hw1 : Tr (zz_wI (zz_wI M 53 (6563 + j) (iI (fv s a (z + 1 + j)))) 53 6562 (iI ((j + 1 : Nat) : Int))) t s a := hw.cg (by rw [w_ne (by omega), w_ne (by omega)]) (by rw [w_ne (by omega), w_ne (by omega)])
      have h13' : zz_wI (zz_wI M 53 (6563 + j) (iI (fv s a (z + 1 + j)))) 53 6562 (iI ((j + 1 : Nat) : Int)) 52 13 = iI ((z + 1 + (j + 1) : Nat) : Int) := by rw [w_ne (by omega), w_ne (by omega)]; exact h13
      have h63' : ∀ k, k < j + 1 → zz_wI (zz_wI M 53 (6563 + j) (iI (fv s a (z + 1 + j)))) 53 6562 (iI ((j + 1 : Nat) : Int)) 53 (6563 + k) = iI (fv s a (z + 1 + k)) := fun k hk => by
        rw [w_nk (by omega)]
        by_cases e : k = j
        · rw [e, w_at]
        · rw [w_nk (by omega)]; exact h63 k (by omega)
      have hcode : ∀ d, 2 ≤ d → ∀ N xs, zz_X (zz_call_ d) tb_180 4 [some (.ref 52), some (.int (iI t)), some (.int v)] [] (zm N xs M L) = (zz_o (zz_call_ d 179 [.ref 52, .int (iI t), .int (iI ((3 : Nat) : Int))] (zm N xs (zz_wI (zz_wI M 53 (6563 + j) (iI (fv s a (z + 1 + j)))) 53 6562 (iI ((j + 1 : Nat) : Int))) L)) fun r => zz_X (zz_call_ d) tb_180 5 [some (.ref 52), some (.int (iI t)), some (.int (iI (fv s a (z + 1 + j))))] (r.1.toList ++ []) r.2) := by
        intro d hd N xs
        rw [hv, b_180_4, if_neg (by rw [t_lt, show (0 : Int32).toInt = 0 from rfl, iI_to hb.1 hb.2]; omega), h62, if_neg (by rw [t_le, show (7 : Int32).toInt = 7 from rfl, iI_to (by omega) (by omega)]; omega)]
        simp only [iI_lit, iI_add]
        rw [show (6563 : Int) + (j : Int) = ((6563 + j : Nat) : Int) by omega, ix_nat (by omega) (by omega), o_some, w_nk (by omega : (6562 : Nat) ≠ 6563 + j), h62, iI_add]
        rfl
      by_cases q2 : fg s a 3 (z + 1 + (j + 1))
      · obtain ⟨M', r1, r2, r3, r4, r5⟩ := l_180 t s z a hz c (j + 1) (zz_wI (zz_wI (zz_wI M 53 (6563 + j) (iI (fv s a (z + 1 + j)))) 53 6562 (iI ((j + 1 : Nat) : Int))) 52 13 (iI ((z + 1 + (j + 1) + 1 : Nat) : Int))) (iI (fv s a (z + 1 + (j + 1)))) (by omega) (hw1.cg (by rw [w_ne (by omega)]) (by rw [w_ne (by omega)])) (by rw [w_ne (by omega), w_at]) (fun k hk => by rw [w_ne (by omega)]; exact h63' k hk) (fun _ => ⟨w_at, rfl⟩) (fun e => absurd q2 e)
        refine ⟨M', (e1.w (by unfold p180; omega)).tr r1, r2, r3, r4, fun d hd N xs => ?_⟩
        rw [hcode d hd N xs, g_179T _ L t s (z + 1 + (j + 1)) 3 a hw1 (by omega) h13' q2 (by omega), b_180_5]
        exact r5 d hd N xs
      · obtain ⟨M', r1, r2, r3, r4, r5⟩ := l_180 t s z a hz c (j + 1) (zz_wI (zz_wI M 53 (6563 + j) (iI (fv s a (z + 1 + j)))) 53 6562 (iI ((j + 1 : Nat) : Int))) (iI (-1)) (by omega) hw1 w_at h63' (fun e => absurd e q2) (fun _ => ⟨h13', rfl⟩)
        refine ⟨M', e1.tr r1, r2, r3, r4, fun d hd N xs => ?_⟩
        rw [hcode d hd N xs, g_179F _ L t s (z + 1 + (j + 1)) 3 a hw1 (by omega) (by omega) h13' q2 (by omega), b_180_5]
        exact r5 d hd N xs
    · obtain ⟨h13, hv⟩ := hn q
      have ef : fx (fun k => ¬ fg s a 3 (z + 1 + k)) (c + 1) j = j := if_pos q
      rw [ef]
      refine ⟨M, eqs.rf, h13, h62, h63, fun d hd N xs => ?_⟩
      rw [hv, b_180_4, if_pos (by decide), b_180_6, if_pos (by decide), b_180_7, if_neg (by decide), h62]
      by_cases q0 : 0 < j
      · rw [if_neg (by rw [t_le, show (0 : Int32).toInt = 0 from rfl, iI_to (by omega) (by omega)]; omega), b_180_9, if_pos (Or.inr rfl), b2_t ⟨q0, q⟩]
        rfl
      · rw [if_pos (by rw [t_le, show (0 : Int32).toInt = 0 from rfl, iI_to (by omega) (by omega)]; omega), b_180_8, b_180_9, if_pos (Or.inl rfl), b2_f (fun e => q0 e.1)]
        rfl
theorem l_182 (t s z hc : Nat) (a : Nat → Int32) (o : Int32) (hh : hc ≤ 7) : ∀ (c p n : Nat) (q : Nat → Nat) (M : Nat → Nat → Int32), n + c = 6 → p ≤ s → Tr M t s a → M 52 13 = iI p → CR s a z hc n q M → ∃ M', eqs M M' pRd ∧ CR s a z hc (pl s a c p n q).2.1 (pl s a c p n q).2.2 M' ∧ ∀ d, 5 ≤ d → ∀ N xs, zz_X (zz_call_ d) tb_182 6 [some (.ref 52), some (.int (iI t)), some (.int o)] [] (zm N xs M L) = some (some (.int (iI (pl s a c p n q).1)), zm N xs M' L)
  | 0, p, n, q, M, hn, hp, hw, h7, hx => by
    have h60 := hw.2.1
    have h4 := hw.1
    refine ⟨M, eqs.rf, hx, fun d hd N xs => ?_⟩
    rw [b_182_6, ix_nat (by omega) (by omega), o_some, h7, hw.2.2.1, hx.1]
    show _ = some (some (Value.int (iI (if p < s then (p : Int) else -9))), zm N xs M L)
    by_cases q0 : p < s
    · rw [if_pos (by rw [t_lt, iI_to (by omega) (by omega), iI_to (by omega) (by omega)]; omega), b_182_7, g_181S M L t s p a hw hp (by rw [hx.1, show n = 6 by omega]) h7 (by omega), b_182_8, if_pos (show iI 0 = (0 : Int32) from rfl), if_pos q0, h7]
    · rw [if_neg (by rw [t_lt, iI_to (by omega) (by omega), iI_to (by omega) (by omega)]; omega), if_neg (by rw [t_eq, show (0 : Int32).toInt = 0 from rfl, iI_to (by omega) (by omega)]; omega), b_182_11, if_neg q0]
      rfl
  | c + 1, p, n, q, M, hn, hp, hw, h7, hx => by
    have h60 := hw.2.1
    have h4 := hw.1
    have hE : pl s a (c + 1) p n q = if p < s ∨ n = 0 then (if (tq s a p).2 = true then pl s a c (bl s a (tq s a p).1) (n + 1) (dup q n p) else ((tq s a p).1, n, q)) else (-9, n, q) := rfl
    by_cases q0 : p < s ∨ n = 0
    · have ht := tq_le (a := a) hp
      have hst : ∀ d, 5 ≤ d → ∀ N xs, zz_X (zz_call_ d) tb_182 6 [some (.ref 52), some (.int (iI t)), some (.int o)] [] (zm N xs M L) = zz_X (zz_call_ d) tb_182 7 [some (.ref 52), some (.int (iI t)), some (.int o)] [] (zm N xs M L) := by
        intro d hd N xs
        rw [b_182_6, ix_nat (by omega) (by omega), o_some, h7, hw.2.2.1, hx.1]
        by_cases e : p < s
        · rw [if_pos (by rw [t_lt, iI_to (by omega) (by omega), iI_to (by omega) (by omega)]; omega)]
        · rw [if_neg (by rw [t_lt, iI_to (by omega) (by omega), iI_to (by omega) (by omega)]; omega), if_pos (by rw [show n = 0 by omega]; rfl)]
      rw [hE, if_pos q0]
      by_cases q1 : (tq s a p).2 = true
      · rw [if_pos q1]
        have hti := tq_i q1
        have h5 : (tq s a p).1 = p + 5 := by rw [hti.2.2.2.2.2]
        have e1 : eqs M (tpR s a M n p) pRd := (((((eqs.rf.w (by unfold pRd; omega)).w (by unfold pRd; omega)).w (by unfold pRd; omega)).w (by unfold pRd; omega)).w (by unfold pRd; omega)).w (by unfold pRd; omega)
        have e7 : tpR s a M n p 52 13 = iI ((p + 5 : Nat) : Int) := by unfold tpR; rw [w_ne (by omega), w_ne (by omega), w_ne (by omega), w_ne (by omega), w_ne (by omega), w_at]
        have e2 : eqs (tpR s a M n p) (zz_wI (tpR s a M n p) 52 13 (iI (bl s a (p + 5)))) pRd := eqs.rf.w (by unfold pRd; omega)
        have hx2 : CR s a z hc (n + 1) (dup q n p) (zz_wI (tpR s a M n p) 52 13 (iI (bl s a (p + 5)))) := by
          obtain ⟨x1, x2, x3, x4, x5, x6⟩ := hx
          have ev : ∀ k, zz_wI (tpR s a M n p) 52 13 (iI (bl s a (p + 5))) 53 k = if k = 6560 then iI ((n + 1 : Nat) : Int) else if k = 6582 + n then iI (fv s a (p + 4)) else if k = 6576 + n then iI (fv s a (p + 3) - 4) else if k = 6588 + n then iI (10 * fv s a (p + 1) + fv s a (p + 2)) else if k = 6570 + n then iI (kc (chA s a p)) else M 53 k := by
            intro k
            unfold tpR
            simp only [w_val, true_and, show ¬ (53 : Nat) = 52 from by omega, false_and, if_false]
          refine ⟨?_, ?_, ?_, ?_, ?_, ?_⟩
          · rw [ev, if_pos rfl]
          · rw [ev, if_neg (by omega), if_neg (by omega), if_neg (by omega), if_neg (by omega), if_neg (by omega)]; exact x2
          · rw [ev, if_neg (by omega), if_neg (by omega), if_neg (by omega), if_neg (by omega), if_neg (by omega)]; exact x3
          · intro i hi
            rw [ev, if_neg (by omega), if_neg (by omega), if_neg (by omega), if_neg (by omega), if_neg (by omega)]; exact x4 i hi
          · intro k hk
            rw [ev, if_neg (by omega), if_neg (by omega), if_neg (by omega), if_neg (by omega), if_neg (by omega)]; exact x5 k hk
          · intro i hi
            by_cases e : i = n
            · subst e
              rw [dup_at]
              refine ⟨?_, ?_, ?_, ?_⟩
              · rw [ev, if_neg (by omega), if_neg (by omega), if_neg (by omega), if_neg (by omega), if_pos rfl]
              · rw [ev, if_neg (by omega), if_neg (by omega), if_neg (by omega), if_pos rfl]
              · rw [ev, if_neg (by omega), if_neg (by omega), if_pos rfl]
              · rw [ev, if_neg (by omega), if_pos rfl]
            · rw [dup_ne e]
              obtain ⟨y1, y2, y3, y4⟩ := x6 i (by omega)
              refine ⟨?_, ?_, ?_, ?_⟩
              · rw [ev, if_neg (by omega), if_neg (by omega), if_neg (by omega), if_neg (by omega), if_neg (by omega)]; exact y1
              · rw [ev, if_neg (by omega), if_neg (by omega), if_neg (by omega), if_neg (by omega), if_neg (by omega)]; exact y2
              · rw [ev, if_neg (by omega), if_neg (by omega), if_neg (by omega), if_neg (by omega), if_neg (by omega)]; exact y3
              · rw [ev, if_neg (by omega), if_neg (by omega), if_neg (by omega), if_neg (by omega), if_neg (by omega)]; exact y4
        obtain ⟨M', r1, r2, r3⟩ := l_182 t s z hc a o hh c (bl s a (tq s a p).1) (n + 1) (dup q n p) (zz_wI (tpR s a M n p) 52 13 (iI (bl s a (p + 5)))) (by omega) (bl_le ht) (pRd_T hw (e1.tr e2)) (by rw [w_at, h5]) hx2
        refine ⟨M', (e1.tr e2).tr r1, r2, fun d hd N xs => ?_⟩
        rw [hst d hd N xs, b_182_7, g_181T M L t s p n a hw hp (by omega) hx.1 h7 q1 (by omega), b_182_8, if_neg (show ¬ iI 1 = (0 : Int32) from iI10), b_182_9, g_178 _ L t s (p + 5) a (pRd_T hw e1) (by omega) e7 (by omega), b_182_10]
        exact r3 d hd N xs
      · rw [if_neg q1]
        refine ⟨zz_wI M 52 13 (iI (tq s a p).1), eqs.rf.w (by unfold pRd; omega), ?_, fun d hd N xs => ?_⟩
        · unfold CR
          rw [w_ne (by omega : (53 : Nat) ≠ 52)]
          exact hx
        · rw [hst d hd N xs, b_182_7, g_181F M L t s p n a hw hp (by omega) hx.1 h7 q1 (by omega), b_182_8, if_pos (show iI 0 = (0 : Int32) from rfl), w_at]
    · rw [hE, if_neg q0]
      refine ⟨M, eqs.rf, hx, fun d hd N xs => ?_⟩
      rw [b_182_6, ix_nat (by omega) (by omega), o_some, h7, hw.2.2.1, hx.1, if_neg (by rw [t_lt, iI_to (by omega) (by omega), iI_to (by omega) (by omega)]; omega), if_neg (by rw [t_eq, show (0 : Int32).toInt = 0 from rfl, iI_to (by omega) (by omega)]; omega), b_182_11]
      rfl
end ZL
theorem kc_fig {s p : Nat} {a : Nat → Int32} (h : fg s a 3 p) : kc (chA s a p) < 0 ∧ nbl s a p := by
  have e : ∀ x : Int32, 0 ≤ (x - 48).toInt → (x - 48).toInt ≤ 3 → kc x < 0 ∧ ¬ x = 32 := by
    intro x h1 h2
    have k : ∀ y : Int32, x = y → (y - 48).toInt < 0 ∨ 3 < (y - 48).toInt → False := fun y hy hh => by rw [hy] at h1 h2; omega
    refine ⟨?_, fun q => k 32 q (by decide)⟩
    unfold kc
    rw [if_neg (fun q => k 99 q (by decide)), if_neg (fun q => k 107 q (by decide)), if_neg (fun q => k 98 q (by decide)), if_neg (fun q => k 115 q (by decide)), if_neg (fun q => k 109 q (by decide)), if_neg (fun q => k 114 q (by decide))]
    decide
  exact e (chA s a p) h.1 h.2
/-- the reference reads -/
theorem x_182 {M : Nat → Nat → Int32} (L : Nat → Nat → Int64) {t s : Nat} {a : Nat → Int32} (hw : Tr M t s a) : ∃ M', eqs M M' pRd ∧ ((rdV s a).1 = -9 → CR s a (bl s a 0) (hf s a (bl s a 0)) (rdV s a).2.1 (rdV s a).2.2 M') ∧ zc 6 182 [.ref 52, .int (iI t)] M L (some (.int (iI (rdV s a).1))) M' L := by
  have h60 := hw.2.1
  have zf : ∀ k, eqs M (zfr M 53 6560 k (iI 0)) pRd := fun k c j hp => by
    rw [fr_val, if_neg]
    unfold pRd at hp
    omega
  have hz0 : ∀ j, 6560 ≤ j → j < 6600 → zfr M 53 6560 40 (iI 0) 53 j = iI 0 := fun j h1 h2 => by rw [fr_val, if_pos ⟨rfl, h1, by omega⟩]
  have e0 := zf 40
  have lz : ∀ d N xs, zz_X (zz_call_ d) tb_182 0 [some (.ref 52), some (.int (iI t)), none] [] (zm N xs M L) = zz_X (zz_call_ d) tb_182 2 [some (.ref 52), some (.int (iI t)), some (.int (iI ((40 : Nat) : Int)))] [] (zm N xs (zfr M 53 6560 40 (iI 0)) L) := by
    intro d N xs
    rw [b_182_0]
    have hl := upto (fun k : Nat => zz_X (zz_call_ d) tb_182 1 [some (.ref 52), some (.int (iI t)), some (.int (iI k))] [] (zm N xs (zfr M 53 6560 k (iI 0)) L)) 40 (fun k hkc => by
      show zz_X (zz_call_ d) tb_182 1 _ _ _ = zz_X (zz_call_ d) tb_182 1 _ _ _
      have ez : zz_wI (zfr M 53 6560 k (iI 0)) 53 (6560 + k) (iI 0) = zfr M 53 6560 (k + 1) (iI 0) := by
        funext c j
        rw [w_val, fr_val, fr_val]
        by_cases q : c = 53 ∧ j = 6560 + k
        · rw [if_pos q, if_pos ⟨q.1, by omega, by omega⟩]
        · rw [if_neg q]
          by_cases q2 : c = 53 ∧ 6560 ≤ j ∧ j < 6560 + k
          · rw [if_pos q2, if_pos ⟨q2.1, q2.2.1, by omega⟩]
          · rw [if_neg q2, if_neg (by omega)]
      rw [b_182_1, if_neg (by rw [t_le, show (40 : Int32).toInt = 40 from rfl, iI_to (by omega) (by omega)]; omega), show (6560 : Int32) = iI 6560 from rfl, iI_add, show (6560 : Int) + (k : Int) = ((6560 + k : Nat) : Int) by omega, ix_nat (by omega) (by omega), o_some, show (0 : Int32) = iI 0 from rfl, ez, show (1 : Int32) = iI 1 from rfl, iI_add]
      rfl)
    have e : zfr M 53 6560 0 (iI 0) = M := by
      funext c j
      rw [fr_val, if_neg (by omega)]
    simp only [e] at hl
    refine Eq.trans hl ?_
    rw [b_182_1, if_pos (by rw [t_le, show (40 : Int32).toInt = 40 from rfl, iI_to (by omega) (by omega)]; omega)]
  generalize zfr M 53 6560 40 (iI 0) = M0 at *
  have hw0 := pRd_T hw e0
  have e01 : eqs M0 (zz_wI M0 52 13 (iI ((0 : Nat) : Int))) pRd := eqs.rf.w (by unfold pRd; omega)
  have hw01 := pRd_T hw0 e01
  have hz := bl_le (s := s) (a := a) (Nat.zero_le s)
  generalize hzz : bl s a 0 = z at *
  have e1 : eqs M0 (zz_wI M0 52 13 (iI z)) pRd := eqs.rf.w (by unfold pRd; omega)
  have hw1 := pRd_T hw0 e1
  have start : ∀ d, 5 ≤ d → ∀ N xs, zz_X (zz_call_ d) tb_182 0 [some (.ref 52), some (.int (iI t)), none] [] (zm N xs M L) = zz_X (zz_call_ d) tb_182 3 [some (.ref 52), some (.int (iI t)), some (.int (iI ((40 : Nat) : Int)))] [] (zm N xs (zz_wI M0 52 13 (iI z)) L) := by
    intro d hd N xs
    have g := g_178 (d := d) (N := N) (xs := xs) (tb_ := tb_182) (t_ := 3) (ls_ := [some (.ref 52), some (.int (iI t)), some (.int (iI ((40 : Nat) : Int)))]) (rest_ := []) _ L t s 0 a hw01 (by omega) w_at (by omega)
    rw [hzz, w_w] at g
    rw [lz d N xs, b_182_2]
    exact g
  unfold rdV
  rw [hzz]
  by_cases q : chA s a z = 122
  · have hzs : z < s := by
      by_cases e : z < s
      · exact e
      · rw [ch_out e] at q; exact absurd q (by decide)
    rw [if_pos q]
    have e2 : eqs (zz_wI M0 52 13 (iI z)) (zz_wI (zz_wI M0 52 13 (iI z)) 52 13 (iI ((z + 1 : Nat) : Int))) pRd := eqs.rf.w (by unfold pRd; omega)
    have hw2 := pRd_T hw1 e2
    have b53 : zz_wI (zz_wI M0 52 13 (iI z)) 52 13 (iI ((z + 1 : Nat) : Int)) 53 = M0 53 := by rw [w_ne (by omega), w_ne (by omega)]
    have h26 : ∃ M', eqs (zz_wI M0 52 13 (iI z)) M' p180 ∧ M' 52 13 = iI ((z + 1 + hf s a z : Nat) : Int) ∧ M' 53 6562 = iI (hf s a z) ∧ (∀ k, k < hf s a z → M' 53 (6563 + k) = iI (fv s a (z + 1 + k))) ∧ zc 4 180 [.ref 52, .int (iI t)] (zz_wI M0 52 13 (iI z)) L (some (.int (b2 (0 < hf s a z ∧ ¬ fg s a 3 (z + 1 + hf s a z))))) M' L := by
      have head : ∀ d, 3 ≤ d → ∀ N xs, zz_X (zz_call_ d) tb_180 0 [some (.ref 52), some (.int (iI t)), none] [] (zm N xs (zz_wI M0 52 13 (iI z)) L) = (zz_o (zz_call_ d 179 [.ref 52, .int (iI t), .int (iI ((3 : Nat) : Int))] (zm N xs (zz_wI (zz_wI M0 52 13 (iI z)) 52 13 (iI ((z + 1 : Nat) : Int))) L)) fun r => zz_X (zz_call_ d) tb_180 3 [some (.ref 52), some (.int (iI t)), none] (r.1.toList ++ []) r.2) := by
        intro d hd N xs
        rw [b_180_0, w_at, g_177 _ L t s z a hw1 (by omega) (by omega), b_180_1, if_pos q, b_180_2, w_at, show (1 : Int32) = iI 1 from rfl, iI_add]
        rfl
      by_cases q2 : fg s a 3 (z + 1)
      · obtain ⟨M', r1, r2, r3, r4, r5⟩ := l_180 L t s z a hzs 7 0 (zz_wI (zz_wI (zz_wI M0 52 13 (iI z)) 52 13 (iI ((z + 1 : Nat) : Int))) 52 13 (iI ((z + 1 + 1 : Nat) : Int))) (iI (fv s a (z + 1))) (by omega) (hw2.cg (by rw [w_ne (by omega)]) (by rw [w_ne (by omega)])) (by rw [w_ne (by omega), b53]; exact hz0 _ (by omega) (by omega)) (fun k hk => by omega) (fun _ => ⟨w_at, rfl⟩) (fun e => absurd q2 e)
        refine ⟨M', ((eqs.rf.w (by unfold p180; omega)).w (by unfold p180; omega)).tr r1, r2, r3, r4, ?_⟩
        refine zc_of (n := 3) (ls := [some (.ref 52), some (.int (iI t)), none]) mk_180 rfl rfl rfl rfl (fun d hd N xs => ?_)
        rw [head d hd N xs, g_179T _ L t s (z + 1) 3 a hw2 (by omega) w_at q2 (by omega), b_180_3]
        exact r5 d (by omega) N xs
      · obtain ⟨M', r1, r2, r3, r4, r5⟩ := l_180 L t s z a hzs 7 0 (zz_wI (zz_wI M0 52 13 (iI z)) 52 13 (iI ((z + 1 : Nat) : Int))) (iI (-1)) (by omega) hw2 (by rw [b53]; exact hz0 _ (by omega) (by omega)) (fun k hk => by omega) (fun e => absurd e q2) (fun _ => ⟨w_at, rfl⟩)
        refine ⟨M', (eqs.rf.w (by unfold p180; omega)).tr r1, r2, r3, r4, ?_⟩
        refine zc_of (n := 3) (ls := [some (.ref 52), some (.int (iI t)), none]) mk_180 rfl rfl rfl rfl (fun d hd N xs => ?_)
        rw [head d hd N xs, g_179F _ L t s (z + 1) 3 a hw2 (by omega) (by omega) w_at q2 (by omega), b_180_3]
        exact r5 d (by omega) N xs
    obtain ⟨M', r1, h7', h5', h8', c⟩ := h26
    have r1' : eqs (zz_wI M0 52 13 (iI z)) M' pRd := r1.im (fun c k h => by unfold pRd at h; unfold p180; omega)
    have hw3 := pRd_T hw1 r1'
    by_cases q1 : hf s a z = 0
    · rw [if_pos q1]
      refine ⟨M', e0.tr (e1.tr r1'), fun h => by have h' : (((z + 1 : Nat) : Int)) = -9 := h; omega, ?_⟩
      refine zc_of (n := 5) (ls := [some (.ref 52), some (.int (iI t)), none]) mk_182 rfl rfl rfl rfl (fun d hd N xs => ?_)
      rw [start d hd N xs, b_182_3, c.go (by omega), b_182_4, if_pos (by rw [b2_f (by omega)]; rfl), h7', q1]
    · rw [if_neg q1]
      have hs := hf_s (a := a) hzs
      by_cases q3 : fg s a 3 (z + 1 + hf s a z)
      · have hk := kc_fig q3
        have eb : bl s a (z + 1 + hf s a z) = z + 1 + hf s a z := bl_id hk.2
        have ep : pl s a 6 (bl s a (z + 1 + hf s a z)) 0 (fun _ => 0) = (((z + 1 + hf s a z : Nat) : Int), 0, fun _ => 0) := by
          rw [eb]
          show (if z + 1 + hf s a z < s ∨ 0 = 0 then (if (tq s a (z + 1 + hf s a z)).2 = true then _ else (((tq s a (z + 1 + hf s a z)).1 : Int), 0, fun _ => 0)) else _) = _
          rw [if_pos (Or.inr rfl), tq_k hk.1, if_neg (ffF _)]
        rw [ep]
        refine ⟨M', e0.tr (e1.tr r1'), fun h => by have h' : (((z + 1 + hf s a z : Nat) : Int)) = -9 := h; omega, ?_⟩
        refine zc_of (n := 5) (ls := [some (.ref 52), some (.int (iI t)), none]) mk_182 rfl rfl rfl rfl (fun d hd N xs => ?_)
        rw [start d hd N xs, b_182_3, c.go (by omega), b_182_4, if_pos (by rw [b2_f (fun e => e.2 q3)]; rfl), h7']
      · have e4 : eqs M' (zz_wI M' 52 13 (iI (bl s a (z + 1 + hf s a z)))) pRd := eqs.rf.w (by unfold pRd; omega)
        have k0 : ∀ j, 6560 ≤ j → j < 6600 → (j < 6562 ∨ 6570 ≤ j) → M' 53 j = iI 0 := fun j j1 j2 j3 => by rw [r1 53 j ⟨by omega, by omega⟩, w_ne (by omega)]; exact hz0 j j1 j2
        obtain ⟨M2, u1, u2, u3⟩ := l_182 L t s z (hf s a z) a (iI ((40 : Nat) : Int)) (hf_le s z a) 6 (bl s a (z + 1 + hf s a z)) 0 (fun _ => 0) (zz_wI M' 52 13 (iI (bl s a (z + 1 + hf s a z)))) (by omega) (bl_le hs) (pRd_T hw3 e4) w_at (by
          unfold CR
          rw [w_ne (by omega : (53 : Nat) ≠ 52)]
          exact ⟨k0 _ (by omega) (by omega) (by omega), h5', k0 _ (by omega) (by omega) (by omega), fun i hi => k0 _ (by omega) (by omega) (by omega), h8', fun i hi => by omega⟩)
        refine ⟨M2, e0.tr (e1.tr (r1'.tr (e4.tr u1))), fun _ => u2, ?_⟩
        refine zc_of (n := 5) (ls := [some (.ref 52), some (.int (iI t)), none]) mk_182 rfl rfl rfl rfl (fun d hd N xs => ?_)
        rw [start d hd N xs, b_182_3, c.go (by omega), b_182_4, if_neg (by rw [b2_t ⟨by omega, q3⟩]; exact iI10), b_182_5, g_178 M' L t s (z + 1 + hf s a z) a hw3 hs h7' (by omega)]
        exact u3 d hd N xs
  · rw [if_neg q]
    refine ⟨zz_wI M0 52 13 (iI z), e0.tr e1, fun h => by have h' : ((z : Nat) : Int) = -9 := h; omega, ?_⟩
    have c : zc 4 180 [.ref 52, .int (iI t)] (zz_wI M0 52 13 (iI z)) L (some (.int (iI 0))) (zz_wI M0 52 13 (iI z)) L := by
      refine zc_of (n := 3) (ls := [some (.ref 52), some (.int (iI t)), none]) mk_180 rfl rfl rfl rfl (fun d hd N xs => ?_)
      rw [b_180_0, w_at, g_177 _ L t s z a hw1 (by omega) (by omega), b_180_1, if_neg q]
      rfl
    refine zc_of (n := 5) (ls := [some (.ref 52), some (.int (iI t)), none]) mk_182 rfl rfl rfl rfl (fun d hd N xs => ?_)
    rw [start d hd N xs, b_182_3, c.go (by omega), b_182_4, if_pos (show iI 0 = (0 : Int32) from rfl), w_at]

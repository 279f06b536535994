/-! count, of both. -/
def tal (V : Vw) (M : Nat → Nat → Int32) : Nat → Int32
  | 0 => iI V.n
  | 1 => iI V.day
  | 2 => M 23 13
  | 3 => iI (pout (fun i j => V.mt i j 0) V.n V.n 0 (0, 0, -9)).1
  | 4 => iI (cZ (fun i => isKd (V.kind i) 1) V.n)
  | 5 => iI (cZ (fun i => isKd (V.kind i) 2) V.n)
  | 6 => iI (cZ (fun r => (M 9 r).toInt ≠ -1) 6)
  | 7 => iI (cZ (fun r => (M 16 r).toInt ≠ -1) 4)
  | _ => iI (cZ (fun k => 0 ≤ (M 35 k).toInt) 3)
def tM (V : Vw) (k : Nat) (M : Nat → Nat → Int32) : Nat → Nat → Int32 := if k = 3 then zz_wI M 36 1 (iI V.n) else M
def tL (V : Vw) (k : Nat) (L : Nat → Nat → Int64) : Nat → Nat → Int64 := if k = 3 then sL L 37 (fun i => lI (bt V 0 i)) V.n else L
def tR (V : Vw) (k : Nat) (M : Nat → Nat → Int32) : Nat → Nat → Int32 := if k = 3 then m3 (sI M 61 (fun i => iI (V.minAt i 0)) V.n) (pout (fun i j => V.mt i j 0) V.n V.n 0 (0, 0, -9)) else M
def talR (V : Vw) (M : Nat → Nat → Int32) : Nat → Int32
  | 0 => iI V.n
  | 1 => iI V.day
  | 2 => M 52 1
  | 3 => iI (pout (fun i j => V.mt i j 0) V.n V.n 0 (0, 0, -9)).1
  | 4 => iI (cZ (fun i => V.kind i = 1 ∨ V.kind i = 4) V.n)
  | 5 => iI (cZ (fun i => V.kind i = 2 ∨ V.kind i = 5) V.n)
  | 6 => iI (cZ (fun r => 0 ≤ (M 56 r).toInt) 6)
  | 7 => iI (cZ (fun r => 0 ≤ (M 58 r).toInt) 4)
  | _ => iI (cZ (fun k => 0 ≤ (M 54 k).toInt) 3)
theorem tM_eqs (V : Vw) (k : Nat) (M : Nat → Nat → Int32) : eqs M (tM V k M) pA := by
  unfold tM
  by_cases q : k = 3
  · rw [if_pos q]; exact eqs.rf.w (by unfold pA pR pT pD pF pH; omega)
  · rw [if_neg q]; exact eqs.rf
theorem tR_eqs (V : Vw) (k : Nat) (M : Nat → Nat → Int32) : eqs M (tR V k M) pA := by
  unfold tR
  by_cases q : k = 3
  · rw [if_pos q]; exact (eqs.rf.r (by unfold pA pR pT pD pF pH; omega)).tr (m3_eqs _ _)
  · rw [if_neg q]; exact eqs.rf
theorem tL_SL (V : Vw) (k : Nat) (L : Nat → Nat → Int64) : SL L (tL V k L) := by
  unfold tL
  by_cases q : k = 3
  · rw [if_pos q]; exact sL_SL _ _ _ _ (by omega) (by omega)
  · rw [if_neg q]; exact SL.rf
theorem tal_4 (V : Vw) : cZ (fun i => V.kind i = 1 ∨ V.kind i = 4) V.n = cZ (fun i => isKd (V.kind i) 1) V.n := cZ_cg (fun i _ => ⟨fun h => by rcases h with h | h; exact Or.inl h; exact Or.inr (Or.inr (Or.inl ⟨rfl, h⟩)), fun h => by unfold isKd at h; omega⟩)
theorem tal_5 (V : Vw) : cZ (fun i => V.kind i = 2 ∨ V.kind i = 5) V.n = cZ (fun i => isKd (V.kind i) 2) V.n := cZ_cg (fun i _ => ⟨fun h => by rcases h with h | h; exact Or.inl h; exact Or.inr (Or.inr (Or.inr ⟨rfl, h⟩)), fun h => by unfold isKd at h; omega⟩)
theorem tal_6 {M : Nat → Nat → Int32} (h : RW M) : cZ (fun r => 0 ≤ (M 56 r).toInt) 6 = cZ (fun r => (M 9 r).toInt ≠ -1) 6 := cZ_cg (fun r hr => by have := h r hr; rw [this.1]; omega)
theorem tal_7 {M : Nat → Nat → Int32} (h : TX M) : cZ (fun r => 0 ≤ (M 58 r).toInt) 4 = cZ (fun r => (M 16 r).toInt ≠ -1) 4 := cZ_cg (fun r hr => by have := h r hr; rw [this.1]; omega)
theorem HS.dd {M : Nat → Nat → Int32} (h : HS M) : M 52 1 = M 23 13 ∧ ∀ j, j < 3 → M 54 j = M 35 j := by
  obtain ⟨V', D, m, K, E, h1, h2, h3, h4, h5, h6, h7, h8, h9, h10, h11⟩ := h
  exact ⟨by rw [h5, h6], fun j hj => by rw [(h11 j hj).1, (h11 j hj).2.1]⟩
theorem tal_8 {M : Nat → Nat → Int32} (h : HS M) : cZ (fun r => 0 ≤ (M 54 r).toInt) 3 = cZ (fun r => 0 ≤ (M 35 r).toInt) 3 := cZ_cg (fun r hr => by rw [h.dd.2 r hr])
theorem tal_eq {V : Vw} {M : Nat → Nat → Int32} {L : Nat → Nat → Int64} (hI : Inv M L) (k : Nat) : talR V M k = tal V M k := by
  unfold talR tal
  split
  · rfl
  · rfl
  · exact hI.2.2.2.2.1.dd.1
  · rfl
  · rw [tal_4]
  · rw [tal_5]
  · rw [tal_6 hI.1]
  · rw [tal_7 hI.2.1]
  · rw [tal_8 hI.2.2.2.2.1]
section ZR
variable (M : Nat → Nat → Int32) (L : Nat → Nat → Int64)
theorem s_148 (V : Vw) (hk : Vk V) (hv : Hv V M) (k : Nat) (h : k < 9) : zc 6 148 [.ref 0, .int (iI k)] M L (some (.int (tal V M k))) (tM V k M) (tL V k L) := by
  refine zc_of (n := 5) (ls := [some (.ref 0), some (.int (iI k))]) mk_148 rfl rfl rfl rfl (fun d hd N xs => ?_)
  rw [b_148_0]
  rcases (by omega : k = 0 ∨ k = 1 ∨ k = 2 ∨ k = 3 ∨ k = 4 ∨ k = 5 ∨ k = 6 ∨ k = 7 ∨ k = 8) with rfl | rfl | rfl | rfl | rfl | rfl | rfl | rfl | rfl
  · show zz_X (zz_call_ d) tb_148 1 _ _ _ = _
    rw [b_148_1, hv.n]
    rfl
  · show zz_X (zz_call_ d) tb_148 2 _ _ _ = _
    rw [b_148_2, hv.day]
    rfl
  · show zz_X (zz_call_ d) tb_148 3 _ _ _ = _
    rw [b_148_3]
    rfl
  · show zz_X (zz_call_ d) tb_148 4 _ _ _ = _
    rw [b_148_4, g_147 M L V hk hv (by omega), b_148_5, nPairs]
    rfl
  · show zz_X (zz_call_ d) tb_148 6 _ _ _ = _
    rw [b_148_6, show (1 : Int32) = iI ((1 : Nat) : Int) from rfl, g_40 M L V hk hv 1 (by omega) (by omega), b_148_7]
    rfl
  · show zz_X (zz_call_ d) tb_148 8 _ _ _ = _
    rw [b_148_8, show (2 : Int32) = iI ((2 : Nat) : Int) from rfl, g_40 M L V hk hv 2 (by omega) (by omega), b_148_9]
    rfl
  · show zz_X (zz_call_ d) tb_148 10 _ _ _ = _
    rw [b_148_10, g_22a M L (by omega), b_148_11]
    rfl
  · show zz_X (zz_call_ d) tb_148 12 _ _ _ = _
    rw [b_148_12, g_22b M L (by omega), b_148_13]
    rfl
  · show zz_X (zz_call_ d) tb_148 14 _ _ _ = _
    rw [b_148_14, g_59 M L (by omega), b_148_15]
    rfl
theorem g_148 (V : Vw) (hk : Vk V) (hv : Hv V M) (k : Nat) (h : k < 9) {d N : Nat} {xs : Nat → Int32} {tb_ : List zz_B} {t_ : Nat} {ls_ : zz_L} {rest_ : List Value} (hd_ : 6 ≤ d) : (zz_o (zz_call_ d 148 [.ref 0, .int (iI k)] (zm N xs M L)) fun r => zz_X (zz_call_ d) tb_ t_ ls_ (r.1.toList ++ rest_) r.2) = zz_X (zz_call_ d) tb_ t_ ls_ ((.int (tal V M k)) :: rest_) (zm N xs (tM V k M) (tL V k L)) := (s_148 M L V hk hv k h).go hd_
theorem s_255 (V : Vw) (hk : Vk V) (hr : Rv V (M 53) 0) (k : Nat) (h : k < 9) : zc 7 255 [.ref 52, .int (iI k)] M L (some (.int (talR V M k))) (tR V k M) L := by
  refine zc_of (n := 6) (ls := [some (.ref 52), some (.int (iI k))]) mk_255 rfl rfl rfl rfl (fun d hd N xs => ?_)
  have e0 : M 53 0 = iI V.n := hr.n
  have e1 : M 53 1 = iI V.day := hr.day
  rw [b_255_0]
  rcases (by omega : k = 0 ∨ k = 1 ∨ k = 2 ∨ k = 3 ∨ k = 4 ∨ k = 5 ∨ k = 6 ∨ k = 7 ∨ k = 8) with rfl | rfl | rfl | rfl | rfl | rfl | rfl | rfl | rfl
  · show zz_X (zz_call_ d) tb_255 1 _ _ _ = _
    rw [b_255_1, e0]
    rfl
  · show zz_X (zz_call_ d) tb_255 2 _ _ _ = _
    rw [b_255_2, e1]
    rfl
  · show zz_X (zz_call_ d) tb_255 3 _ _ _ = _
    rw [b_255_3]
    rfl
  · show zz_X (zz_call_ d) tb_255 4 _ _ _ = _
    rw [b_255_4, g_201 M L V hk hr (by omega), b_255_5]
    rfl
  · show zz_X (zz_call_ d) tb_255 6 _ _ _ = _
    rw [b_255_6, show (1 : Int32) = iI ((1 : Nat) : Int) from rfl, show (4 : Int32) = iI ((4 : Nat) : Int) from rfl, g_254 M L V hk hr 1 4 (by omega) (by omega) (by omega), b_255_7]
    rfl
  · show zz_X (zz_call_ d) tb_255 8 _ _ _ = _
    rw [b_255_8, show (2 : Int32) = iI ((2 : Nat) : Int) from rfl, show (5 : Int32) = iI ((5 : Nat) : Int) from rfl, g_254 M L V hk hr 2 5 (by omega) (by omega) (by omega), b_255_9]
    rfl
  · show zz_X (zz_call_ d) tb_255 10 _ _ _ = _
    rw [b_255_10, show (6 : Int32) = iI ((6 : Nat) : Int) from rfl, g_253b M L 6 (by omega) (by omega), b_255_11]
    rfl
  · show zz_X (zz_call_ d) tb_255 12 _ _ _ = _
    rw [b_255_12, show (4 : Int32) = iI ((4 : Nat) : Int) from rfl, g_253c M L 4 (by omega) (by omega), b_255_13]
    rfl
  · show zz_X (zz_call_ d) tb_255 14 _ _ _ = _
    rw [b_255_14, show (3 : Int32) = iI ((3 : Nat) : Int) from rfl, g_253a M L 3 (by omega) (by omega), b_255_15]
    rfl
theorem g_255 (V : Vw) (hk : Vk V) (hr : Rv V (M 53) 0) (k : Nat) (h : k < 9) {d N : Nat} {xs : Nat → Int32} {tb_ : List zz_B} {t_ : Nat} {ls_ : zz_L} {rest_ : List Value} (hd_ : 7 ≤ d) : (zz_o (zz_call_ d 255 [.ref 52, .int (iI k)] (zm N xs M L)) fun r => zz_X (zz_call_ d) tb_ t_ ls_ (r.1.toList ++ rest_) r.2) = zz_X (zz_call_ d) tb_ t_ ls_ ((.int (talR V M k)) :: rest_) (zm N xs (tR V k M) L) := (s_255 M L V hk hr k h).go hd_
theorem s_255B (z : Int) (h1 : -2147483648 ≤ z) (h2 : z ≤ 2147483647) (h : ¬ (0 ≤ z ∧ z < 9)) : zc 7 255 [.ref 52, .int (iI z)] M L (some (.int (iI (-1)))) M L := by
  refine zc_of (n := 6) (ls := [some (.ref 52), some (.int (iI z))]) mk_255 rfl rfl rfl rfl (fun d hd N xs => ?_)
  rw [b_255_0]
  have e : zz_tsw (zz_X (zz_call_ d) tb_255) 0 [1, 2, 3, 4, 6, 8, 10, 12, 14] 16 (iI z) [some (.ref 52), some (.int (iI z))] [] (zm N xs M L) = zz_X (zz_call_ d) tb_255 16 [some (.ref 52), some (.int (iI z))] [] (zm N xs M L) := by
    unfold zz_tsw
    rw [iI_to h1 h2]
    by_cases q : z < 0
    · rw [if_pos q]
    · rw [if_neg q, List.getElem?_eq_none (by simp; omega)]
  rw [e, b_255_16]
  rfl
theorem g_255B (z : Int) (h1 : -2147483648 ≤ z) (h2 : z ≤ 2147483647) (h : ¬ (0 ≤ z ∧ z < 9)) {d N : Nat} {xs : Nat → Int32} {tb_ : List zz_B} {t_ : Nat} {ls_ : zz_L} {rest_ : List Value} (hd_ : 7 ≤ d) : (zz_o (zz_call_ d 255 [.ref 52, .int (iI z)] (zm N xs M L)) fun r => zz_X (zz_call_ d) tb_ t_ ls_ (r.1.toList ++ rest_) r.2) = zz_X (zz_call_ d) tb_ t_ ls_ ((.int (iI (-1))) :: rest_) (zm N xs M L) := (s_255B M L z h1 h2 h).go hd_
theorem s_137B (z : Int) (h1 : -2147483648 ≤ z) (h2 : z ≤ 2147483647) (h : ¬ (0 ≤ z ∧ z < 9)) : zc 7 137 [.ref 0, .int (iI z)] M L (some (.int (iI (-1)))) M L := by
  refine zc_of (n := 6) (ls := [some (.ref 0), some (.int (iI z))]) mk_137 rfl rfl rfl rfl (fun d hd N xs => ?_)
  simp (disch := first | omega | assumption) only [b_137_0, b_137_1, iI_lit, iI_neg, iI_add, iI_sub, iI_mul, t_lt, t_le, t_eq, iI_to, b2_to, if_10, if_11, nor_em, Decidable.not_not, Int.reduceEq, Int.reduceLT, Int.reduceLE, Int.reduceAdd, Int.reduceSub, Int.reduceMul, Int.reduceNeg, reduceIte, or_true, true_or, or_false, false_or, o_some]
  repeat' split
  all_goals first | rfl | (exfalso; omega)
theorem g_137B (z : Int) (h1 : -2147483648 ≤ z) (h2 : z ≤ 2147483647) (h : ¬ (0 ≤ z ∧ z < 9)) {d N : Nat} {xs : Nat → Int32} {tb_ : List zz_B} {t_ : Nat} {ls_ : zz_L} {rest_ : List Value} (hd_ : 7 ≤ d) : (zz_o (zz_call_ d 137 [.ref 0, .int (iI z)] (zm N xs M L)) fun r => zz_X (zz_call_ d) tb_ t_ ls_ (r.1.toList ++ rest_) r.2) = zz_X (zz_call_ d) tb_ t_ ls_ ((.int (iI (-1))) :: rest_) (zm N xs M L) := (s_137B M L z h1 h2 h).go hd_
theorem s_137O (V : Vw) (hk : Vk V) (hv : Hv V M) (k : Nat) (h : k < 9) : zc 7 137 [.ref 0, .int (iI k)] M L (some (.int (tal V M k))) (tM V k M) (tL V k L) := by
  refine zc_of (n := 6) (ls := [some (.ref 0), some (.int (iI k))]) mk_137 rfl rfl rfl rfl (fun d hd N xs => ?_)
  rw [b_137_0, iI_lit, iI_lit, if_neg (by rw [t_lt, iI_to (by omega) (by omega), iI_to (by omega) (by omega)]; omega), if_pos (by rw [t_le, iI_to (by omega) (by omega), iI_to (by omega) (by omega)]; omega), b_137_2, g_148 M L V hk hv k h (by omega), b_137_3]
theorem g_137O (V : Vw) (hk : Vk V) (hv : Hv V M) (k : Nat) (h : k < 9) {d N : Nat} {xs : Nat → Int32} {tb_ : List zz_B} {t_ : Nat} {ls_ : zz_L} {rest_ : List Value} (hd_ : 7 ≤ d) : (zz_o (zz_call_ d 137 [.ref 0, .int (iI k)] (zm N xs M L)) fun r => zz_X (zz_call_ d) tb_ t_ ls_ (r.1.toList ++ rest_) r.2) = zz_X (zz_call_ d) tb_ t_ ls_ ((.int (tal V M k)) :: rest_) (zm N xs (tM V k M) (tL V k L)) := (s_137O M L V hk hv k h).go hd_
end ZR
theorem tal_cg {V : Vw} {M M' : Nat → Nat → Int32} (h : ∀ c, c ≠ 36 → M' c = M c) (k : Nat) : talR V M' k = talR V M k := by
  unfold talR
  split <;> first | rfl | (rw [h _ (by omega)])
theorem tM_ne (V : Vw) (k : Nat) (M : Nat → Nat → Int32) (c : Nat) (h : c ≠ 36) : tM V k M c = M c := by
  unfold tM
  split
  · rw [w_ne h]
  · rfl
theorem o_count {M : Nat → Nat → Int32} {L : Nat → Nat → Int64} (a : Int32) (hI : Inv M L) : Ok 137 255 [.int a] M L := by
  obtain ⟨z, h1, h2, rfl⟩ := iI_of a
  obtain ⟨V, hk, hv, hr⟩ := hI.view
  by_cases q : 0 ≤ z ∧ z < 9
  · obtain ⟨k, rfl⟩ : ∃ x : Nat, z = x := ⟨z.toNat, by omega⟩
    have g2 := s_255 (tM V k M) (tL V k L) V hk (by rw [tM_ne _ _ _ _ (by omega)]; exact hr) k (by omega)
    rw [tal_cg (tM_ne V k M), tal_eq hI k] at g2
    exact ⟨_, _, _, _, _, (s_137O M L V hk hv k (by omega)).mono (by omega), g2.mono (by omega), hI.cg ((tM_eqs V k M).tr (tR_eqs V k _)) (tL_SL V k L)⟩
  · exact Ok.same hI (s_137B M L z h1 h2 q) (s_255B M L z h1 h2 q) (by omega) (by omega)

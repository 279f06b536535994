/-! digest, of both. -/
def hM (V : Vw) (M : Nat → Nat → Int32) (k : Nat) : Nat → Nat → Int32 := if 3 < k then zz_wI M 36 1 (iI V.n) else M
def hL (V : Vw) (L : Nat → Nat → Int64) (k : Nat) : Nat → Nat → Int64 := if 3 < k then sL L 37 (fun i => lI (bt V 0 i)) V.n else L
def rM (V : Vw) (M : Nat → Nat → Int32) (k : Nat) : Nat → Nat → Int32 := if 3 < k then m3 (sI M 61 (fun i => iI (V.minAt i 0)) V.n) (pout (fun i j => V.mt i j 0) V.n V.n 0 (0, 0, -9)) else M
theorem hM_s (V : Vw) (M : Nat → Nat → Int32) (k : Nat) : tM V k (hM V M k) = hM V M (k + 1) := by
  unfold tM hM
  by_cases q : k = 3
  · rw [if_pos q, if_neg (by omega), if_pos (by omega)]
  · rw [if_neg q]
    by_cases q2 : 3 < k
    · rw [if_pos q2, if_pos (by omega)]
    · rw [if_neg q2, if_neg (by omega)]
theorem hL_s (V : Vw) (L : Nat → Nat → Int64) (k : Nat) : tL V k (hL V L k) = hL V L (k + 1) := by
  unfold tL hL
  by_cases q : k = 3
  · rw [if_pos q, if_neg (by omega), if_pos (by omega)]
  · rw [if_neg q]
    by_cases q2 : 3 < k
    · rw [if_pos q2, if_pos (by omega)]
    · rw [if_neg q2, if_neg (by omega)]
theorem rM_s (V : Vw) (M : Nat → Nat → Int32) (k : Nat) : tR V k (rM V M k) = rM V M (k + 1) := by
  unfold tR rM
  by_cases q : k = 3
  · rw [if_pos q, if_neg (by omega), if_pos (by omega)]
  · rw [if_neg q]
    by_cases q2 : 3 < k
    · rw [if_pos q2, if_pos (by omega)]
    · rw [if_neg q2, if_neg (by omega)]
theorem hM_ne (V : Vw) (M : Nat → Nat → Int32) (k : Nat) {c : Nat} (h : c ≠ 36) : hM V M k c = M c := by
  unfold hM
  split
  · rw [w_ne h]
  · rfl
theorem rM_ne (V : Vw) (M : Nat → Nat → Int32) (k : Nat) {c : Nat} (h : c ≠ 52) (h2 : c ≠ 61) : rM V M k c = M c := by
  unfold rM
  split
  · rw [m3_ne _ _ h, sI_ne h2]
  · rfl
theorem rM_1 (V : Vw) (M : Nat → Nat → Int32) (k : Nat) : rM V M k 52 1 = M 52 1 := by
  unfold rM
  split
  · unfold m3
    rw [w_nk (by omega), w_nk (by omega), sI_ne (by omega)]
  · rfl
theorem hM_eqs (V : Vw) (M : Nat → Nat → Int32) (k : Nat) : eqs M (hM V M k) pA := by
  unfold hM
  split
  · exact eqs.rf.w (by unfold pA pR pT pD pF pH; omega)
  · exact eqs.rf
theorem rM_eqs (V : Vw) (M : Nat → Nat → Int32) (k : Nat) : eqs M (rM V M k) pA := by
  unfold rM
  split
  · exact (eqs.rf.r (by unfold pA pR pT pD pF pH; omega)).tr (m3_eqs _ _)
  · exact eqs.rf
theorem hL_SL (V : Vw) (L : Nat → Nat → Int64) (k : Nat) : SL L (hL V L k) := by
  unfold hL
  split
  · exact sL_SL _ _ _ _ (by omega) (by omega)
  · exact SL.rf
theorem talh (V : Vw) (M : Nat → Nat → Int32) (j k : Nat) : tal V (hM V M j) k = tal V M k := by
  unfold tal
  split <;> first | rfl | (rw [hM_ne _ _ _ (by omega)])
theorem talr (V : Vw) (M : Nat → Nat → Int32) (j k : Nat) : talR V (rM V M j) k = talR V M k := by
  unfold talR
  split <;> first | rfl | (rw [rM_ne _ _ _ (by omega) (by omega)]) | (rw [rM_1])
def mxP (V : Vw) : Nat → Int64 → Int64
  | 0, h => h
  | i + 1, h => mx (fun w => iI (V.part i w)) 6 (mxP V i h)
def hw (L : Nat → Nat → Int64) (x : Int64) : Nat → Nat → Int64 := zz_wL L 52 23 x
theorem hw_at (L : Nat → Nat → Int64) (x : Int64) : hw L x 52 23 = x := by simp [hw, zz_wL, zz_rL, vp_updL]
theorem hw_hw (L : Nat → Nat → Int64) (x y : Int64) : zz_wL (hw L x) 52 23 y = hw L y := by
  funext b j
  unfold hw zz_wL zz_rL vp_updL
  by_cases q : b = 52
  · subst q
    simp only [if_true]
    by_cases q2 : j = 23
    · subst q2; simp
    · simp [q2]
  · simp [q]
theorem hw_SL (L : Nat → Nat → Int64) (x : Int64) : SL L (hw L x) := by
  unfold SL hw zz_wL zz_rL vp_updL
  simp
section ZR
variable (M : Nat → Nat → Int32) (L : Nat → Nat → Int64)
theorem s_58 (k : Nat) (h : k < 3) : zc 1 58 [.ref 23, .int (iI k)] M L (some (.int (M 35 k))) M L := by
  refine zc_of (n := 0) (ls := [some (.ref 23), some (.int (iI k))]) mk_58 rfl rfl rfl rfl (fun d hd N xs => ?_)
  rw [b_58_0, iI_lit, if_neg (by rw [t_lt, iI_to (by omega) (by omega), iI_to (by omega) (by omega)]; omega), iI_lit, if_neg (by rw [t_le, iI_to (by omega) (by omega), iI_to (by omega) (by omega)]; omega), ix_nat (by omega) (by omega), o_some, b_58_2]
theorem g_58 (k : Nat) (h : k < 3) {d N : Nat} {xs : Nat → Int32} {tb_ : List zz_B} {t_ : Nat} {ls_ : zz_L} {rest_ : List Value} (hd_ : 1 ≤ d) : (zz_o (zz_call_ d 58 [.ref 23, .int (iI k)] (zm N xs M L)) fun r => zz_X (zz_call_ d) tb_ t_ ls_ (r.1.toList ++ rest_) r.2) = zz_X (zz_call_ d) tb_ t_ ls_ ((.int (M 35 k)) :: rest_) (zm N xs M L) := (s_58 M L k h).go hd_
theorem s_140 (V : Vw) (hk : Vk V) (hv : Hv V M) (hs : ∀ r : Nat, r < 6 → (M 9 r).toInt ≤ 40) (ht : ∀ r : Nat, r < 4 → (M 16 r).toInt ≤ 60) : zc 7 140 [.ref 0] M L (some (.long (mxS (M 16) (fun r => M (12 + r)) 4 (mxS (M 9) (fun r => M (3 + r)) 6 (mx (M 35) 3 (mxP V V.n (mx (tal V M) 9 17))))))) (hM V M 9) (hL V L 9) := by
  refine zc_of (n := 6) (ls := [some (.ref 0), none, none, none, none]) mk_140 rfl rfl rfl rfl (fun d hd N xs => ?_)
  have hn := hk.n
  rw [b_140_0]
  have l1 := upto (fun k : Nat => zz_X (zz_call_ d) tb_140 1 [some (.ref 0), some (.long (mx (tal V M) k 17)), none, some (.int (iI k)), none] [] (zm N xs (hM V M k) (hL V L k))) 9 (fun k hk9 => by
    show zz_X (zz_call_ d) tb_140 1 _ _ _ = zz_X (zz_call_ d) tb_140 1 _ _ _
    have hv2 : Hv V (hM V M k) := hv.cg ((hM_eqs V M k).im fun _ _ q => Or.inr (Or.inr (Or.inr (Or.inr q))))
    rw [b_140_1, iI_lit, if_neg (by rw [t_lt, iI_to (by omega) (by omega), iI_to (by omega) (by omega)]; omega), g_148 _ _ V hk hv2 k (by omega) (by omega), b_140_2, hM_s, hL_s, talh, iI_lit, iI_add]
    rfl)
  refine l1.trans ?_
  show zz_X (zz_call_ d) tb_140 1 _ _ _ = _
  have hv9 : Hv V (hM V M 9) := hv.cg ((hM_eqs V M 9).im fun _ _ q => Or.inr (Or.inr (Or.inr (Or.inr q))))
  rw [b_140_1, iI_lit, if_pos (by rw [t_lt, iI_to (by omega) (by omega), iI_to (by omega) (by omega)]; omega), b_140_3]
  generalize mx (tal V M) 9 17 = h1
  have l2 : ∀ (c i : Nat) (o : Option Value), i + c = V.n → ∃ o', zz_X (zz_call_ d) tb_140 4 [some (.ref 0), some (.long (mxP V i h1)), none, some (.int (iI i)), o] [] (zm N xs (hM V M 9) (hL V L 9)) = zz_X (zz_call_ d) tb_140 8 [some (.ref 0), some (.long (mxP V V.n h1)), none, some (.int (iI V.n)), o'] [] (zm N xs (hM V M 9) (hL V L 9)) := by
    intro c
    induction c with
    | zero =>
      intro i o hi
      refine ⟨o, ?_⟩
      rw [b_140_4, hv9.n, if_pos (by rw [t_le, iI_to (by omega) (by omega), iI_to (by omega) (by omega)]; omega), show i = V.n by omega]
    | succ c ih =>
      intro i o hi
      have l3 := upto (fun k : Nat => zz_X (zz_call_ d) tb_140 5 [some (.ref 0), some (.long (mx (fun w => iI (V.part i w)) k (mxP V i h1))), none, some (.int (iI i)), some (.int (iI k))] [] (zm N xs (hM V M 9) (hL V L 9))) 6 (fun k hk6 => by
        show zz_X (zz_call_ d) tb_140 5 _ _ _ = zz_X (zz_call_ d) tb_140 5 _ _ _
        rw [b_140_5, iI_lit, if_neg (by rw [t_lt, iI_to (by omega) (by omega), iI_to (by omega) (by omega)]; omega), g_39 _ _ V hk hv9 i k (by omega) hk6 (by omega), b_140_6, iI_lit, iI_add]
        rfl)
      obtain ⟨o', ho⟩ := ih (i + 1) (some (.int (iI ((6 : Nat) : Int)))) (by omega)
      refine ⟨o', ?_⟩
      rw [b_140_4, hv9.n, if_neg (by rw [t_le, iI_to (by omega) (by omega), iI_to (by omega) (by omega)]; omega)]
      refine Eq.trans l3 ?_
      show zz_X (zz_call_ d) tb_140 5 _ _ _ = _
      rw [b_140_5, iI_lit, if_pos (by rw [t_lt, iI_to (by omega) (by omega), iI_to (by omega) (by omega)]; omega), b_140_7, iI_lit, iI_add]
      exact ho
  obtain ⟨o', ho⟩ := l2 V.n 0 none (by omega)
  refine Eq.trans ho ?_
  rw [b_140_8]
  generalize mxP V V.n h1 = h2
  have l4 := upto (fun k : Nat => zz_X (zz_call_ d) tb_140 9 [some (.ref 0), some (.long (mx (M 35) k h2)), none, some (.int (iI k)), o'] [] (zm N xs (hM V M 9) (hL V L 9))) 3 (fun k hk3 => by
    show zz_X (zz_call_ d) tb_140 9 _ _ _ = zz_X (zz_call_ d) tb_140 9 _ _ _
    rw [b_140_9, iI_lit, if_neg (by rw [t_le, iI_to (by omega) (by omega), iI_to (by omega) (by omega)]; omega), g_58 _ _ k hk3 (by omega), b_140_10, hM_ne _ _ _ (by omega), iI_lit, iI_add]
    rfl)
  refine Eq.trans l4 ?_
  show zz_X (zz_call_ d) tb_140 9 _ _ _ = _
  rw [b_140_9, iI_lit, if_pos (by rw [t_le, iI_to (by omega) (by omega), iI_to (by omega) (by omega)]; omega), b_140_11, g_23a _ _ _ (by rw [hM_ne _ _ _ (by omega)]; exact hs) (by omega), b_140_12, g_23b _ _ _ (by rw [hM_ne _ _ _ (by omega)]; exact ht) (by omega), b_140_13, hM_ne _ _ _ (by omega), hM_ne _ _ _ (by omega)]
  rw [mxS_cg (s := M 9) (s' := M 9) (f := fun r => hM V M 9 (3 + r)) (f' := fun r => M (3 + r)) (fun r hr => ⟨rfl, fun k _ => by rw [hM_ne _ _ _ (by omega)]⟩), mxS_cg (s := M 16) (s' := M 16) (f := fun r => hM V M 9 (12 + r)) (f' := fun r => M (12 + r)) (fun r hr => ⟨rfl, fun k _ => by rw [hM_ne _ _ _ (by omega)]⟩)]
theorem g_140 (V : Vw) (hk : Vk V) (hv : Hv V M) (hs : ∀ r : Nat, r < 6 → (M 9 r).toInt ≤ 40) (ht : ∀ r : Nat, r < 4 → (M 16 r).toInt ≤ 60) {d N : Nat} {xs : Nat → Int32} {tb_ : List zz_B} {t_ : Nat} {ls_ : zz_L} {rest_ : List Value} (hd_ : 7 ≤ d) : (zz_o (zz_call_ d 140 [.ref 0] (zm N xs M L)) fun r => zz_X (zz_call_ d) tb_ t_ ls_ (r.1.toList ++ rest_) r.2) = zz_X (zz_call_ d) tb_ t_ ls_ ((.long (mxS (M 16) (fun r => M (12 + r)) 4 (mxS (M 9) (fun r => M (3 + r)) 6 (mx (M 35) 3 (mxP V V.n (mx (tal V M) 9 17)))))) :: rest_) (zm N xs (hM V M 9) (hL V L 9)) := (s_140 M L V hk hv hs ht).go hd_
theorem s_258 (x h : Int64) (e : L 52 23 = h) : zc 1 258 [.ref 52, .long x] M L none M (zz_wL L 52 23 (31 * h + x)) := by
  refine zc_of (n := 0) (ls := [some (.ref 52), some (.long x), none]) mk_258 rfl rfl rfl rfl (fun d hd N xs => ?_)
  rw [b_258_0, e]
theorem g_258 (x h : Int64) (e : L 52 23 = h) {d N : Nat} {xs : Nat → Int32} {tb_ : List zz_B} {t_ : Nat} {ls_ : zz_L} {rest_ : List Value} (hd_ : 1 ≤ d) : (zz_o (zz_call_ d 258 [.ref 52, .long x] (zm N xs M L)) fun r => zz_X (zz_call_ d) tb_ t_ ls_ (r.1.toList ++ rest_) r.2) = zz_X (zz_call_ d) tb_ t_ ls_ rest_ (zm N xs M (zz_wL L 52 23 (31 * h + x))) := (s_258 M L x h e).gov hd_
theorem mix_w (x h : Int64) {d N : Nat} {xs : Nat → Int32} {tb_ : List zz_B} {t_ : Nat} {ls_ : zz_L} {rest_ : List Value} (hd_ : 1 ≤ d) : (zz_o (zz_call_ d 258 [.ref 52, .long x] (zm N xs M (hw L h))) fun r => zz_X (zz_call_ d) tb_ t_ ls_ (r.1.toList ++ rest_) r.2) = zz_X (zz_call_ d) tb_ t_ ls_ rest_ (zm N xs M (hw L (31 * h + x))) := by
  rw [g_258 M (hw L h) x h (hw_at L h) hd_, hw_hw]
theorem l_259r {d : Nat} (hd : 1 ≤ d) (N : Nat) (xs : Nat → Int32) (h0 : Int64) (hs : ∀ r : Nat, r < 6 → (M 56 r).toInt ≤ 40) : ∀ (c r : Nat) (o : Option Value), r + c = 6 → ∃ o', zz_X (zz_call_ d) tb_259 14 [some (.ref 52), some (.int (iI r)), o] [] (zm N xs M (hw L (mxS (M 56) (fun r i => M 55 (40 * r + i)) r h0))) = zz_X (zz_call_ d) tb_259 19 [some (.ref 52), some (.int (iI (6 : Nat))), o'] [] (zm N xs M (hw L (mxS (M 56) (fun r i => M 55 (40 * r + i)) 6 h0)))
  | 0, r, o, hc => by
    refine ⟨o, ?_⟩
    rw [b_259_14, iI_lit, if_pos (by rw [t_le, iI_to (by omega) (by omega), iI_to (by omega) (by omega)]; omega), show r = 6 by omega]
  | c + 1, r, o, hc => by
    have hsr := hs r (by omega)
    have l3 := upto (fun k : Nat => zz_X (zz_call_ d) tb_259 16 [some (.ref 52), some (.int (iI r)), some (.int (iI k))] [] (zm N xs M (hw L (mx (fun i => M 55 (40 * r + i)) k (31 * mxS (M 56) (fun r i => M 55 (40 * r + i)) r h0 + (M 56 r).toInt64))))) (M 56 r).toInt.toNat (fun k hk => by
      show zz_X (zz_call_ d) tb_259 16 _ _ _ = zz_X (zz_call_ d) tb_259 16 _ _ _
      rw [b_259_16, ix_nat (by omega) (by omega), o_some, if_neg (by rw [t_le, iI_to (by omega) (by omega)]; omega), iI_lit, iI_mul, iI_add, show (40 : Int) * (r : Int) + (k : Int) = ((40 * r + k : Nat) : Int) by omega, ix_nat (by omega) (by omega), o_some, mix_w _ _ _ _ hd, b_259_17, iI_lit, iI_add]
      rfl)
    obtain ⟨o', ho⟩ := l_259r hd N xs h0 hs c (r + 1) (some (.int (iI (((M 56 r).toInt.toNat : Nat) : Int)))) (by omega)
    refine ⟨o', ?_⟩
    rw [b_259_14, iI_lit, if_neg (by rw [t_le, iI_to (by omega) (by omega), iI_to (by omega) (by omega)]; omega), ix_nat (by omega) (by omega), o_some, mix_w _ _ _ _ hd, b_259_15]
    refine Eq.trans l3 ?_
    show zz_X (zz_call_ d) tb_259 16 _ _ _ = _
    rw [b_259_16, ix_nat (by omega) (by omega), o_some, if_pos (by rw [t_le, iI_to (by omega) (by omega)]; omega), b_259_18, iI_lit, iI_add]
    exact ho
theorem l_259t {d : Nat} (hd : 1 ≤ d) (N : Nat) (xs : Nat → Int32) (h0 : Int64) (hs : ∀ r : Nat, r < 4 → (M 58 r).toInt ≤ 60) : ∀ (c r : Nat) (o : Option Value), r + c = 4 → ∃ o', zz_X (zz_call_ d) tb_259 20 [some (.ref 52), some (.int (iI r)), o] [] (zm N xs M (hw L (mxS (M 58) (fun r i => M 57 (60 * r + i)) r h0))) = zz_X (zz_call_ d) tb_259 25 [some (.ref 52), some (.int (iI (4 : Nat))), o'] [] (zm N xs M (hw L (mxS (M 58) (fun r i => M 57 (60 * r + i)) 4 h0)))
  | 0, r, o, hc => by
    refine ⟨o, ?_⟩
    rw [b_259_20, iI_lit, if_pos (by rw [t_le, iI_to (by omega) (by omega), iI_to (by omega) (by omega)]; omega), show r = 4 by omega]
  | c + 1, r, o, hc => by
    have hsr := hs r (by omega)
    have l3 := upto (fun k : Nat => zz_X (zz_call_ d) tb_259 22 [some (.ref 52), some (.int (iI r)), some (.int (iI k))] [] (zm N xs M (hw L (mx (fun i => M 57 (60 * r + i)) k (31 * mxS (M 58) (fun r i => M 57 (60 * r + i)) r h0 + (M 58 r).toInt64))))) (M 58 r).toInt.toNat (fun k hk => by
      show zz_X (zz_call_ d) tb_259 22 _ _ _ = zz_X (zz_call_ d) tb_259 22 _ _ _
      rw [b_259_22, ix_nat (by omega) (by omega), o_some, if_neg (by rw [t_le, iI_to (by omega) (by omega)]; omega), iI_lit, iI_mul, iI_add, show (60 : Int) * (r : Int) + (k : Int) = ((60 * r + k : Nat) : Int) by omega, ix_nat (by omega) (by omega), o_some, mix_w _ _ _ _ hd, b_259_23, iI_lit, iI_add]
      rfl)
    obtain ⟨o', ho⟩ := l_259t hd N xs h0 hs c (r + 1) (some (.int (iI (((M 58 r).toInt.toNat : Nat) : Int)))) (by omega)
    refine ⟨o', ?_⟩
    rw [b_259_20, iI_lit, if_neg (by rw [t_le, iI_to (by omega) (by omega), iI_to (by omega) (by omega)]; omega), ix_nat (by omega) (by omega), o_some, mix_w _ _ _ _ hd, b_259_21]
    refine Eq.trans l3 ?_
    show zz_X (zz_call_ d) tb_259 22 _ _ _ = _
    rw [b_259_22, ix_nat (by omega) (by omega), o_some, if_pos (by rw [t_le, iI_to (by omega) (by omega)]; omega), b_259_24, iI_lit, iI_add]
    exact ho
theorem s_259 (V : Vw) (hk : Vk V) (hr : Rv V (M 53) 0) (hs : ∀ r : Nat, r < 6 → (M 56 r).toInt ≤ 40) (ht : ∀ r : Nat, r < 4 → (M 58 r).toInt ≤ 60) : zc 8 259 [.ref 52] M L (some (.long (mxS (M 58) (fun r i => M 57 (60 * r + i)) 4 (mxS (M 56) (fun r i => M 55 (40 * r + i)) 6 (mx (M 54) 3 (mxP V V.n (mx (talR V M) 9 17))))))) (rM V M 9) (hw L (mxS (M 58) (fun r i => M 57 (60 * r + i)) 4 (mxS (M 56) (fun r i => M 55 (40 * r + i)) 6 (mx (M 54) 3 (mxP V V.n (mx (talR V M) 9 17)))))) := by
  refine zc_of (n := 7) (ls := [some (.ref 52), none, none]) mk_259 rfl rfl rfl rfl (fun d hd N xs => ?_)
  have hn := hk.n
  rw [b_259_0]
  have l1 := upto (fun k : Nat => zz_X (zz_call_ d) tb_259 1 [some (.ref 52), some (.int (iI k)), none] [] (zm N xs (rM V M k) (hw L (mx (talR V M) k 17)))) 9 (fun k hk9 => by
    show zz_X (zz_call_ d) tb_259 1 _ _ _ = zz_X (zz_call_ d) tb_259 1 _ _ _
    have hr2 : Rv V (rM V M k 53) 0 := by rw [rM_ne _ _ _ (by omega) (by omega)]; exact hr
    rw [b_259_1, iI_lit, if_neg (by rw [t_le, iI_to (by omega) (by omega), iI_to (by omega) (by omega)]; omega), g_255 _ _ V hk hr2 k (by omega) (by omega), b_259_2, mix_w _ _ _ _ (by omega), b_259_3, rM_s, talr, iI_lit, iI_add]
    rfl)
  refine l1.trans ?_
  show zz_X (zz_call_ d) tb_259 1 _ _ _ = _
  have hr9 : Rv V (rM V M 9 53) 0 := by rw [rM_ne _ _ _ (by omega) (by omega)]; exact hr
  have e0 : rM V M 9 53 0 = iI V.n := hr9.n
  rw [b_259_1, iI_lit, if_pos (by rw [t_le, iI_to (by omega) (by omega), iI_to (by omega) (by omega)]; omega), b_259_4]
  generalize mx (talR V M) 9 17 = h1
  have l2 : ∀ (c i : Nat) (o : Option Value), i + c = V.n → ∃ o', zz_X (zz_call_ d) tb_259 5 [some (.ref 52), some (.int (iI i)), o] [] (zm N xs (rM V M 9) (hw L (mxP V i h1))) = zz_X (zz_call_ d) tb_259 10 [some (.ref 52), some (.int (iI V.n)), o'] [] (zm N xs (rM V M 9) (hw L (mxP V V.n h1))) := by
    intro c
    induction c with
    | zero =>
      intro i o hi
      refine ⟨o, ?_⟩
      rw [b_259_5, e0, if_pos (by rw [t_le, iI_to (by omega) (by omega), iI_to (by omega) (by omega)]; omega), show i = V.n by omega]
    | succ c ih =>
      intro i o hi
      have l3 := upto (fun k : Nat => zz_X (zz_call_ d) tb_259 6 [some (.ref 52), some (.int (iI i)), some (.int (iI k))] [] (zm N xs (rM V M 9) (hw L (mx (fun w => iI (V.part i w)) k (mxP V i h1))))) 6 (fun k hk6 => by
        show zz_X (zz_call_ d) tb_259 6 _ _ _ = zz_X (zz_call_ d) tb_259 6 _ _ _
        rw [b_259_6, iI_lit, if_neg (by rw [t_le, iI_to (by omega) (by omega), iI_to (by omega) (by omega)]; omega), g_194 _ _ V hk hr9 i k (by omega) hk6 (by omega), b_259_7, mix_w _ _ _ _ (by omega), b_259_8, iI_lit, iI_add]
        rfl)
      obtain ⟨o', ho⟩ := ih (i + 1) (some (.int (iI ((6 : Nat) : Int)))) (by omega)
      refine ⟨o', ?_⟩
      rw [b_259_5, e0, if_neg (by rw [t_le, iI_to (by omega) (by omega), iI_to (by omega) (by omega)]; omega)]
      refine Eq.trans l3 ?_
      show zz_X (zz_call_ d) tb_259 6 _ _ _ = _
      rw [b_259_6, iI_lit, if_pos (by rw [t_le, iI_to (by omega) (by omega), iI_to (by omega) (by omega)]; omega), b_259_9, iI_lit, iI_add]
      exact ho
  obtain ⟨o', ho⟩ := l2 V.n 0 none (by omega)
  refine Eq.trans ho ?_
  rw [b_259_10]
  generalize mxP V V.n h1 = h2
  have l4 := upto (fun k : Nat => zz_X (zz_call_ d) tb_259 11 [some (.ref 52), some (.int (iI k)), o'] [] (zm N xs (rM V M 9) (hw L (mx (M 54) k h2)))) 3 (fun k hk3 => by
    show zz_X (zz_call_ d) tb_259 11 _ _ _ = zz_X (zz_call_ d) tb_259 11 _ _ _
    rw [b_259_11, iI_lit, if_neg (by rw [t_le, iI_to (by omega) (by omega), iI_to (by omega) (by omega)]; omega), ix_nat (by omega) (by omega), o_some, mix_w _ _ _ _ (by omega), b_259_12, rM_ne V M 9 (by omega : (54 : Nat) ≠ 52) (by omega), iI_lit, iI_add]
    rfl)
  refine Eq.trans l4 ?_
  show zz_X (zz_call_ d) tb_259 11 _ _ _ = _
  rw [b_259_11, iI_lit, if_pos (by rw [t_le, iI_to (by omega) (by omega), iI_to (by omega) (by omega)]; omega), b_259_13]
  generalize mx (M 54) 3 h2 = h3
  have e56 : rM V M 9 56 = M 56 := rM_ne V M 9 (by omega) (by omega)
  have e55 : rM V M 9 55 = M 55 := rM_ne V M 9 (by omega) (by omega)
  have e58 : rM V M 9 58 = M 58 := rM_ne V M 9 (by omega) (by omega)
  have e57 : rM V M 9 57 = M 57 := rM_ne V M 9 (by omega) (by omega)
  obtain ⟨o5, h5⟩ := l_259r (rM V M 9) L (show 1 ≤ d by omega) N xs h3 (by rw [e56]; exact hs) 6 0 o' (by omega)
  rw [e56, e55] at h5
  refine Eq.trans h5 ?_
  rw [b_259_19]
  generalize mxS (M 56) (fun r i => M 55 (40 * r + i)) 6 h3 = h4
  obtain ⟨o6, h6⟩ := l_259t (rM V M 9) L (show 1 ≤ d by omega) N xs h4 (by rw [e58]; exact ht) 4 0 o5 (by omega)
  rw [e58, e57] at h6
  refine Eq.trans h6 ?_
  rw [b_259_25, hw_at]
theorem g_259 (V : Vw) (hk : Vk V) (hr : Rv V (M 53) 0) (hs : ∀ r : Nat, r < 6 → (M 56 r).toInt ≤ 40) (ht : ∀ r : Nat, r < 4 → (M 58 r).toInt ≤ 60) {d N : Nat} {xs : Nat → Int32} {tb_ : List zz_B} {t_ : Nat} {ls_ : zz_L} {rest_ : List Value} (hd_ : 8 ≤ d) : (zz_o (zz_call_ d 259 [.ref 52] (zm N xs M L)) fun r => zz_X (zz_call_ d) tb_ t_ ls_ (r.1.toList ++ rest_) r.2) = zz_X (zz_call_ d) tb_ t_ ls_ ((.long (mxS (M 58) (fun r i => M 57 (60 * r + i)) 4 (mxS (M 56) (fun r i => M 55 (40 * r + i)) 6 (mx (M 54) 3 (mxP V V.n (mx (talR V M) 9 17)))))) :: rest_) (zm N xs (rM V M 9) (hw L (mxS (M 58) (fun r i => M 57 (60 * r + i)) 4 (mxS (M 56) (fun r i => M 55 (40 * r + i)) 6 (mx (M 54) 3 (mxP V V.n (mx (talR V M) 9 17))))))) := (s_259 M L V hk hr hs ht).go hd_
end ZR
theorem o_digest {M : Nat → Nat → Int32} {L : Nat → Nat → Int64} (hI : Inv M L) : Ok 140 259 [] M L := by
  obtain ⟨V, hk, hv, hr⟩ := hI.view
  have g1 := s_140 M L V hk hv (fun r hr => (hI.1 r hr).2.2.1) (fun r hr => (hI.2.1 r hr).2.2.1)
  have n56 : hM V M 9 56 = M 56 := hM_ne V M 9 (by omega)
  have n55 : hM V M 9 55 = M 55 := hM_ne V M 9 (by omega)
  have n58 : hM V M 9 58 = M 58 := hM_ne V M 9 (by omega)
  have n57 : hM V M 9 57 = M 57 := hM_ne V M 9 (by omega)
  have n54 : hM V M 9 54 = M 54 := hM_ne V M 9 (by omega)
  have n53 : hM V M 9 53 = M 53 := hM_ne V M 9 (by omega)
  have g2 := s_259 (hM V M 9) (hL V L 9) V hk (by rw [n53]; exact hr) (fun r hr => by rw [n56, (hI.1 r hr).1]; exact (hI.1 r hr).2.2.1) (fun r hr => by rw [n58, (hI.2.1 r hr).1]; exact (hI.2.1 r hr).2.2.1)
  have et : mx (talR V (hM V M 9)) 9 17 = mx (tal V M) 9 17 := mx_cg (fun k _ => by
    rw [tal_eq (hI.cg (hM_eqs V M 9) (hL_SL V L 9)), talh])
  have ek : ∀ h, mx (M 54) 3 h = mx (M 35) 3 h := fun h => mx_cg (fun k hk3 => hI.2.2.2.2.1.dd.2 k hk3)
  have er : ∀ h, mxS (M 56) (fun r i => M 55 (40 * r + i)) 6 h = mxS (M 9) (fun r => M (3 + r)) 6 h := fun h => mxS_cg (fun r hr => ⟨(hI.1 r hr).1, fun k hk => (hI.1 r hr).2.2.2 k (by rw [(hI.1 r hr).1] at hk; omega)⟩)
  have ex : ∀ h, mxS (M 58) (fun r i => M 57 (60 * r + i)) 4 h = mxS (M 16) (fun r => M (12 + r)) 4 h := fun h => mxS_cg (fun r hr => ⟨(hI.2.1 r hr).1, fun k hk => (hI.2.1 r hr).2.2.2 k (by rw [(hI.2.1 r hr).1] at hk; omega)⟩)
  rw [n56, n55, n58, n57, n54, et, ek, er, ex] at g2
  exact ⟨_, _, _, _, _, g1.mono (by omega), g2.mono (by omega), hI.cg ((hM_eqs V M 9).tr (rM_eqs V _ 9)) ((hL_SL V L 9).tr (hw_SL _ _))⟩

/-! the reference: a deed is done. -/
def Vw.setp (V : Vw) (k : Nat) : Vw := (V.n, V.day, V.hc, V.heat, V.kind, V.rate, V.floor, (fun i => if i < k then V.gd i else V.minute i), (V.tset >>> k) <<< k)
theorem setp_t (V : Vw) (k i : Nat) : (V.setp k).tou i = if i < k then 0 else V.tou i := by
  show (if ((V.tset >>> k) <<< k).testBit i = true then (1 : Int) else 0) = if i < k then 0 else (if V.tset.testBit i = true then 1 else 0)
  rw [Nat.testBit_shiftLeft, Nat.testBit_shiftRight]
  by_cases q : i < k
  · rw [if_pos q]
    simp [Nat.not_le.2 q]
  · rw [if_neg q, show k + (i - k) = i by omega]
    simp [Nat.not_lt.1 q]
theorem setp_k {V : Vw} (h : Vk V) (k : Nat) : Vk (V.setp k) := by
  refine ⟨h.n, h.hc, h.hc0, h.day, h.heat, h.kind, h.rate, h.floor, fun i => ?_, ?_⟩
  · show 0 ≤ (if i < k then V.gd i else V.minute i) ∧ (if i < k then V.gd i else V.minute i) < 60
    have := gd_b V i
    have := h.minute i
    split <;> omega
  · have := h.tset
    show (V.tset >>> k) <<< k < 64
    rw [Nat.shiftLeft_eq, Nat.shiftRight_eq_div_pow]
    exact Nat.lt_of_le_of_lt (Nat.div_mul_le_self _ _) this
/-- the record's minutes and touches, the first k of them, behind a day -/
def wP (V : Vw) (w : Nat → Int32) (k : Nat) : Nat → Int32 := fun j => if 28 ≤ j ∧ j < 28 + k then iI (V.gd (j - 28)) else if 34 ≤ j ∧ j < 34 + k then iI 0 else w j
theorem wP_h {V : Vw} {w : Nat → Int32} (hk : Vk V) (h : Rv V w 0) (k : Nat) (hk6 : k ≤ V.n) : Rv (V.setp k) (wP V w k) 0 := by
  have hn := hk.n
  have hc := hk.hc
  refine ⟨?_, ?_, ?_, ?_, ?_, ?_, ?_, ?_, ?_⟩
  · unfold wP; rw [if_neg (by omega), if_neg (by omega)]; exact h.n
  · unfold wP; rw [if_neg (by omega), if_neg (by omega)]; exact h.day
  · unfold wP; rw [if_neg (by omega), if_neg (by omega)]; exact h.hc
  · intro i hi
    have hi' : i < V.hc := hi
    unfold wP; rw [if_neg (by omega), if_neg (by omega)]; exact h.heat i hi
  · intro i hi
    have hi' : i < V.n := hi
    unfold wP; rw [if_neg (by omega), if_neg (by omega)]; exact h.kind i hi
  · intro i hi
    have hi' : i < V.n := hi
    unfold wP; rw [if_neg (by omega), if_neg (by omega)]; exact h.rate i hi
  · intro i hi
    have hi' : i < V.n := hi
    unfold wP; rw [if_neg (by omega), if_neg (by omega)]; exact h.floor i hi
  · intro i hi
    have hi' : i < V.n := hi
    show _ = iI (if i < k then V.gd i else V.minute i)
    unfold wP
    by_cases q : i < k
    · rw [if_pos (by omega), if_pos q, show 0 + (28 + i) - 28 = i by omega]
    · rw [if_neg (by omega), if_neg (by omega), if_neg q]; exact h.minute i hi
  · intro i hi
    have hi' : i < V.n := hi
    rw [setp_t]
    unfold wP
    by_cases q : i < k
    · rw [if_neg (by omega), if_pos (by omega), if_pos q]
    · rw [if_neg (by omega), if_neg (by omega), if_neg q]; exact h.tou i hi
theorem wP_s (V : Vw) (M : Nat → Nat → Int32) (k : Nat) (hk : k < 6) : zz_wI (zz_wI (zz_rI M 53 (wP V (M 53) k)) 53 (28 + k) (iI (V.gd k))) 53 (34 + k) (iI 0) = zz_rI M 53 (wP V (M 53) (k + 1)) := by
  funext c j
  rw [w_val, w_val, rr_val, rr_val]
  by_cases q : c = 53
  · rw [if_pos q, if_pos q]
    unfold wP
    by_cases q1 : j = 34 + k
    · rw [if_pos ⟨q, q1⟩, if_neg (by omega), if_pos (by omega)]
    · rw [if_neg (by omega)]
      by_cases q2 : j = 28 + k
      · rw [if_pos ⟨q, q2⟩, if_pos (by omega), show j - 28 = k by omega]
      · rw [if_neg (by omega)]
        by_cases q3 : 28 ≤ j ∧ j < 28 + k
        · rw [if_pos q3, if_pos (by omega)]
        · rw [if_neg q3]
          by_cases q4 : 34 ≤ j ∧ j < 34 + k
          · rw [if_pos q4, if_neg (by omega), if_pos (by omega)]
          · rw [if_neg q4, if_neg (by omega), if_neg (by omega)]
  · rw [if_neg (by omega), if_neg (by omega), if_neg q, if_neg q]
theorem minAt_1 (V : Vw) (i : Nat) : V.minAt i 1 = (V.minute i + gn (V.kind i) (V.rate i) 1 (V.heatAt V.day)) % 60 := by
  unfold Vw.minAt
  show (V.minute i + gn (V.kind i) (V.rate i) 1 (0 + V.heatAt (V.day + 0))) % 60 = _
  rw [Int.zero_add, Nat.add_zero]
section ZR
variable (M : Nat → Nat → Int32) (L : Nat → Nat → Int64)
theorem s_163 (f t n : Nat) (h1 : f + n ≤ 6600) (h2 : t + n ≤ 6600) (h : f + n ≤ t ∨ t + n ≤ f) : zc 1 163 [.ref 52, .int (iI f), .int (iI t), .int (iI n)] M L none (zz_rI M 53 (va_cpy (M 53) (M 53) f t n)) L := by
  refine zc_of (n := 0) (ls := [some (.ref 52), some (.int (iI f)), some (.int (iI t)), some (.int (iI n)), none]) mk_163 rfl rfl rfl rfl (fun d hd N xs => ?_)
  rw [b_163_0]
  have hl := upto (fun k : Nat => zz_X (zz_call_ d) tb_163 1 [some (.ref 52), some (.int (iI f)), some (.int (iI t)), some (.int (iI n)), some (.int (iI k))] [] (zm N xs (zz_rI M 53 (va_cpy (M 53) (M 53) f t k)) L)) n (fun k hk => by
    show zz_X (zz_call_ d) tb_163 1 _ _ _ = zz_X (zz_call_ d) tb_163 1 _ _ _
    rw [b_163_1, if_neg (by rw [t_le, iI_to (by omega) (by omega), iI_to (by omega) (by omega)]; omega)]
    simp only [iI_add]
    rw [show (f : Int) + (k : Int) = ((f + k : Nat) : Int) by omega, show (t : Int) + (k : Int) = ((t + k : Nat) : Int) by omega, ix_nat (by omega) (by omega), o_some, ix_nat (by omega) (by omega), o_some, rr_at, c_out (by omega), cpy_s, iI_lit, iI_add]
    rfl)
  simp only [cpy_0] at hl
  refine hl.trans ?_
  rw [b_163_1, if_pos (by rw [t_le]; omega), b_163_2]
theorem g_163 (f t n : Nat) (h1 : f + n ≤ 6600) (h2 : t + n ≤ 6600) (h : f + n ≤ t ∨ t + n ≤ f) {d N : Nat} {xs : Nat → Int32} {tb_ : List zz_B} {t_ : Nat} {ls_ : zz_L} {rest_ : List Value} (hd_ : 1 ≤ d) : (zz_o (zz_call_ d 163 [.ref 52, .int (iI f), .int (iI t), .int (iI n)] (zm N xs M L)) fun r => zz_X (zz_call_ d) tb_ t_ ls_ (r.1.toList ++ rest_) r.2) = zz_X (zz_call_ d) tb_ t_ ls_ rest_ (zm N xs (zz_rI M 53 (va_cpy (M 53) (M 53) f t n)) L) := (s_163 M L f t n h1 h2 h).gov hd_
theorem s_198 (m : Nat) (hm : m < 40) (h : M 52 1 = iI m) : zc 2 198 [.ref 52] M L none (zz_wI (zz_rI M 53 (va_cpy (M 53) (M 53) 0 (40 * (m + 1)) 40)) 52 1 (iI ((m + 1 : Nat) : Int))) L := by
  refine zc_of (n := 1) (ls := [some (.ref 52)]) mk_198 rfl rfl rfl rfl (fun d hd N xs => ?_)
  rw [b_198_0, h]
  simp only [iI_lit, iI_add, iI_mul]
  have g := g_163 (d := d) (N := N) (xs := xs) (tb_ := tb_198) (t_ := 1) (ls_ := [some (.ref 52)]) (rest_ := []) M L 0 (40 * (m + 1)) 40 (by omega) (by omega) (by omega) (by omega)
  rw [show ((40 * (m + 1) : Nat) : Int) = 40 * ((m : Int) + 1) by omega] at g
  refine Eq.trans g ?_
  rw [b_198_1, rr_ne (by omega : (52 : Nat) ≠ 53), h, iI_lit, iI_add]
  rfl
theorem g_198 (m : Nat) (hm : m < 40) (h : M 52 1 = iI m) {d N : Nat} {xs : Nat → Int32} {tb_ : List zz_B} {t_ : Nat} {ls_ : zz_L} {rest_ : List Value} (hd_ : 2 ≤ d) : (zz_o (zz_call_ d 198 [.ref 52] (zm N xs M L)) fun r => zz_X (zz_call_ d) tb_ t_ ls_ (r.1.toList ++ rest_) r.2) = zz_X (zz_call_ d) tb_ t_ ls_ rest_ (zm N xs (zz_wI (zz_rI M 53 (va_cpy (M 53) (M 53) 0 (40 * (m + 1)) 40)) 52 1 (iI ((m + 1 : Nat) : Int))) L) := (s_198 M L m hm h).gov hd_
theorem s_202 (V : Vw) (hk : Vk V) (hr : Rv V (M 53) 0) : zc 5 202 [.ref 52] M L none (zz_wI (zz_rI M 53 (wP V (M 53) V.n)) 53 1 (iI ((V.day + 1 : Nat) : Int))) L := by
  refine zc_of (n := 4) (ls := [some (.ref 52), none]) mk_202 rfl rfl rfl rfl (fun d hd N xs => ?_)
  have hn := hk.n
  rw [b_202_0]
  have hl := upto (fun k : Nat => zz_X (zz_call_ d) tb_202 1 [some (.ref 52), some (.int (iI k))] [] (zm N xs (zz_rI M 53 (wP V (M 53) k)) L)) V.n (fun k hkn => by
    show zz_X (zz_call_ d) tb_202 1 _ _ _ = zz_X (zz_call_ d) tb_202 1 _ _ _
    have hr2 : Rv (V.setp k) (zz_rI M 53 (wP V (M 53) k) 53) 0 := by rw [rr_at]; exact wP_h hk hr k (by omega)
    have e0 : zz_rI M 53 (wP V (M 53) k) 53 0 = iI V.n := hr2.n
    have e1 : (V.setp k).minAt k 1 = V.gd k := by
      rw [minAt_1]
      show ((if k < k then V.gd k else V.minute k) + gn (V.kind k) (V.rate k) 1 (V.heatAt V.day)) % 60 = _
      rw [if_neg (by omega)]
      exact (if_pos hkn).symm
    rw [b_202_1, e0, if_neg (by rw [t_le, iI_to (by omega) (by omega), iI_to (by omega) (by omega)]; omega)]
    simp only [iI_lit, iI_add]
    have g := g_190 (d := d) (N := N) (xs := xs) (tb_ := tb_202) (t_ := 2) (ls_ := [some (.ref 52), some (.int (iI k))]) (rest_ := [.int (iI (28 + (k : Int))), .ref 53]) _ L (V.setp k) (setp_k hk k) hr2 k 1 hkn (by omega) (by omega)
    rw [e1] at g
    refine Eq.trans g ?_
    rw [b_202_2]
    simp only [iI_lit, iI_add]
    rw [show (28 : Int) + (k : Int) = ((28 + k : Nat) : Int) by omega, show (34 : Int) + (k : Int) = ((34 + k : Nat) : Int) by omega, ix_nat (by omega) (by omega), o_some, ix_nat (by omega) (by omega), o_some, wP_s V M k (by omega)]
    rfl)
  have ez : zz_rI M 53 (wP V (M 53) 0) = M := by
    funext c j
    rw [rr_val]
    by_cases q : c = 53
    · rw [if_pos q, q]
      unfold wP
      rw [if_neg (by omega), if_neg (by omega)]
    · rw [if_neg q]
  simp only [ez] at hl
  refine hl.trans ?_
  have hr3 := wP_h hk hr V.n (Nat.le_refl _)
  have e0 : zz_rI M 53 (wP V (M 53) V.n) 53 0 = iI V.n := by rw [rr_at]; exact hr3.n
  have e1 : zz_rI M 53 (wP V (M 53) V.n) 53 1 = iI V.day := by rw [rr_at]; exact hr3.day
  rw [b_202_1, e0, if_pos (by rw [t_le]; omega), b_202_3, e1, iI_lit, iI_add]
  rfl
theorem g_202 (V : Vw) (hk : Vk V) (hr : Rv V (M 53) 0) {d N : Nat} {xs : Nat → Int32} {tb_ : List zz_B} {t_ : Nat} {ls_ : zz_L} {rest_ : List Value} (hd_ : 5 ≤ d) : (zz_o (zz_call_ d 202 [.ref 52] (zm N xs M L)) fun r => zz_X (zz_call_ d) tb_ t_ ls_ (r.1.toList ++ rest_) r.2) = zz_X (zz_call_ d) tb_ t_ ls_ rest_ (zm N xs (zz_wI (zz_rI M 53 (wP V (M 53) V.n)) 53 1 (iI ((V.day + 1 : Nat) : Int))) L) := (s_202 M L V hk hr).gov hd_
theorem s_204 (V : Vw) (hk : Vk V) (hr : Rv V (M 53) 0) (i : Nat) (y : Int) (hi : i < V.n) (h1 : -5 ≤ y) (h2 : y ≤ 5) : zc 2 204 [.ref 52, .int (iI i), .int (iI y)] M L none (zz_wI (zz_wI M 53 (28 + i) (iI ((V.minute i + y) % 60))) 53 (34 + i) (iI 1)) L := by
  refine zc_of (n := 1) (ls := [some (.ref 52), some (.int (iI i)), some (.int (iI y))]) mk_204 rfl rfl rfl rfl (fun d hd N xs => ?_)
  have hn := hk.n
  have hm := hk.minute i
  have e0 : M 53 (28 + i) = iI (V.minute i) := by have := hr.minute i hi; rwa [Nat.zero_add] at this
  rw [b_204_0]
  simp only [iI_lit, iI_add]
  rw [show (28 : Int) + (i : Int) = ((28 + i : Nat) : Int) by omega, ix_nat (by omega) (by omega), o_some, e0, iI_add, g_160 M L _ (by omega) (by omega) (by omega), b_204_1]
  simp only [iI_lit, iI_add]
  rw [show (34 : Int) + (i : Int) = ((34 + i : Nat) : Int) by omega, ix_nat (by omega) (by omega), o_some, ix_nat (by omega) (by omega), o_some]
theorem g_204 (V : Vw) (hk : Vk V) (hr : Rv V (M 53) 0) (i : Nat) (y : Int) (hi : i < V.n) (h1 : -5 ≤ y) (h2 : y ≤ 5) {d N : Nat} {xs : Nat → Int32} {tb_ : List zz_B} {t_ : Nat} {ls_ : zz_L} {rest_ : List Value} (hd_ : 2 ≤ d) : (zz_o (zz_call_ d 204 [.ref 52, .int (iI i), .int (iI y)] (zm N xs M L)) fun r => zz_X (zz_call_ d) tb_ t_ ls_ (r.1.toList ++ rest_) r.2) = zz_X (zz_call_ d) tb_ t_ ls_ rest_ (zm N xs (zz_wI (zz_wI M 53 (28 + i) (iI ((V.minute i + y) % 60))) 53 (34 + i) (iI 1)) L) := (s_204 M L V hk hr i y hi h1 h2).gov hd_
end ZR

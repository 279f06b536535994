/-! House: a deed is done. -/
def Vw.setm (V : Vw) (g : Nat → Int) (k : Nat) : Vw := (V.n, V.day, V.hc, V.heat, V.kind, V.rate, V.floor, (fun i => if i < k then g i else V.minute i), V.tset)
theorem setm_k {V : Vw} (h : Vk V) {g : Nat → Int} (hg : ∀ i, 0 ≤ g i ∧ g i < 60) (k : Nat) : Vk (V.setm g k) := by
  refine ⟨h.n, h.hc, h.hc0, h.day, h.heat, h.kind, h.rate, h.floor, fun i => ?_, h.tset⟩
  show 0 ≤ (if i < k then g i else V.minute i) ∧ (if i < k then g i else V.minute i) < 60
  have := hg i
  have := h.minute i
  split <;> omega
/-- what the minutes are behind a day that passed -/
def Vw.gd (V : Vw) (i : Nat) : Int := if i < V.n then (V.minute i + gn (V.kind i) (V.rate i) 1 (V.heatAt V.day)) % 60 else 0
theorem gd_b (V : Vw) (i : Nat) : 0 ≤ V.gd i ∧ V.gd i < 60 := by
  unfold Vw.gd
  split <;> omega
theorem setm_h {V : Vw} {M : Nat → Nat → Int32} (h : Hv V M) (g : Nat → Int) (k : Nat) : Hv (V.setm g k) (sI M 29 (fun i => iI (g i)) k) := by
  have e : ∀ c, c ≠ 29 → sI M 29 (fun i => iI (g i)) k c = M c := fun c hc => sI_ne hc
  refine ⟨?_, ?_, ?_, ?_, ?_, ?_, ?_, ?_, ?_⟩
  · rw [e _ (by omega)]; exact h.n
  · rw [e _ (by omega)]; exact h.hc
  · rw [e _ (by omega)]; exact h.day
  · rw [e _ (by omega)]; exact h.tset
  · intro i hi; rw [e _ (by omega)]; exact h.heat i hi
  · intro i hi; rw [e _ (by omega)]; exact h.kind i hi
  · intro i hi; rw [e _ (by omega)]; exact h.rate i hi
  · intro i hi; rw [e _ (by omega)]; exact h.floor i hi
  · intro i hi
    show _ = iI (if i < k then g i else V.minute i)
    unfold sI
    rw [rr_at]
    by_cases q : i < k
    · rw [if_pos q, if_pos q]
    · rw [if_neg q, if_neg q]; exact h.minute i hi
section ZR
variable (M : Nat → Nat → Int32) (L : Nat → Nat → Int64)
theorem s_44N (V : Vw) (hk : Vk V) (hv : Hv V M) (i : Nat) (n w : Int) (h1 : ¬ i < V.n) (h2 : i < 6) : zc 2 44 [.ref 23, .int (iI i), .int (iI n), .int (iI w)] M L (some (.int (iI 0))) M L := by
  refine zc_of (n := 1) (ls := [some (.ref 23), some (.int (iI i)), some (.int (iI n)), some (.int (iI w))]) mk_44 rfl rfl rfl rfl (fun d hd N xs => ?_)
  rw [b_44_0, g_31 M L V hk hv i (by omega) (by omega) (by omega), b2_f (by omega), b_44_1, iI_lit 0, if_pos rfl]
theorem g_44N (V : Vw) (hk : Vk V) (hv : Hv V M) (i : Nat) (n w : Int) (h1 : ¬ i < V.n) (h2 : i < 6) {d N : Nat} {xs : Nat → Int32} {tb_ : List zz_B} {t_ : Nat} {ls_ : zz_L} {rest_ : List Value} (hd_ : 2 ≤ d) : (zz_o (zz_call_ d 44 [.ref 23, .int (iI i), .int (iI n), .int (iI w)] (zm N xs M L)) fun r => zz_X (zz_call_ d) tb_ t_ ls_ (r.1.toList ++ rest_) r.2) = zz_X (zz_call_ d) tb_ t_ ls_ ((.int (iI 0)) :: rest_) (zm N xs M L) := (s_44N M L V hk hv i n w h1 h2).go hd_
theorem s_56 (V : Vw) (hk : Vk V) (hv : Hv V M) : zc 3 56 [.ref 23] M L none (zz_wI (zz_wI (sI M 29 (fun i => iI (V.gd i)) 6) 23 11 (iI ((V.day + 1 : Nat) : Int))) 23 12 (iI 0)) L := by
  refine zc_of (n := 2) (ls := [some (.ref 23), none, none]) mk_56 rfl rfl rfl rfl (fun d hd N xs => ?_)
  have hn := hk.n
  have hh := heatAt_b hk V.day
  rw [b_56_0, show (0 : Int32) = iI ((0 : Nat) : Int) from rfl, g_42 M L V hk hv 0 (by omega) (by omega), b_56_1, Nat.add_zero]
  have hl := upto (fun k : Nat => zz_X (zz_call_ d) tb_56 2 [some (.ref 23), some (.int (iI (V.heatAt V.day))), some (.int (iI k))] [] (zm N xs (sI M 29 (fun i => iI (V.gd i)) k) L)) 6 (fun k hk6 => by
    show zz_X (zz_call_ d) tb_56 2 _ _ _ = zz_X (zz_call_ d) tb_56 2 _ _ _
    have hk2 := setm_k hk (gd_b V) k
    have hv2 := setm_h hv V.gd k
    rw [b_56_2, iI_lit, if_neg (by rw [t_le, iI_to (by omega) (by omega), iI_to (by omega) (by omega)]; omega)]
    by_cases q : k < V.n
    · have e : (V.setm V.gd k).minute k = V.minute k := if_neg (Nat.lt_irrefl k)
      have e2 : V.gd k = (V.minute k + gn (V.kind k) (V.rate k) 1 (V.heatAt V.day)) % 60 := if_pos q
      have g := g_44 (d := d) (N := N) (xs := xs) (tb_ := tb_56) (t_ := 3) (ls_ := [some (.ref 23), some (.int (iI (V.heatAt V.day))), some (.int (iI k))]) (rest_ := [.int (iI k), .ref 29]) _ L (V.setm V.gd k) hk2 hv2 k 1 (V.heatAt V.day) q (by omega) (by omega) (by omega) (by omega) (by omega)
      rw [e, show (V.setm V.gd k).kind k = V.kind k from rfl, show (V.setm V.gd k).rate k = V.rate k from rfl, ← e2] at g
      refine Eq.trans g ?_
      rw [b_56_3, ix_nat (by omega) (by omega), o_some, iI_lit, iI_add, sI_s M 29 (fun i => iI (V.gd i)) k]
      rfl
    · have e2 : V.gd k = 0 := if_neg q
      have g := g_44N (d := d) (N := N) (xs := xs) (tb_ := tb_56) (t_ := 3) (ls_ := [some (.ref 23), some (.int (iI (V.heatAt V.day))), some (.int (iI k))]) (rest_ := [.int (iI k), .ref 29]) _ L (V.setm V.gd k) hk2 hv2 k 1 (V.heatAt V.day) q hk6 (by omega)
      rw [← e2] at g
      refine Eq.trans g ?_
      rw [b_56_3, ix_nat (by omega) (by omega), o_some, iI_lit, iI_add, sI_s M 29 (fun i => iI (V.gd i)) k]
      rfl)
  simp only [sI_0] at hl
  refine hl.trans ?_
  rw [b_56_2, iI_lit, if_pos (by rw [t_le, iI_to (by omega) (by omega), iI_to (by omega) (by omega)]; omega), b_56_4, sI_ne (by omega : (23 : Nat) ≠ 29), hv.day, iI_lit, iI_add]
  rfl
theorem g_56 (V : Vw) (hk : Vk V) (hv : Hv V M) {d N : Nat} {xs : Nat → Int32} {tb_ : List zz_B} {t_ : Nat} {ls_ : zz_L} {rest_ : List Value} (hd_ : 3 ≤ d) : (zz_o (zz_call_ d 56 [.ref 23] (zm N xs M L)) fun r => zz_X (zz_call_ d) tb_ t_ ls_ (r.1.toList ++ rest_) r.2) = zz_X (zz_call_ d) tb_ t_ ls_ rest_ (zm N xs (zz_wI (zz_wI (sI M 29 (fun i => iI (V.gd i)) 6) 23 11 (iI ((V.day + 1 : Nat) : Int))) 23 12 (iI 0)) L) := (s_56 M L V hk hv).gov hd_
end ZR
def pw (M : Nat → Nat → Int32) (m d : Nat) : Nat → Nat → Int32 := zz_wI (zz_wI M 30 m (iI d)) 23 13 (iI ((m + 1 : Nat) : Int))
def pfD (V : Vw) (M : Nat → Nat → Int32) (m : Nat) : Nat → Nat → Int32 := zz_wI (zz_wI (sI (pw M m 0) 29 (fun i => iI (V.gd i)) 6) 23 11 (iI ((V.day + 1 : Nat) : Int))) 23 12 (iI 0)
def pfT (V : Vw) (M : Nat → Nat → Int32) (m d : Nat) : Nat → Nat → Int32 := zz_wI (zz_wI (pw M m d) 29 (d / 16) (iI ((V.minute (d / 16) + ((d % 16 : Nat) : Int) - 6) % 60))) 23 12 (iI (V.tset ||| (1 <<< (d / 16)) : Nat))
def pf (V : Vw) (M : Nat → Nat → Int32) (m d : Nat) : Nat → Nat → Int32 := if d = 0 then pfD V M m else pfT V M m d
theorem pw_h {V : Vw} {M : Nat → Nat → Int32} (h : Hv V M) (m d : Nat) : Hv V (pw M m d) := by
  unfold pw
  have e : ∀ c, c ≠ 30 → c ≠ 23 → zz_wI (zz_wI M 30 m (iI d)) 23 13 (iI ((m + 1 : Nat) : Int)) c = M c := fun c h1 h2 => by rw [w_ne h2, w_ne h1]
  have e2 : ∀ k, k ≠ 13 → zz_wI (zz_wI M 30 m (iI d)) 23 13 (iI ((m + 1 : Nat) : Int)) 23 k = M 23 k := fun k h1 => by rw [w_nk h1, w_ne (by omega)]
  refine ⟨?_, ?_, ?_, ?_, ?_, ?_, ?_, ?_, ?_⟩
  · rw [e2 _ (by omega)]; exact h.n
  · rw [e2 _ (by omega)]; exact h.hc
  · rw [e2 _ (by omega)]; exact h.day
  · rw [e2 _ (by omega)]; exact h.tset
  · intro i hi; rw [e _ (by omega) (by omega)]; exact h.heat i hi
  · intro i hi; rw [e _ (by omega) (by omega)]; exact h.kind i hi
  · intro i hi; rw [e _ (by omega) (by omega)]; exact h.rate i hi
  · intro i hi; rw [e _ (by omega) (by omega)]; exact h.floor i hi
  · intro i hi; rw [e _ (by omega) (by omega)]; exact h.minute i hi
theorem pf_h {V : Vw} {M : Nat → Nat → Int32} (hk : Vk V) (h : Hv V M) (m d : Nat) : Hv (V.step d) (pf V M m d) := by
  have hw := pw_h h m d
  unfold pf
  by_cases q : d = 0
  · subst q
    rw [if_pos rfl, step_D rfl]
    have hs := setm_h hw V.gd 6
    unfold pfD
    have e : ∀ c, c ≠ 23 → zz_wI (zz_wI (sI (pw M m 0) 29 (fun i => iI (V.gd i)) 6) 23 11 (iI ((V.day + 1 : Nat) : Int))) 23 12 (iI 0) c = sI (pw M m 0) 29 (fun i => iI (V.gd i)) 6 c := fun c h1 => by rw [w_ne h1, w_ne h1]
    have e2 : ∀ k, k ≠ 11 → k ≠ 12 → zz_wI (zz_wI (sI (pw M m 0) 29 (fun i => iI (V.gd i)) 6) 23 11 (iI ((V.day + 1 : Nat) : Int))) 23 12 (iI 0) 23 k = sI (pw M m 0) 29 (fun i => iI (V.gd i)) 6 23 k := fun k h1 h2 => by rw [w_nk h2, w_nk h1]
    refine ⟨?_, ?_, ?_, ?_, ?_, ?_, ?_, ?_, ?_⟩
    · rw [e2 _ (by omega) (by omega)]; exact hs.n
    · rw [e2 _ (by omega) (by omega)]; exact hs.hc
    · rw [w_nk (by omega), w_at]; rfl
    · rw [w_at]; rfl
    · intro i hi; rw [e _ (by omega)]; exact hs.heat i hi
    · intro i hi; rw [e _ (by omega)]; exact hs.kind i hi
    · intro i hi; rw [e _ (by omega)]; exact hs.rate i hi
    · intro i hi; rw [e _ (by omega)]; exact hs.floor i hi
    · intro i hi
      rw [e _ (by omega), hs.minute i hi]
      have hi' : i < V.n := hi
      show iI (if i < 6 then V.gd i else V.minute i) = iI ((V.minute i + gn (V.kind i) (V.rate i) 1 (V.heatAt V.day)) % 60)
      have hn := hk.n
      rw [if_pos (by omega)]
      unfold Vw.gd
      rw [if_pos hi']
  · rw [if_neg q, step_T q]
    unfold pfT
    have e : ∀ c, c ≠ 23 → c ≠ 29 → zz_wI (zz_wI (pw M m d) 29 (d / 16) (iI ((V.minute (d / 16) + ((d % 16 : Nat) : Int) - 6) % 60))) 23 12 (iI (V.tset ||| (1 <<< (d / 16)) : Nat)) c = pw M m d c := fun c h1 h2 => by rw [w_ne h1, w_ne h2]
    have e2 : ∀ k, k ≠ 12 → zz_wI (zz_wI (pw M m d) 29 (d / 16) (iI ((V.minute (d / 16) + ((d % 16 : Nat) : Int) - 6) % 60))) 23 12 (iI (V.tset ||| (1 <<< (d / 16)) : Nat)) 23 k = pw M m d 23 k := fun k h1 => by rw [w_nk h1, w_ne (by omega)]
    refine ⟨?_, ?_, ?_, ?_, ?_, ?_, ?_, ?_, ?_⟩
    · rw [e2 _ (by omega)]; exact hw.n
    · rw [e2 _ (by omega)]; exact hw.hc
    · rw [e2 _ (by omega)]; exact hw.day
    · rw [w_at]; rfl
    · intro i hi; rw [e _ (by omega) (by omega)]; exact hw.heat i hi
    · intro i hi; rw [e _ (by omega) (by omega)]; exact hw.kind i hi
    · intro i hi; rw [e _ (by omega) (by omega)]; exact hw.rate i hi
    · intro i hi; rw [e _ (by omega) (by omega)]; exact hw.floor i hi
    · intro i hi
      show _ = iI (if i = d / 16 then (V.minute i + ((d % 16 : Nat) : Int) - 6) % 60 else V.minute i)
      rw [w_ne (by omega)]
      by_cases q2 : i = d / 16
      · rw [if_pos q2, q2, w_at]
      · rw [if_neg q2, w_nk q2]; exact hw.minute i hi
theorem pf_30 (V : Vw) (M : Nat → Nat → Int32) (m d : Nat) : pf V M m d 30 = upd (M 30) m (iI d) := by
  unfold pf
  by_cases q : d = 0
  · subst q
    rw [if_pos rfl]
    unfold pfD pw
    rw [w_ne (by omega), w_ne (by omega), sI_ne (by omega), w_ne (by omega)]
    exact rr_at
  · rw [if_neg q]
    unfold pfT pw
    rw [w_ne (by omega), w_ne (by omega), w_ne (by omega)]
    exact rr_at
theorem pf_13 (V : Vw) (M : Nat → Nat → Int32) (m d : Nat) : pf V M m d 23 13 = iI ((m + 1 : Nat) : Int) := by
  unfold pf
  by_cases q : d = 0
  · subst q
    rw [if_pos rfl]
    unfold pfD pw
    rw [w_nk (by omega), w_nk (by omega), sI_ne (by omega), w_at]
  · rw [if_neg q]
    unfold pfT pw
    rw [w_nk (by omega), w_ne (by omega), w_at]
theorem pf_ne (V : Vw) (M : Nat → Nat → Int32) (m d : Nat) {c : Nat} (h1 : c ≠ 23) (h2 : c ≠ 29) (h3 : c ≠ 30) : pf V M m d c = M c := by
  unfold pf
  by_cases q : d = 0
  · rw [if_pos q]
    unfold pfD pw
    rw [w_ne h1, w_ne h1, sI_ne h2, w_ne h1, w_ne h3]
  · rw [if_neg q]
    unfold pfT pw
    rw [w_ne h1, w_ne h2, w_ne h1, w_ne h3]
section ZR
variable (M : Nat → Nat → Int32) (L : Nat → Nat → Int64)
theorem s_55 (V : Vw) (hk : Vk V) (hv : Hv V M) (m x : Nat) (hm : m < 40) (h13 : M 23 13 = iI m) (hx : dOk V.n x) : zc 4 55 [.ref 23, .int (iI x)] M L none (pf V M m x) L := by
  refine zc_of (n := 3) (ls := [some (.ref 23), some (.int (iI x)), none]) mk_55 rfl rfl rfl rfl (fun d hd N xs => ?_)
  have hn := hk.n
  have ht := hk.tset
  have hw := pw_h hv m x
  have ew : zz_wI (zz_wI M 30 m (iI x)) 23 13 (iI m + 1) = pw M m x := by
    unfold pw
    rw [iI_lit, iI_add]
    rfl
  rw [b_55_0, h13, iI_lit 0, if_neg (by rw [t_lt, iI_to (by omega) (by omega), show (iI (OfNat.ofNat 0)).toInt = 0 from rfl]; omega), iI_lit 40, if_pos (by rw [t_lt, iI_to (by omega) (by omega), show (iI (OfNat.ofNat 40)).toInt = 40 from rfl]; omega), b_55_2, h13, ix_nat (by omega) (by omega), o_some, w_ne (by omega : (23 : Nat) ≠ 30), h13, ew]
  unfold pf
  by_cases q : x = 0
  · subst q
    rw [if_pos rfl, if_pos (show iI ((0 : Nat) : Int) = 0 from rfl), g_56 _ L V hk hw (by omega), b_55_3]
    rfl
  · obtain ⟨hx1, hx2, hx3⟩ := hx.resolve_left q
    have e4 : iI x >>> ((4 : Int32) &&& 31) = iI (x / 16 : Nat) := by
      rw [show (4 : Int32) = iI ((4 : Nat) : Int) from rfl, iN_shr (by omega) (by omega), Nat.shiftRight_eq_div_pow]
    have e15 : iI x &&& 15 = iI (x % 16 : Nat) := by
      rw [show (15 : Int32) = iI ((15 : Nat) : Int) from rfl, iN_and (by omega) (by omega), show (15 : Nat) = 2 ^ 4 - 1 from rfl, Nat.and_two_pow_sub_one_eq_mod]
    have hmi := hk.minute (x / 16)
    have hb : (1 <<< (x / 16) : Nat) < 2 ^ 6 := by rw [Nat.one_shiftLeft]; exact Nat.pow_lt_pow_right (by omega) (by omega)
    rw [if_neg (by rw [t_eq, iI_to (by omega) (by omega), show (0 : Int32).toInt = 0 from rfl]; omega), if_neg q, b_55_4, e4, g_31 _ L V hk hw _ (by omega) (by omega) (by omega), b2_t (by omega), b_55_5, iI_lit 0, if_neg iI10, ix_nat (by omega) (by omega), o_some, hw.minute _ hx1, e15, iI_add, show (6 : Int32) = iI 6 from rfl, iI_sub, g_153 _ L _ (by omega) (by omega) (by omega), b_55_6, ix_nat (by omega) (by omega), o_some, w_ne (by omega : (23 : Nat) ≠ 29), hw.tset, iN_shl (by omega), iN_or (by omega) (by omega), b_55_7]
    rfl
theorem g_55 (V : Vw) (hk : Vk V) (hv : Hv V M) (m x : Nat) (hm : m < 40) (h13 : M 23 13 = iI m) (hx : dOk V.n x) {d N : Nat} {xs : Nat → Int32} {tb_ : List zz_B} {t_ : Nat} {ls_ : zz_L} {rest_ : List Value} (hd_ : 4 ≤ d) : (zz_o (zz_call_ d 55 [.ref 23, .int (iI x)] (zm N xs M L)) fun r => zz_X (zz_call_ d) tb_ t_ ls_ (r.1.toList ++ rest_) r.2) = zz_X (zz_call_ d) tb_ t_ ls_ rest_ (zm N xs (pf V M m x) L) := (s_55 M L V hk hv m x hm h13 hx).gov hd_
theorem s_52 (V : Vw) (hk : Vk V) (hv : Hv V M) (m : Nat) (hm : m < 40) (h13 : M 23 13 = iI m) : zc 5 52 [.ref 23] M L none (pf V M m 0) L := by
  refine zc_of (n := 4) (ls := [some (.ref 23)]) mk_52 rfl rfl rfl rfl (fun d hd N xs => ?_)
  rw [b_52_0, show (0 : Int32) = iI ((0 : Nat) : Int) from rfl, g_55 M L V hk hv m 0 hm h13 (Or.inl rfl) (by omega), b_52_1]
theorem g_52 (V : Vw) (hk : Vk V) (hv : Hv V M) (m : Nat) (hm : m < 40) (h13 : M 23 13 = iI m) {d N : Nat} {xs : Nat → Int32} {tb_ : List zz_B} {t_ : Nat} {ls_ : zz_L} {rest_ : List Value} (hd_ : 5 ≤ d) : (zz_o (zz_call_ d 52 [.ref 23] (zm N xs M L)) fun r => zz_X (zz_call_ d) tb_ t_ ls_ (r.1.toList ++ rest_) r.2) = zz_X (zz_call_ d) tb_ t_ ls_ rest_ (zm N xs (pf V M m 0) L) := (s_52 M L V hk hv m hm h13).gov hd_
theorem s_53 (V : Vw) (hk : Vk V) (hv : Hv V M) (m i : Nat) (y : Int) (hm : m < 40) (h13 : M 23 13 = iI m) (hi : i < V.n) (h1 : -5 ≤ y) (h2 : y ≤ 5) : zc 5 53 [.ref 23, .int (iI i), .int (iI y)] M L none (pf V M m (16 * i + (y + 6).toNat)) L := by
  refine zc_of (n := 4) (ls := [some (.ref 23), some (.int (iI i)), some (.int (iI y))]) mk_53 rfl rfl rfl rfl (fun d hd N xs => ?_)
  have hn := hk.n
  rw [b_53_0]
  simp only [iI_lit, iI_add, iI_mul]
  rw [show (16 : Int) * (i : Int) + y + 6 = ((16 * i + (y + 6).toNat : Nat) : Int) by omega, g_55 M L V hk hv m _ hm h13 (Or.inr (by omega)) (by omega), b_53_1]
theorem g_53 (V : Vw) (hk : Vk V) (hv : Hv V M) (m i : Nat) (y : Int) (hm : m < 40) (h13 : M 23 13 = iI m) (hi : i < V.n) (h1 : -5 ≤ y) (h2 : y ≤ 5) {d N : Nat} {xs : Nat → Int32} {tb_ : List zz_B} {t_ : Nat} {ls_ : zz_L} {rest_ : List Value} (hd_ : 5 ≤ d) : (zz_o (zz_call_ d 53 [.ref 23, .int (iI i), .int (iI y)] (zm N xs M L)) fun r => zz_X (zz_call_ d) tb_ t_ ls_ (r.1.toList ++ rest_) r.2) = zz_X (zz_call_ d) tb_ t_ ls_ rest_ (zm N xs (pf V M m (16 * i + (y + 6).toNat)) L) := (s_53 M L V hk hv m i y hm h13 hi h1 h2).gov hd_
end ZR

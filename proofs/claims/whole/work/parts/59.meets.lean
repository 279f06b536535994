/-! meets, count. -/
abbrev bt (V : Vw) (n : Nat) : Nat → Nat := fun i => rg (V.minAt i n).toNat (span (V.kind i))
theorem cmp_cg {p q : Nat → Nat → Prop} [∀ i j, Decidable (p i j)] [∀ i j, Decidable (q i j)] (h : ∀ i j, p i j ↔ q i j) (n i : Nat) : cmp p n i = cmp q n i := cZ_cg (fun k _ => and_congr Iff.rfl (h i k))
theorem wS_cg {p q : Nat → Nat → Prop} [∀ i j, Decidable (p i j)] [∀ i j, Decidable (q i j)] (h : ∀ i j, p i j ↔ q i j) (n : Nat) : ∀ k, wS p n k = wS q n k
  | 0 => rfl
  | k + 1 => by
    show (if 0 < cmp p n k then wS p n k ||| (1 <<< k) else wS p n k) = (if 0 < cmp q n k then wS q n k ||| (1 <<< k) else wS q n k)
    rw [cmp_cg h, wS_cg h n k]
theorem lin_cg {p q : Nat → Nat → Prop} [∀ i j, Decidable (p i j)] [∀ i j, Decidable (q i j)] (h : ∀ i j, p i j ↔ q i j) (i : Nat) : ∀ c j, lin p i c j = lin q i c j
  | 0, _ => rfl
  | c + 1, j => by
    unfold lin
    by_cases e : p i j
    · rw [if_pos e, if_pos ((h i j).1 e)]
    · rw [if_neg e, if_neg (fun x => e ((h i j).2 x)), lin_cg h i c (j + 1)]
theorem lout_cg {p q : Nat → Nat → Prop} [∀ i j, Decidable (p i j)] [∀ i j, Decidable (q i j)] (h : ∀ i j, p i j ↔ q i j) (n : Nat) : ∀ c i, lout p n c i = lout q n c i
  | 0, _ => rfl
  | c + 1, i => by
    unfold lout
    rw [lin_cg h, lout_cg h n c (i + 1)]
theorem nPairs (V : Vw) (n : Nat) : sN (cmp (rel (bt V n)) V.n) V.n / 2 = (pout (fun i j => V.mt i j n) V.n V.n 0 (0, 0, -9)).1 := by
  rw [pout_c _ (mt_sy V n), sN_cg (fun i _ => cmp_cg (rel_mt V n) V.n i)]
theorem nSet (V : Vw) (n : Nat) : wS (rel (bt V n)) V.n V.n = (pout (fun i j => V.mt i j n) V.n V.n 0 (0, 0, -9)).2.1 := by
  rw [pout_s _ (mt_sy V n), wS_cg (rel_mt V n)]
theorem nFirst (V : Vw) (n : Nat) : oI (lout (rel (bt V n)) V.n V.n 0) = (pout (fun i j => V.mt i j n) V.n V.n 0 (0, 0, -9)).2.2 := by
  rw [pout_f, lout_cg (rel_mt V n)]
theorem sL_SL (L : Nat → Nat → Int64) (c : Nat) (f : Nat → Int64) (n : Nat) (h : c ≠ 48) (h2 : c ≠ 52) : SL L (sL L c f n) := by
  unfold SL
  rw [sL_ne (fun e => h e.symm), sL_ne (fun e => h2 e.symm)]
  exact ⟨rfl, rfl, rfl, rfl⟩
section ZR
variable (M : Nat → Nat → Int32) (L : Nat → Nat → Int64)
theorem s_115B (z : Int) (h1 : -2147483648 ≤ z) (h2 : z ≤ 2147483647) (h : ¬ (0 ≤ z ∧ z ≤ 420)) : zc 6 115 [.ref 0, .int (iI z)] M L (some (.int (iI (-1)))) M L := by
  refine zc_of (n := 5) (ls := [some (.ref 0), some (.int (iI z))]) mk_115 rfl rfl rfl rfl (fun d hd N xs => ?_)
  rw [b_115_0, g_149 M L z h1 h2 (by omega), b2_f h, b_115_1, iI_lit 0, if_pos rfl]
  rfl
theorem g_115B (z : Int) (h1 : -2147483648 ≤ z) (h2 : z ≤ 2147483647) (h : ¬ (0 ≤ z ∧ z ≤ 420)) {d N : Nat} {xs : Nat → Int32} {tb_ : List zz_B} {t_ : Nat} {ls_ : zz_L} {rest_ : List Value} (hd_ : 6 ≤ d) : (zz_o (zz_call_ d 115 [.ref 0, .int (iI z)] (zm N xs M L)) fun r => zz_X (zz_call_ d) tb_ t_ ls_ (r.1.toList ++ rest_) r.2) = zz_X (zz_call_ d) tb_ t_ ls_ ((.int (iI (-1))) :: rest_) (zm N xs M L) := (s_115B M L z h1 h2 h).go hd_
theorem s_115O (V : Vw) (hk : Vk V) (hv : Hv V M) (n : Nat) (h : n ≤ 420) : zc 6 115 [.ref 0, .int (iI n)] M L (some (.int (iI (sN (cmp (rel (bt V n)) V.n) V.n / 2 : Nat)))) (zz_wI (zz_wI M 36 1 (iI V.n)) 0 10 (iI (wS (rel (bt V n)) V.n V.n))) (sL L 37 (fun i => lI (bt V n i)) V.n) := by
  refine zc_of (n := 5) (ls := [some (.ref 0), some (.int (iI n))]) mk_115 rfl rfl rfl rfl (fun d hd N xs => ?_)
  have hm := Ms_see M L 36 V hk n
  have hm2 : Ms 36 V.n (bt V n) (zz_wI (zz_wI M 36 1 (iI V.n)) 0 10 (iI (wS (rel (bt V n)) V.n V.n))) (sL L 37 (fun i => lI (bt V n i)) V.n) := ⟨hm.1, by rw [w_ne (by omega)]; exact hm.2.1, hm.2.2⟩
  rw [b_115_0, g_149 M L n (by omega) (by omega) (by omega), b2_t (by omega), b_115_1, iI_lit 0, if_neg iI10, b_115_2, g_43 M L V hk hv n (by omega) (by omega), b_115_3, g_62a M L V hk hv n h (by omega), b_115_4, g_69 _ _ V.n _ hm (by omega), b_115_5, g_68 _ _ V.n _ hm2 (by omega), b_115_6]
theorem g_115O (V : Vw) (hk : Vk V) (hv : Hv V M) (n : Nat) (h : n ≤ 420) {d N : Nat} {xs : Nat → Int32} {tb_ : List zz_B} {t_ : Nat} {ls_ : zz_L} {rest_ : List Value} (hd_ : 6 ≤ d) : (zz_o (zz_call_ d 115 [.ref 0, .int (iI n)] (zm N xs M L)) fun r => zz_X (zz_call_ d) tb_ t_ ls_ (r.1.toList ++ rest_) r.2) = zz_X (zz_call_ d) tb_ t_ ls_ ((.int (iI (sN (cmp (rel (bt V n)) V.n) V.n / 2 : Nat))) :: rest_) (zm N xs (zz_wI (zz_wI M 36 1 (iI V.n)) 0 10 (iI (wS (rel (bt V n)) V.n V.n))) (sL L 37 (fun i => lI (bt V n i)) V.n)) := (s_115O M L V hk hv n h).go hd_
theorem s_216B (z : Int) (h1 : -2147483648 ≤ z) (h2 : z ≤ 2147483647) (h : ¬ (0 ≤ z ∧ z ≤ 420)) : zc 6 216 [.ref 52, .int (iI z)] M L (some (.int (iI (-1)))) M L := by
  refine zc_of (n := 5) (ls := [some (.ref 52), some (.int (iI z)), none]) mk_216 rfl rfl rfl rfl (fun d hd N xs => ?_)
  rw [b_216_0, g_209 M L z h1 h2 (by omega), b2_f h, b_216_1, iI_lit 0, if_pos rfl]
  rfl
theorem g_216B (z : Int) (h1 : -2147483648 ≤ z) (h2 : z ≤ 2147483647) (h : ¬ (0 ≤ z ∧ z ≤ 420)) {d N : Nat} {xs : Nat → Int32} {tb_ : List zz_B} {t_ : Nat} {ls_ : zz_L} {rest_ : List Value} (hd_ : 6 ≤ d) : (zz_o (zz_call_ d 216 [.ref 52, .int (iI z)] (zm N xs M L)) fun r => zz_X (zz_call_ d) tb_ t_ ls_ (r.1.toList ++ rest_) r.2) = zz_X (zz_call_ d) tb_ t_ ls_ ((.int (iI (-1))) :: rest_) (zm N xs M L) := (s_216B M L z h1 h2 h).go hd_
theorem s_216O (V : Vw) (hk : Vk V) (hr : Rv V (M 53) 0) (n : Nat) (h : n ≤ 420) : zc 6 216 [.ref 52, .int (iI n)] M L (some (.int (iI (pout (fun i j => V.mt i j n) V.n V.n 0 (0, 0, -9)).1))) (zz_wI (m3 (sI M 61 (fun i => iI (V.minAt i n)) V.n) (pout (fun i j => V.mt i j n) V.n V.n 0 (0, 0, -9))) 52 10 (iI (pout (fun i j => V.mt i j n) V.n V.n 0 (0, 0, -9)).2.1)) L := by
  refine zc_of (n := 5) (ls := [some (.ref 52), some (.int (iI n)), none]) mk_216 rfl rfl rfl rfl (fun d hd N xs => ?_)
  rw [b_216_0, g_209 M L n (by omega) (by omega) (by omega), b2_t (by omega), b_216_1, iI_lit 0, if_neg iI10, b_216_2, g_199 M L V hk hr n h (by omega), b_216_3, g_200 _ L V hk (by rw [sI_ne (by omega)]; exact hr) (fun i => V.minAt i n) (fun i => minAt_b V i n) (fun i hi => by rw [sI_in hi]) (by omega), b_216_4, m3_15, g_162 _ L _ _ (by omega), b_216_5]
theorem g_216O (V : Vw) (hk : Vk V) (hr : Rv V (M 53) 0) (n : Nat) (h : n ≤ 420) {d N : Nat} {xs : Nat → Int32} {tb_ : List zz_B} {t_ : Nat} {ls_ : zz_L} {rest_ : List Value} (hd_ : 6 ≤ d) : (zz_o (zz_call_ d 216 [.ref 52, .int (iI n)] (zm N xs M L)) fun r => zz_X (zz_call_ d) tb_ t_ ls_ (r.1.toList ++ rest_) r.2) = zz_X (zz_call_ d) tb_ t_ ls_ ((.int (iI (pout (fun i j => V.mt i j n) V.n V.n 0 (0, 0, -9)).1)) :: rest_) (zm N xs (zz_wI (m3 (sI M 61 (fun i => iI (V.minAt i n)) V.n) (pout (fun i j => V.mt i j n) V.n V.n 0 (0, 0, -9))) 52 10 (iI (pout (fun i j => V.mt i j n) V.n V.n 0 (0, 0, -9)).2.1)) L) := (s_216O M L V hk hr n h).go hd_
theorem s_40 (V : Vw) (hk : Vk V) (hv : Hv V M) (k : Nat) (h : k < 6) : zc 3 40 [.ref 23, .int (iI k)] M L (some (.int (iI (cZ (fun i => isKd (V.kind i) k) V.n)))) M L := by
  refine zc_of (n := 2) (ls := [some (.ref 23), some (.int (iI k)), none, none]) mk_40 rfl rfl rfl rfl (fun d hd N xs => ?_)
  have hn := hk.n
  rw [b_40_0]
  have hl := upto (fun m : Nat => zz_X (zz_call_ d) tb_40 1 [some (.ref 23), some (.int (iI k)), some (.int (iI (cZ (fun i => isKd (V.kind i) k) m))), some (.int (iI m))] [] (zm N xs M L)) V.n (fun m hm => by
    show zz_X (zz_call_ d) tb_40 1 _ _ _ = zz_X (zz_call_ d) tb_40 1 _ _ _
    rw [b_40_1, hv.n, if_neg (by rw [t_le, iI_to (by omega) (by omega), iI_to (by omega) (by omega)]; omega), g_33 M L V hk hv m k hm h (by omega), b_40_2]
    by_cases q : isKd (V.kind m) k
    · rw [b2_t q, iI_lit 0, if_neg iI10, b_40_3, iI_lit, iI_add, iI_add, cZ_t (p := fun i => isKd (V.kind i) k) q]
      rfl
    · rw [b2_f q, iI_lit 0, if_pos rfl, b_40_3, iI_lit, iI_add, cZ_f (p := fun i => isKd (V.kind i) k) q]
      rfl)
  refine hl.trans ?_
  show zz_X (zz_call_ d) tb_40 1 _ _ _ = _
  rw [b_40_1, hv.n, if_pos (by rw [t_le]; omega), b_40_4]
theorem g_40 (V : Vw) (hk : Vk V) (hv : Hv V M) (k : Nat) (h : k < 6) {d N : Nat} {xs : Nat → Int32} {tb_ : List zz_B} {t_ : Nat} {ls_ : zz_L} {rest_ : List Value} (hd_ : 3 ≤ d) : (zz_o (zz_call_ d 40 [.ref 23, .int (iI k)] (zm N xs M L)) fun r => zz_X (zz_call_ d) tb_ t_ ls_ (r.1.toList ++ rest_) r.2) = zz_X (zz_call_ d) tb_ t_ ls_ ((.int (iI (cZ (fun i => isKd (V.kind i) k) V.n))) :: rest_) (zm N xs M L) := (s_40 M L V hk hv k h).go hd_
theorem s_254 (V : Vw) (hk : Vk V) (hr : Rv V (M 53) 0) (k u : Nat) (h : k < 6) (hu : u < 6) : zc 1 254 [.ref 52, .int (iI k), .int (iI u)] M L (some (.int (iI (cZ (fun i => V.kind i = k ∨ V.kind i = u) V.n)))) M L := by
  refine zc_of (n := 0) (ls := [some (.ref 52), some (.int (iI k)), some (.int (iI u)), none, none]) mk_254 rfl rfl rfl rfl (fun d hd N xs => ?_)
  have hn := hk.n
  have e0 : M 53 0 = iI V.n := hr.n
  rw [b_254_0]
  have hl := upto (fun m : Nat => zz_X (zz_call_ d) tb_254 1 [some (.ref 52), some (.int (iI k)), some (.int (iI u)), some (.int (iI (cZ (fun i => V.kind i = k ∨ V.kind i = u) m))), some (.int (iI m))] [] (zm N xs M L)) V.n (fun m hm => by
    show zz_X (zz_call_ d) tb_254 1 _ _ _ = zz_X (zz_call_ d) tb_254 1 _ _ _
    have hki := hk.kind m
    rw [b_254_1, e0, if_neg (by rw [t_le, iI_to (by omega) (by omega), iI_to (by omega) (by omega)]; omega)]
    simp only [iI_lit, iI_add]
    rw [show (10 : Int) + (m : Int) = ((0 + (10 + m) : Nat) : Int) by omega, ix_nat (by omega) (by omega), o_some, hr.kind m hm]
    simp (disch := omega) only [o_some, t_eq, iI_to]
    rw [hr.kind m hm]
    simp (disch := omega) only [iI_to]
    by_cases q1 : V.kind m = k
    · rw [if_pos (by omega), b_254_2, b_254_4, iI_lit, iI_add, iI_add, cZ_t (p := fun i => V.kind i = k ∨ V.kind i = u) (Or.inl q1)]
      rfl
    · by_cases q2 : V.kind m = u
      · rw [if_neg (by omega), if_pos (by omega), b_254_2, b_254_4, iI_lit, iI_add, iI_add, cZ_t (p := fun i => V.kind i = k ∨ V.kind i = u) (Or.inr q2)]
        rfl
      · rw [if_neg (by omega), if_neg (by omega), b_254_3, b_254_4, iI_lit 0, iI_lit 1, iI_add, iI_add, cZ_f (p := fun i => V.kind i = k ∨ V.kind i = u) (by omega), show ((cZ (fun i => V.kind i = k ∨ V.kind i = u) m : Nat) : Int) + 0 = (cZ (fun i => V.kind i = k ∨ V.kind i = u) m : Nat) by omega]
        rfl)
  refine hl.trans ?_
  show zz_X (zz_call_ d) tb_254 1 _ _ _ = _
  rw [b_254_1, e0, if_pos (by rw [t_le]; omega), b_254_5]
theorem g_254 (V : Vw) (hk : Vk V) (hr : Rv V (M 53) 0) (k u : Nat) (h : k < 6) (hu : u < 6) {d N : Nat} {xs : Nat → Int32} {tb_ : List zz_B} {t_ : Nat} {ls_ : zz_L} {rest_ : List Value} (hd_ : 1 ≤ d) : (zz_o (zz_call_ d 254 [.ref 52, .int (iI k), .int (iI u)] (zm N xs M L)) fun r => zz_X (zz_call_ d) tb_ t_ ls_ (r.1.toList ++ rest_) r.2) = zz_X (zz_call_ d) tb_ t_ ls_ ((.int (iI (cZ (fun i => V.kind i = k ∨ V.kind i = u) V.n))) :: rest_) (zm N xs M L) := (s_254 M L V hk hr k u h hu).go hd_
theorem s_253a (n : Nat) (h : n ≤ 3) : zc 1 253 [.ref 54, .int (iI n)] M L (some (.int (iI (cZ (fun k => 0 ≤ (M 54 k).toInt) n)))) M L := by
  refine zc_of (n := 0) (ls := [some (.ref 54), some (.int (iI n)), none, none]) mk_253 rfl rfl rfl rfl (fun d hd N xs => ?_)
  rw [b_253a_0]
  have hl := upto (fun k : Nat => zz_X (zz_call_ d) tb_253 1 [some (.ref 54), some (.int (iI n)), some (.int (iI (cZ (fun k => 0 ≤ (M 54 k).toInt) k))), some (.int (iI k))] [] (zm N xs M L)) n (fun k hk => by
    show zz_X (zz_call_ d) tb_253 1 _ _ _ = zz_X (zz_call_ d) tb_253 1 _ _ _
    rw [b_253a_1, if_neg (by rw [t_le, iI_to (by omega) (by omega), iI_to (by omega) (by omega)]; omega), ix_nat (by omega) (by omega), o_some]
    by_cases q : 0 ≤ (M 54 k).toInt
    · rw [if_pos (by rw [t_le]; exact q), b_253a_2, b_253a_3, iI_lit, iI_add, iI_add, cZ_t (p := fun k => 0 ≤ (M 54 k).toInt) q]
      rfl
    · rw [if_neg (by rw [t_le]; exact q), b_253a_3, iI_lit 0, iI_lit 1, iI_add, iI_add, cZ_f (p := fun k => 0 ≤ (M 54 k).toInt) q, show ((cZ (fun k => 0 ≤ (M 54 k).toInt) k : Nat) : Int) + 0 = (cZ (fun k => 0 ≤ (M 54 k).toInt) k : Nat) by omega]
      rfl)
  refine hl.trans ?_
  show zz_X (zz_call_ d) tb_253 1 _ _ _ = _
  rw [b_253a_1, if_pos (by rw [t_le]; omega), b_253a_4]
theorem g_253a (n : Nat) (h : n ≤ 3) {d N : Nat} {xs : Nat → Int32} {tb_ : List zz_B} {t_ : Nat} {ls_ : zz_L} {rest_ : List Value} (hd_ : 1 ≤ d) : (zz_o (zz_call_ d 253 [.ref 54, .int (iI n)] (zm N xs M L)) fun r => zz_X (zz_call_ d) tb_ t_ ls_ (r.1.toList ++ rest_) r.2) = zz_X (zz_call_ d) tb_ t_ ls_ ((.int (iI (cZ (fun k => 0 ≤ (M 54 k).toInt) n))) :: rest_) (zm N xs M L) := (s_253a M L n h).go hd_
theorem s_253b (n : Nat) (h : n ≤ 6) : zc 1 253 [.ref 56, .int (iI n)] M L (some (.int (iI (cZ (fun k => 0 ≤ (M 56 k).toInt) n)))) M L := by
  refine zc_of (n := 0) (ls := [some (.ref 56), some (.int (iI n)), none, none]) mk_253 rfl rfl rfl rfl (fun d hd N xs => ?_)
  rw [b_253b_0]
  have hl := upto (fun k : Nat => zz_X (zz_call_ d) tb_253 1 [some (.ref 56), some (.int (iI n)), some (.int (iI (cZ (fun k => 0 ≤ (M 56 k).toInt) k))), some (.int (iI k))] [] (zm N xs M L)) n (fun k hk => by
    show zz_X (zz_call_ d) tb_253 1 _ _ _ = zz_X (zz_call_ d) tb_253 1 _ _ _
    rw [b_253b_1, if_neg (by rw [t_le, iI_to (by omega) (by omega), iI_to (by omega) (by omega)]; omega), ix_nat (by omega) (by omega), o_some]
    by_cases q : 0 ≤ (M 56 k).toInt
    · rw [if_pos (by rw [t_le]; exact q), b_253b_2, b_253b_3, iI_lit, iI_add, iI_add, cZ_t (p := fun k => 0 ≤ (M 56 k).toInt) q]
      rfl
    · rw [if_neg (by rw [t_le]; exact q), b_253b_3, iI_lit 0, iI_lit 1, iI_add, iI_add, cZ_f (p := fun k => 0 ≤ (M 56 k).toInt) q, show ((cZ (fun k => 0 ≤ (M 56 k).toInt) k : Nat) : Int) + 0 = (cZ (fun k => 0 ≤ (M 56 k).toInt) k : Nat) by omega]
      rfl)
  refine hl.trans ?_
  show zz_X (zz_call_ d) tb_253 1 _ _ _ = _
  rw [b_253b_1, if_pos (by rw [t_le]; omega), b_253b_4]
theorem g_253b (n : Nat) (h : n ≤ 6) {d N : Nat} {xs : Nat → Int32} {tb_ : List zz_B} {t_ : Nat} {ls_ : zz_L} {rest_ : List Value} (hd_ : 1 ≤ d) : (zz_o (zz_call_ d 253 [.ref 56, .int (iI n)] (zm N xs M L)) fun r => zz_X (zz_call_ d) tb_ t_ ls_ (r.1.toList ++ rest_) r.2) = zz_X (zz_call_ d) tb_ t_ ls_ ((.int (iI (cZ (fun k => 0 ≤ (M 56 k).toInt) n))) :: rest_) (zm N xs M L) := (s_253b M L n h).go hd_
theorem s_253c (n : Nat) (h : n ≤ 4) : zc 1 253 [.ref 58, .int (iI n)] M L (some (.int (iI (cZ (fun k => 0 ≤ (M 58 k).toInt) n)))) M L := by
  refine zc_of (n := 0) (ls := [some (.ref 58), some (.int (iI n)), none, none]) mk_253 rfl rfl rfl rfl (fun d hd N xs => ?_)
  rw [b_253c_0]
  have hl := upto (fun k : Nat => zz_X (zz_call_ d) tb_253 1 [some (.ref 58), some (.int (iI n)), some (.int (iI (cZ (fun k => 0 ≤ (M 58 k).toInt) k))), some (.int (iI k))] [] (zm N xs M L)) n (fun k hk => by
    show zz_X (zz_call_ d) tb_253 1 _ _ _ = zz_X (zz_call_ d) tb_253 1 _ _ _
    rw [b_253c_1, if_neg (by rw [t_le, iI_to (by omega) (by omega), iI_to (by omega) (by omega)]; omega), ix_nat (by omega) (by omega), o_some]
    by_cases q : 0 ≤ (M 58 k).toInt
    · rw [if_pos (by rw [t_le]; exact q), b_253c_2, b_253c_3, iI_lit, iI_add, iI_add, cZ_t (p := fun k => 0 ≤ (M 58 k).toInt) q]
      rfl
    · rw [if_neg (by rw [t_le]; exact q), b_253c_3, iI_lit 0, iI_lit 1, iI_add, iI_add, cZ_f (p := fun k => 0 ≤ (M 58 k).toInt) q, show ((cZ (fun k => 0 ≤ (M 58 k).toInt) k : Nat) : Int) + 0 = (cZ (fun k => 0 ≤ (M 58 k).toInt) k : Nat) by omega]
      rfl)
  refine hl.trans ?_
  show zz_X (zz_call_ d) tb_253 1 _ _ _ = _
  rw [b_253c_1, if_pos (by rw [t_le]; omega), b_253c_4]
theorem g_253c (n : Nat) (h : n ≤ 4) {d N : Nat} {xs : Nat → Int32} {tb_ : List zz_B} {t_ : Nat} {ls_ : zz_L} {rest_ : List Value} (hd_ : 1 ≤ d) : (zz_o (zz_call_ d 253 [.ref 58, .int (iI n)] (zm N xs M L)) fun r => zz_X (zz_call_ d) tb_ t_ ls_ (r.1.toList ++ rest_) r.2) = zz_X (zz_call_ d) tb_ t_ ls_ ((.int (iI (cZ (fun k => 0 ≤ (M 58 k).toInt) n))) :: rest_) (zm N xs M L) := (s_253c M L n h).go hd_
theorem s_59  : zc 1 59 [.ref 23] M L (some (.int (iI (cZ (fun k => 0 ≤ (M 35 k).toInt) 3)))) M L := by
  refine zc_of (n := 0) (ls := [some (.ref 23), none, none]) mk_59 rfl rfl rfl rfl (fun d hd N xs => ?_)
  rw [b_59_0]
  have hl := upto (fun k : Nat => zz_X (zz_call_ d) tb_59 1 [some (.ref 23), some (.int (iI (cZ (fun k => 0 ≤ (M 35 k).toInt) k))), some (.int (iI k))] [] (zm N xs M L)) 3 (fun k hk => by
    show zz_X (zz_call_ d) tb_59 1 _ _ _ = zz_X (zz_call_ d) tb_59 1 _ _ _
    rw [b_59_1, iI_lit, if_neg (by rw [t_le, iI_to (by omega) (by omega), iI_to (by omega) (by omega)]; omega), ix_nat (by omega) (by omega), o_some, iI_lit 0]
    by_cases q : 0 ≤ (M 35 k).toInt
    · rw [if_neg (by rw [t_lt, show (iI (OfNat.ofNat 0)).toInt = 0 from rfl]; omega), b_59_2, iI_lit, iI_add, iI_add, cZ_t (p := fun k => 0 ≤ (M 35 k).toInt) q]
      rfl
    · rw [if_pos (by rw [t_lt, show (iI (OfNat.ofNat 0)).toInt = 0 from rfl]; omega), b_59_2, iI_lit, iI_add, cZ_f (p := fun k => 0 ≤ (M 35 k).toInt) q]
      rfl)
  refine hl.trans ?_
  show zz_X (zz_call_ d) tb_59 1 _ _ _ = _
  rw [b_59_1, iI_lit, if_pos (by rw [t_le, iI_to (by omega) (by omega), iI_to (by omega) (by omega)]; omega), b_59_3]
theorem g_59  {d N : Nat} {xs : Nat → Int32} {tb_ : List zz_B} {t_ : Nat} {ls_ : zz_L} {rest_ : List Value} (hd_ : 1 ≤ d) : (zz_o (zz_call_ d 59 [.ref 23] (zm N xs M L)) fun r => zz_X (zz_call_ d) tb_ t_ ls_ (r.1.toList ++ rest_) r.2) = zz_X (zz_call_ d) tb_ t_ ls_ ((.int (iI (cZ (fun k => 0 ≤ (M 35 k).toInt) 3))) :: rest_) (zm N xs M L) := (s_59 M L).go hd_
end ZR
theorem o_meets {M : Nat → Nat → Int32} {L : Nat → Nat → Int64} (a : Int32) (hI : Inv M L) : Ok 115 216 [.int a] M L := by
  obtain ⟨z, h1, h2, rfl⟩ := iI_of a
  obtain ⟨V, hk, hv, hr⟩ := hI.view
  by_cases q : 0 ≤ z ∧ z ≤ 420
  · obtain ⟨n, rfl⟩ : ∃ x : Nat, z = x := ⟨z.toNat, by omega⟩
    have g1 := s_115O M L V hk hv n (by omega)
    rw [nPairs, nSet] at g1
    refine Ok.tells (x := iI (pout (fun i j => V.mt i j n) V.n V.n 0 (0, 0, -9)).2.1) hI g1 (s_216O _ _ V hk (by rw [w_ne (by omega), w_ne (by omega)]; exact hr) n (by omega)) ?_ ?_ (sL_SL _ _ _ _ (by omega) (by omega)) SL.rf (by omega) (by omega)
    · exact eqs.ww (eqs.rf.w (by unfold pA pR pT pD pF pH; omega))
    · exact eqs.ww ((eqs.rf.r (by unfold pA pR pT pD pF pH; omega)).tr (m3_eqs _ _))
  · exact Ok.same hI (s_115B M L z h1 h2 q) (s_216B M L z h1 h2 q) (by omega) (by omega)

/-! House: all done anew. -/
def Hs (V : Vw) (M : Nat → Nat → Int32) : Prop := M 23 10 = iI V.n ∧ M 23 9 = iI V.hc ∧ (∀ k, k < V.hc → M 24 k = iI (V.heat k)) ∧ (∀ i, i < V.n → M 25 i = iI (V.kind i)) ∧ (∀ i, i < V.n → M 27 i = iI (V.rate i)) ∧ (∀ i, i < V.n → M 28 i = iI (V.floor i)) ∧ ∀ i, i < V.n → M 26 i = iI (V.minute i)
def gb0 (M : Nat → Nat → Int32) : Nat → Nat → Int32 := zz_wI (zz_wI (zz_wI (sI M 29 (M 26) 6) 23 11 (iI 0)) 23 12 (iI 0)) 23 13 (iI 0)
def gb (V : Vw) (M : Nat → Nat → Int32) (D : Nat → Nat) : Nat → Nat → Nat → Int32
  | 0 => gb0 M
  | k + 1 => pf (V.run D k) (gb V M D k) k (D k)
theorem gb0_h {V : Vw} {M : Nat → Nat → Int32} (hk : Vk V) (h0 : V.day = 0) (ht : V.tset = 0) (h : Hs V M) : Hv V (gb0 M) := by
  have hn := hk.n
  unfold gb0
  have e : ∀ c, c ≠ 23 → c ≠ 29 → zz_wI (zz_wI (zz_wI (sI M 29 (M 26) 6) 23 11 (iI 0)) 23 12 (iI 0)) 23 13 (iI 0) c = M c := fun c h1 h2 => by rw [w_ne h1, w_ne h1, w_ne h1, sI_ne h2]
  have e2 : ∀ k, k ≠ 11 → k ≠ 12 → k ≠ 13 → zz_wI (zz_wI (zz_wI (sI M 29 (M 26) 6) 23 11 (iI 0)) 23 12 (iI 0)) 23 13 (iI 0) 23 k = M 23 k := fun k h1 h2 h3 => by rw [w_nk h3, w_nk h2, w_nk h1, sI_ne (by omega)]
  refine ⟨?_, ?_, ?_, ?_, ?_, ?_, ?_, ?_, ?_⟩
  · rw [e2 _ (by omega) (by omega) (by omega)]; exact h.1
  · rw [e2 _ (by omega) (by omega) (by omega)]; exact h.2.1
  · rw [w_nk (by omega), w_nk (by omega), w_at, h0]; rfl
  · rw [w_nk (by omega), w_at, ht]; rfl
  · intro i hi; rw [e _ (by omega) (by omega)]; exact h.2.2.1 i hi
  · intro i hi; rw [e _ (by omega) (by omega)]; exact h.2.2.2.1 i hi
  · intro i hi; rw [e _ (by omega) (by omega)]; exact h.2.2.2.2.1 i hi
  · intro i hi; rw [e _ (by omega) (by omega)]; exact h.2.2.2.2.2.1 i hi
  · intro i hi; rw [w_ne (by omega), w_ne (by omega), w_ne (by omega), sI_in (by omega)]; exact h.2.2.2.2.2.2 i hi
theorem gb_h {V : Vw} {M : Nat → Nat → Int32} {D : Nat → Nat} (hk : Vk V) (h0 : V.day = 0) (ht : V.tset = 0) (h : Hs V M) : ∀ k, k ≤ 40 → (∀ j, j < k → dOk V.n (D j)) → Hv (V.run D k) (gb V M D k)
  | 0, _, _ => gb0_h hk h0 ht h
  | k + 1, h1, h2 => pf_h (run_k hk h0 k (by omega) (fun j hj => h2 j (by omega))) (gb_h hk h0 ht h k (by omega) (fun j hj => h2 j (by omega))) k (D k)
theorem gb_13 (V : Vw) (M : Nat → Nat → Int32) (D : Nat → Nat) : ∀ k, gb V M D k 23 13 = iI k
  | 0 => by unfold gb gb0; rw [w_at]; rfl
  | k + 1 => pf_13 _ _ _ _
theorem gb_ne (V : Vw) (M : Nat → Nat → Int32) (D : Nat → Nat) {c : Nat} (h1 : c ≠ 23) (h2 : c ≠ 29) (h3 : c ≠ 30) : ∀ k, gb V M D k c = M c
  | 0 => by unfold gb gb0; rw [w_ne h1, w_ne h1, w_ne h1, sI_ne h2]
  | k + 1 => (pf_ne _ _ _ _ h1 h2 h3).trans (gb_ne V M D h1 h2 h3 k)
theorem gb_30 (V : Vw) (M : Nat → Nat → Int32) (D : Nat → Nat) : ∀ k, (∀ j, j < k → M 30 j = iI (D j)) → gb V M D k 30 = M 30
  | 0, _ => by unfold gb gb0; rw [w_ne (by omega), w_ne (by omega), w_ne (by omega), sI_ne (by omega)]
  | k + 1, h => by
    show pf (V.run D k) (gb V M D k) k (D k) 30 = M 30
    rw [pf_30, gb_30 V M D k (fun j hj => h j (by omega))]
    funext j
    unfold upd
    by_cases q : j = k
    · subst q; rw [if_pos rfl, h j (by omega)]
    · rw [if_neg q]
section ZR
variable (M : Nat → Nat → Int32) (L : Nat → Nat → Int64)
theorem s_57 (V : Vw) (hk : Vk V) (h0 : V.day = 0) (ht : V.tset = 0) (hs : Hs V M) (D : Nat → Nat) (n : Nat) (hn : n ≤ 40) (hd2 : ∀ k, k < n → dOk V.n (D k)) (h30 : ∀ k, k < n → M 30 k = iI (D k)) : zc 5 57 [.ref 23, .int (iI n)] M L none (gb V M D n) L := by
  refine zc_of (n := 4) (ls := [some (.ref 23), some (.int (iI n)), none]) mk_57 rfl rfl rfl rfl (fun d hd N xs => ?_)
  rw [b_57_0]
  have l1 := upto (fun k : Nat => zz_X (zz_call_ d) tb_57 1 [some (.ref 23), some (.int (iI n)), some (.int (iI k))] [] (zm N xs (sI M 29 (M 26) k) L)) 6 (fun k hk6 => by
    show zz_X (zz_call_ d) tb_57 1 _ _ _ = zz_X (zz_call_ d) tb_57 1 _ _ _
    rw [b_57_1, iI_lit, if_neg (by rw [t_le, iI_to (by omega) (by omega), iI_to (by omega) (by omega)]; omega), ix_nat (by omega) (by omega), o_some, o_some, sI_ne (by omega : (26 : Nat) ≠ 29), sI_s, iI_lit, iI_add]
    rfl)
  simp only [sI_0] at l1
  refine l1.trans ?_
  rw [b_57_1, iI_lit, if_pos (by rw [t_le, iI_to (by omega) (by omega), iI_to (by omega) (by omega)]; omega), b_57_2]
  have l2 := upto (fun k : Nat => zz_X (zz_call_ d) tb_57 3 [some (.ref 23), some (.int (iI n)), some (.int (iI k))] [] (zm N xs (gb V M D k) L)) n (fun k hkn => by
    show zz_X (zz_call_ d) tb_57 3 _ _ _ = zz_X (zz_call_ d) tb_57 3 _ _ _
    have hvk := gb_h hk h0 ht hs k (by omega) (fun j hj => hd2 j (by omega))
    have hkk := run_k (D := D) hk h0 k (by omega) (fun j hj => hd2 j (by omega))
    rw [b_57_3, if_neg (by rw [t_le, iI_to (by omega) (by omega), iI_to (by omega) (by omega)]; omega), iI_lit, if_neg (by rw [t_le, iI_to (by omega) (by omega), iI_to (by omega) (by omega)]; omega), ix_nat (by omega) (by omega), o_some, gb_30 V M D k (fun j hj => h30 j (by omega)), h30 k hkn, g_55 _ L (V.run D k) hkk hvk k (D k) (by omega) (gb_13 V M D k) (by rw [run_n]; exact hd2 k hkn) (by omega), b_57_4, iI_lit, iI_add]
    rfl)
  refine Eq.trans l2 ?_
  show zz_X (zz_call_ d) tb_57 3 _ _ _ = _
  rw [b_57_3, if_pos (by rw [t_le]; omega), b_57_5]
theorem g_57 (V : Vw) (hk : Vk V) (h0 : V.day = 0) (ht : V.tset = 0) (hs : Hs V M) (D : Nat → Nat) (n : Nat) (hn : n ≤ 40) (hd2 : ∀ k, k < n → dOk V.n (D k)) (h30 : ∀ k, k < n → M 30 k = iI (D k)) {d N : Nat} {xs : Nat → Int32} {tb_ : List zz_B} {t_ : Nat} {ls_ : zz_L} {rest_ : List Value} (hd_ : 5 ≤ d) : (zz_o (zz_call_ d 57 [.ref 23, .int (iI n)] (zm N xs M L)) fun r => zz_X (zz_call_ d) tb_ t_ ls_ (r.1.toList ++ rest_) r.2) = zz_X (zz_call_ d) tb_ t_ ls_ rest_ (zm N xs (gb V M D n) L) := (s_57 M L V hk h0 ht hs D n hn hd2 h30).gov hd_
theorem s_60 (j : Nat) (hj : j < 3) : zc 1 60 [.ref 23, .int (iI j)] M L none (zz_wI (sI M (32 + j) (M 30) 40) 35 j (M 23 13)) L := by
  refine zc_of (n := 0) (ls := [some (.ref 23), some (.int (iI j)), none]) mk_60 rfl rfl rfl rfl (fun d hd N xs => ?_)
  rw [b_60_0, iI_lit, if_neg (by rw [t_lt, iI_to (by omega) (by omega), iI_to (by omega) (by omega)]; omega), iI_lit, if_pos (by rw [t_lt, iI_to (by omega) (by omega), iI_to (by omega) (by omega)]; omega), b_60_2]
  have l1 := upto (fun k : Nat => zz_X (zz_call_ d) tb_60 3 [some (.ref 23), some (.int (iI j)), some (.int (iI k))] [] (zm N xs (sI M (32 + j) (M 30) k) L)) 40 (fun k hk6 => by
    show zz_X (zz_call_ d) tb_60 3 _ _ _ = zz_X (zz_call_ d) tb_60 3 _ _ _
    rw [b_60_3, iI_lit, if_neg (by rw [t_le, iI_to (by omega) (by omega), iI_to (by omega) (by omega)]; omega), ix_nat (by omega) (by omega), o_some, row3 hj, o_some, o_some, b_60_4, ix_nat (by omega) (by omega), o_some, o_some, sI_ne (by omega : (30 : Nat) ≠ 32 + j), sI_s, iI_lit, iI_add]
    · rfl
    · omega)
  simp only [sI_0] at l1
  refine l1.trans ?_
  rw [b_60_3, iI_lit, if_pos (by rw [t_le, iI_to (by omega) (by omega), iI_to (by omega) (by omega)]; omega), b_60_5, ix_nat (by omega) (by omega), o_some, sI_ne (by omega : (23 : Nat) ≠ 32 + j)]
theorem g_60 (j : Nat) (hj : j < 3) {d N : Nat} {xs : Nat → Int32} {tb_ : List zz_B} {t_ : Nat} {ls_ : zz_L} {rest_ : List Value} (hd_ : 1 ≤ d) : (zz_o (zz_call_ d 60 [.ref 23, .int (iI j)] (zm N xs M L)) fun r => zz_X (zz_call_ d) tb_ t_ ls_ (r.1.toList ++ rest_) r.2) = zz_X (zz_call_ d) tb_ t_ ls_ rest_ (zm N xs (zz_wI (sI M (32 + j) (M 30) 40) 35 j (M 23 13)) L) := (s_60 M L j hj).gov hd_
theorem s_61 (V : Vw) (hk : Vk V) (h0 : V.day = 0) (ht : V.tset = 0) (hs : Hs V M) (D : Nat → Nat) (n : Nat) (hn : n ≤ 40) (hd2 : ∀ k, k < n → dOk V.n (D k)) (j : Nat) (hj : j < 3) (h35 : M 35 j = iI n) (hkp : ∀ k, k < n → M (32 + j) k = iI (D k)) : zc 6 61 [.ref 23, .int (iI j)] M L none (gb V (sI M 30 (M (32 + j)) 40) D n) L := by
  refine zc_of (n := 5) (ls := [some (.ref 23), some (.int (iI j)), none]) mk_61 rfl rfl rfl rfl (fun d hd N xs => ?_)
  rw [b_61_0, g_58 M L j hj (by omega), b_61_1, h35, iI_lit 0, if_pos (by rw [t_le, show (iI (OfNat.ofNat 0)).toInt = 0 from rfl, iI_to (by omega) (by omega)]; omega), b_61_2]
  have l1 := upto (fun k : Nat => zz_X (zz_call_ d) tb_61 3 [some (.ref 23), some (.int (iI j)), some (.int (iI k))] [] (zm N xs (sI M 30 (M (32 + j)) k) L)) 40 (fun k hk6 => by
    show zz_X (zz_call_ d) tb_61 3 _ _ _ = zz_X (zz_call_ d) tb_61 3 _ _ _
    rw [b_61_3, iI_lit, if_neg (by rw [t_le, iI_to (by omega) (by omega), iI_to (by omega) (by omega)]; omega), ix_nat (by omega) (by omega), o_some, row3 hj, o_some, o_some, b_61_4, ix_nat (by omega) (by omega), o_some, o_some, sI_ne (by omega : 32 + j ≠ 30), sI_s, iI_lit, iI_add]
    · rfl
    · omega)
  simp only [sI_0] at l1
  refine l1.trans ?_
  have hs2 : Hs V (sI M 30 (M (32 + j)) 40) := by
    unfold Hs
    rw [sI_ne (by omega : (23 : Nat) ≠ 30), sI_ne (by omega : (24 : Nat) ≠ 30), sI_ne (by omega : (25 : Nat) ≠ 30), sI_ne (by omega : (27 : Nat) ≠ 30), sI_ne (by omega : (28 : Nat) ≠ 30), sI_ne (by omega : (26 : Nat) ≠ 30)]
    exact hs
  rw [b_61_3, iI_lit, if_pos (by rw [t_le, iI_to (by omega) (by omega), iI_to (by omega) (by omega)]; omega), b_61_5, ix_nat (by omega) (by omega), o_some, sI_ne (by omega : (35 : Nat) ≠ 30), h35, g_57 _ L V hk h0 ht hs2 D n hn hd2 (fun k hk => by rw [sI_in (by omega)]; exact hkp k hk) (by omega), b_61_6]
theorem g_61 (V : Vw) (hk : Vk V) (h0 : V.day = 0) (ht : V.tset = 0) (hs : Hs V M) (D : Nat → Nat) (n : Nat) (hn : n ≤ 40) (hd2 : ∀ k, k < n → dOk V.n (D k)) (j : Nat) (hj : j < 3) (h35 : M 35 j = iI n) (hkp : ∀ k, k < n → M (32 + j) k = iI (D k)) {d N : Nat} {xs : Nat → Int32} {tb_ : List zz_B} {t_ : Nat} {ls_ : zz_L} {rest_ : List Value} (hd_ : 6 ≤ d) : (zz_o (zz_call_ d 61 [.ref 23, .int (iI j)] (zm N xs M L)) fun r => zz_X (zz_call_ d) tb_ t_ ls_ (r.1.toList ++ rest_) r.2) = zz_X (zz_call_ d) tb_ t_ ls_ rest_ (zm N xs (gb V (sI M 30 (M (32 + j)) 40) D n) L) := (s_61 M L V hk h0 ht hs D n hn hd2 j hj h35 hkp).gov hd_
theorem s_51 (m n : Nat) (h13 : M 23 13 = iI m) (hm : m ≤ 40) (hn : n ≤ 40) : zc 1 51 [.ref 23, .int (iI n)] M L (some (.int (b2 (m + n ≤ 40)))) M L := by
  refine zc_of (n := 0) (ls := [some (.ref 23), some (.int (iI n))]) mk_51 rfl rfl rfl rfl (fun d hd N xs => ?_)
  rw [b_51_0, h13, iI_lit, iI_add]
  by_cases q : m + n ≤ 40
  · rw [if_neg (by rw [t_lt, iI_to (by omega) (by omega), iI_to (by omega) (by omega)]; omega), b2_t q, b_51_2, if_pos (Or.inr rfl)]
    rfl
  · rw [if_pos (by rw [t_lt, iI_to (by omega) (by omega), iI_to (by omega) (by omega)]; omega), b2_f q, b_51_1, b_51_2, if_pos (Or.inl rfl)]
    rfl
theorem g_51 (m n : Nat) (h13 : M 23 13 = iI m) (hm : m ≤ 40) (hn : n ≤ 40) {d N : Nat} {xs : Nat → Int32} {tb_ : List zz_B} {t_ : Nat} {ls_ : zz_L} {rest_ : List Value} (hd_ : 1 ≤ d) : (zz_o (zz_call_ d 51 [.ref 23, .int (iI n)] (zm N xs M L)) fun r => zz_X (zz_call_ d) tb_ t_ ls_ (r.1.toList ++ rest_) r.2) = zz_X (zz_call_ d) tb_ t_ ls_ ((.int (b2 (m + n ≤ 40))) :: rest_) (zm N xs M L) := (s_51 M L m n h13 hm hn).go hd_
end ZR

/-! What House tells. -/
def isK (o k : Nat) : Prop := o = k ∨ k = 0 ∨ (k = 1 ∧ o = 4) ∨ (k = 2 ∧ o = 5)
abbrev isKd (o k : Nat) : Prop := o = k ∨ k = 0 ∨ (k = 1 ∧ o = 4) ∨ (k = 2 ∧ o = 5)
theorem is_bit : ∀ o, o < 6 → ∀ k, k < 6 → ((((zst3 o) >>> (iI (k : Nat) &&& 31)) &&& 1 = 1) ↔ isKd o k) := by decide
def Vw.part (V : Vw) (i : Nat) : Nat → Int
  | 0 => V.kind i
  | 1 => V.minute i
  | 2 => V.rate i
  | 3 => V.floor i
  | 4 => span (V.kind i)
  | _ => V.tou i
theorem gn_0 (k : Nat) (r : Int) : gn k r 0 0 = 0 := by
  unfold gn
  split <;> simp
theorem mod60 {a : Int} (h1 : 0 ≤ a) (h2 : a < 60) : a % 60 = a := Int.emod_eq_of_lt h1 h2
theorem heatAt_hc {V : Vw} (d : Nat) : V.heatAt (d + V.hc) = V.heatAt d := by
  unfold Vw.heatAt
  simp
theorem warm_add (V : Vw) (m : Nat) : ∀ n, V.warm (m * V.hc + n) = V.warm (m * V.hc) + V.warm n
  | 0 => by simp [Vw.warm]
  | n + 1 => by
    rw [← Nat.add_assoc]
    show V.warm (m * V.hc + n) + V.heatAt (V.day + (m * V.hc + n)) = V.warm (m * V.hc) + (V.warm n + V.heatAt (V.day + n))
    have e : ∀ m, V.heatAt (V.day + (m * V.hc + n)) = V.heatAt (V.day + n) := by
      intro m
      induction m with
      | zero => simp
      | succ m ih => rw [← ih, ← heatAt_hc (V.day + (m * V.hc + n)), Nat.succ_mul]; congr 1; omega
    rw [warm_add V m n, e]
    omega
theorem warm_mul (V : Vw) : ∀ m : Nat, V.warm (m * V.hc) = m * V.warm V.hc
  | 0 => by simp [Vw.warm]
  | m + 1 => by
    rw [Nat.succ_mul, warm_add, warm_mul V m, show ((m + 1 : Nat) : Int) = (m : Int) + 1 by omega, Int.add_mul]
    omega
theorem warm_div (V : Vw) (n : Nat) : V.warm n = (n / V.hc : Nat) * V.warm V.hc + V.warm (n % V.hc) := by
  have h : n = (n / V.hc) * V.hc + n % V.hc := by rw [Nat.mul_comm]; exact (Nat.div_add_mod n V.hc).symm
  conv => lhs; rw [h]
  rw [warm_add, warm_mul]
section ZR
variable (M : Nat → Nat → Int32) (L : Nat → Nat → Int64)
theorem s_155 (x k : Nat) (hx : x < 2 ^ 60) (hk : k < 60) : zc 1 155 [.long (lI x), .int (iI k)] M L (some (.long (lI (tn x k)))) M L := by
  refine zc_of (n := 0) (ls := [some (.long (lI x)), none, some (.int (iI k))]) mk_155 rfl rfl rfl rfl (fun d hd N xs => ?_)
  rw [b_155_0, lN_turn hx hk]
theorem g_155 (x k : Nat) (hx : x < 2 ^ 60) (hk : k < 60) {d N : Nat} {xs : Nat → Int32} {tb_ : List zz_B} {t_ : Nat} {ls_ : zz_L} {rest_ : List Value} (hd_ : 1 ≤ d) : (zz_o (zz_call_ d 155 [.long (lI x), .int (iI k)] (zm N xs M L)) fun r => zz_X (zz_call_ d) tb_ t_ ls_ (r.1.toList ++ rest_) r.2) = zz_X (zz_call_ d) tb_ t_ ls_ ((.long (lI (tn x k))) :: rest_) (zm N xs M L) := (s_155 M L x k hx hk).go hd_
theorem s_154 (a s : Nat) (ha : a < 60) (hs : s ≤ 9) : zc 2 154 [.int (iI a), .int (iI s)] M L (some (.long (lI (rg a s)))) M L := by
  refine zc_of (n := 1) (ls := [some (.int (iI a)), some (.int (iI s))]) mk_154 rfl rfl rfl rfl (fun d hd N xs => ?_)
  have e : (2 : Nat) ^ s ≤ 2 ^ 9 := Nat.pow_le_pow_right (by omega) hs
  have e1 := Nat.two_pow_pos s
  have e0 : ((1 : Int64) <<< ((iI s).toInt64 &&& 63)) - 1 = lI (2 ^ s - 1 : Nat) := by
    rw [k63 s (by omega), lN_shl1 (by omega), lI_lit, lI_sub, Nat.one_shiftLeft]
    congr 1
    omega
  rw [b_154_0, e0, g_155 M L (2 ^ s - 1) a (by omega) ha (by omega), b_154_1]
  rfl
theorem g_154 (a s : Nat) (ha : a < 60) (hs : s ≤ 9) {d N : Nat} {xs : Nat → Int32} {tb_ : List zz_B} {t_ : Nat} {ls_ : zz_L} {rest_ : List Value} (hd_ : 2 ≤ d) : (zz_o (zz_call_ d 154 [.int (iI a), .int (iI s)] (zm N xs M L)) fun r => zz_X (zz_call_ d) tb_ t_ ls_ (r.1.toList ++ rest_) r.2) = zz_X (zz_call_ d) tb_ t_ ls_ ((.long (lI (rg a s))) :: rest_) (zm N xs M L) := (s_154 M L a s ha hs).go hd_
theorem s_156 (k : Nat) (r n w : Int) (hk : k < 6) : zc 1 156 [.int (iI k), .int (iI r), .int (iI n), .int (iI w)] M L (some (.int (iI (gn k r n w)))) M L := by
  refine zc_of (n := 0) (ls := [some (.int (iI k)), some (.int (iI r)), some (.int (iI n)), some (.int (iI w))]) mk_156 rfl rfl rfl rfl (fun d hd N xs => ?_)
  have e : gn k r n w = if k = 3 then 0 else n * r + sgn k * w := rfl
  simp (disch := omega) only [b_156_0, b_156_1, b_156_2, ix_nat, zst2_sgn, iI_lit, iI_neg, iI_add, iI_sub, iI_mul, t_lt, t_le, t_eq, iI_to, b2_to, if_10, if_11, nor_em, Decidable.not_not, Int.reduceEq, Int.reduceLT, Int.reduceLE, Int.reduceAdd, Int.reduceSub, Int.reduceMul, Int.reduceNeg, reduceIte, or_true, true_or, or_false, false_or, o_some]
  rw [e]
  by_cases q : k = 3
  · rw [if_pos (by omega), if_pos q]
  · rw [if_neg (by omega), if_neg (by omega), if_pos (by omega), if_neg q]
theorem g_156 (k : Nat) (r n w : Int) (hk : k < 6) {d N : Nat} {xs : Nat → Int32} {tb_ : List zz_B} {t_ : Nat} {ls_ : zz_L} {rest_ : List Value} (hd_ : 1 ≤ d) : (zz_o (zz_call_ d 156 [.int (iI k), .int (iI r), .int (iI n), .int (iI w)] (zm N xs M L)) fun r => zz_X (zz_call_ d) tb_ t_ ls_ (r.1.toList ++ rest_) r.2) = zz_X (zz_call_ d) tb_ t_ ls_ ((.int (iI (gn k r n w))) :: rest_) (zm N xs M L) := (s_156 M L k r n w hk).go hd_
theorem s_31 (V : Vw) (hk : Vk V) (hv : Hv V M) (z : Int) (h1 : -2147483648 ≤ z) (h2 : z ≤ 2147483647) : zc 1 31 [.ref 23, .int (iI z)] M L (some (.int (b2 (0 ≤ z ∧ z < V.n)))) M L := by
  refine zc_of (n := 0) (ls := [some (.ref 23), some (.int (iI z))]) mk_31 rfl rfl rfl rfl (fun d hd N xs => ?_)
  have hn := hk.n
  simp (disch := omega) only [b_31_0, b_31_1, b_31_2, hv.n, iI_lit, iI_neg, iI_add, iI_sub, iI_mul, t_lt, t_le, t_eq, iI_to, b2_to, if_10, if_11, nor_em, Decidable.not_not, Int.reduceEq, Int.reduceLT, Int.reduceLE, Int.reduceAdd, Int.reduceSub, Int.reduceMul, Int.reduceNeg, reduceIte, or_true, true_or, or_false, false_or, o_some]
  unfold b2
  repeat' split
  all_goals first | rfl | (exfalso; omega)
theorem g_31 (V : Vw) (hk : Vk V) (hv : Hv V M) (z : Int) (h1 : -2147483648 ≤ z) (h2 : z ≤ 2147483647) {d N : Nat} {xs : Nat → Int32} {tb_ : List zz_B} {t_ : Nat} {ls_ : zz_L} {rest_ : List Value} (hd_ : 1 ≤ d) : (zz_o (zz_call_ d 31 [.ref 23, .int (iI z)] (zm N xs M L)) fun r => zz_X (zz_call_ d) tb_ t_ ls_ (r.1.toList ++ rest_) r.2) = zz_X (zz_call_ d) tb_ t_ ls_ ((.int (b2 (0 ≤ z ∧ z < V.n))) :: rest_) (zm N xs M L) := (s_31 M L V hk hv z h1 h2).go hd_
theorem s_32 (V : Vw) (hk : Vk V) (hv : Hv V M) (z y : Int) (h1 : -2147483648 ≤ z) (h2 : z ≤ 2147483647) (h3 : -2147483648 ≤ y) (h4 : y ≤ 2147483647) : zc 2 32 [.ref 23, .int (iI z), .int (iI y)] M L (some (.int (b2 ((0 ≤ z ∧ z < V.n) ∧ (0 ≤ y ∧ y < V.n) ∧ z ≠ y)))) M L := by
  refine zc_of (n := 1) (ls := [some (.ref 23), some (.int (iI z)), some (.int (iI y))]) mk_32 rfl rfl rfl rfl (fun d hd N xs => ?_)
  have hn := hk.n
  simp (disch := first | omega | assumption) only [b_32_0, b_32_1, b_32_2, b_32_3, b_32_4, g_31 M L V hk hv, iI_lit, iI_neg, iI_add, iI_sub, iI_mul, t_lt, t_le, t_eq, iI_to, b2_to, if_10, if_11, nor_em, Decidable.not_not, Int.reduceEq, Int.reduceLT, Int.reduceLE, Int.reduceAdd, Int.reduceSub, Int.reduceMul, Int.reduceNeg, reduceIte, or_true, true_or, or_false, false_or, o_some]
  unfold b2
  repeat' split
  all_goals first | rfl | (exfalso; omega)
theorem g_32 (V : Vw) (hk : Vk V) (hv : Hv V M) (z y : Int) (h1 : -2147483648 ≤ z) (h2 : z ≤ 2147483647) (h3 : -2147483648 ≤ y) (h4 : y ≤ 2147483647) {d N : Nat} {xs : Nat → Int32} {tb_ : List zz_B} {t_ : Nat} {ls_ : zz_L} {rest_ : List Value} (hd_ : 2 ≤ d) : (zz_o (zz_call_ d 32 [.ref 23, .int (iI z), .int (iI y)] (zm N xs M L)) fun r => zz_X (zz_call_ d) tb_ t_ ls_ (r.1.toList ++ rest_) r.2) = zz_X (zz_call_ d) tb_ t_ ls_ ((.int (b2 ((0 ≤ z ∧ z < V.n) ∧ (0 ≤ y ∧ y < V.n) ∧ z ≠ y))) :: rest_) (zm N xs M L) := (s_32 M L V hk hv z y h1 h2 h3 h4).go hd_
theorem s_33 (V : Vw) (hk : Vk V) (hv : Hv V M) (i k : Nat) (h1 : i < V.n) (h2 : k < 6) : zc 2 33 [.ref 23, .int (iI i), .int (iI k)] M L (some (.int (b2 (isKd (V.kind i) k)))) M L := by
  refine zc_of (n := 1) (ls := [some (.ref 23), some (.int (iI i)), some (.int (iI k))]) mk_33 rfl rfl rfl rfl (fun d hd N xs => ?_)
  have hn := hk.n
  have hki := hk.kind i
  have e := is_bit (V.kind i) hki k h2
  rw [b_33_0, g_31 M L V hk hv i (by omega) (by omega) (by omega), b2_t (by omega), b_33_1, iI_lit 0, if_neg iI10, ix_nat (by omega) (by omega), o_some, hv.kind i h1, g_152 M L _ (by omega) (by omega) (by omega), b2_t (by omega), b_33_2, iI_lit 0, if_neg iI10, g_152 M L _ (by omega) (by omega) (by omega), b2_t (by omega), b_33_3, iI_lit 0, if_neg iI10, ix_nat (by omega) (by omega), o_some, hv.kind i h1, ix_nat hki (by omega), o_some]
  by_cases q : isKd (V.kind i) k
  · rw [if_pos (e.2 q), b2_t q, b_33_5, if_pos (Or.inr rfl)]
    rfl
  · rw [if_neg (fun h => q (e.1 h)), b2_f q, b_33_4, b_33_5, if_pos (Or.inl rfl)]
    rfl
theorem g_33 (V : Vw) (hk : Vk V) (hv : Hv V M) (i k : Nat) (h1 : i < V.n) (h2 : k < 6) {d N : Nat} {xs : Nat → Int32} {tb_ : List zz_B} {t_ : Nat} {ls_ : zz_L} {rest_ : List Value} (hd_ : 2 ≤ d) : (zz_o (zz_call_ d 33 [.ref 23, .int (iI i), .int (iI k)] (zm N xs M L)) fun r => zz_X (zz_call_ d) tb_ t_ ls_ (r.1.toList ++ rest_) r.2) = zz_X (zz_call_ d) tb_ t_ ls_ ((.int (b2 (isKd (V.kind i) k))) :: rest_) (zm N xs M L) := (s_33 M L V hk hv i k h1 h2).go hd_
theorem s_34 (V : Vw) (hk : Vk V) (hv : Hv V M) (i : Nat) (h1 : i < V.n) : zc 2 34 [.ref 23, .int (iI i)] M L (some (.int (iI (V.kind i)))) M L := by
  refine zc_of (n := 1) (ls := [some (.ref 23), some (.int (iI i))]) mk_34 rfl rfl rfl rfl (fun d hd N xs => ?_)
  have hn := hk.n
  simp (disch := first | omega | assumption) only [b_34_0, b_34_1, b_34_2, b_34_3, g_31 M L V hk hv, b2_t (show (0 : Int) ≤ i ∧ (i : Int) < V.n by omega), ix_nat, hv.kind, iI_lit, iI_neg, iI_add, iI_sub, iI_mul, t_lt, t_le, t_eq, iI_to, b2_to, if_10, if_11, nor_em, Decidable.not_not, Int.reduceEq, Int.reduceLT, Int.reduceLE, Int.reduceAdd, Int.reduceSub, Int.reduceMul, Int.reduceNeg, reduceIte, or_true, true_or, or_false, false_or, o_some]
theorem g_34 (V : Vw) (hk : Vk V) (hv : Hv V M) (i : Nat) (h1 : i < V.n) {d N : Nat} {xs : Nat → Int32} {tb_ : List zz_B} {t_ : Nat} {ls_ : zz_L} {rest_ : List Value} (hd_ : 2 ≤ d) : (zz_o (zz_call_ d 34 [.ref 23, .int (iI i)] (zm N xs M L)) fun r => zz_X (zz_call_ d) tb_ t_ ls_ (r.1.toList ++ rest_) r.2) = zz_X (zz_call_ d) tb_ t_ ls_ ((.int (iI (V.kind i))) :: rest_) (zm N xs M L) := (s_34 M L V hk hv i h1).go hd_
theorem s_35 (V : Vw) (hk : Vk V) (hv : Hv V M) (i : Nat) (h1 : i < V.n) : zc 2 35 [.ref 23, .int (iI i)] M L (some (.int (iI (V.rate i)))) M L := by
  refine zc_of (n := 1) (ls := [some (.ref 23), some (.int (iI i))]) mk_35 rfl rfl rfl rfl (fun d hd N xs => ?_)
  have hn := hk.n
  simp (disch := first | omega | assumption) only [b_35_0, b_35_1, b_35_2, b_35_3, g_31 M L V hk hv, b2_t (show (0 : Int) ≤ i ∧ (i : Int) < V.n by omega), ix_nat, hv.rate, iI_lit, iI_neg, iI_add, iI_sub, iI_mul, t_lt, t_le, t_eq, iI_to, b2_to, if_10, if_11, nor_em, Decidable.not_not, Int.reduceEq, Int.reduceLT, Int.reduceLE, Int.reduceAdd, Int.reduceSub, Int.reduceMul, Int.reduceNeg, reduceIte, or_true, true_or, or_false, false_or, o_some]
theorem g_35 (V : Vw) (hk : Vk V) (hv : Hv V M) (i : Nat) (h1 : i < V.n) {d N : Nat} {xs : Nat → Int32} {tb_ : List zz_B} {t_ : Nat} {ls_ : zz_L} {rest_ : List Value} (hd_ : 2 ≤ d) : (zz_o (zz_call_ d 35 [.ref 23, .int (iI i)] (zm N xs M L)) fun r => zz_X (zz_call_ d) tb_ t_ ls_ (r.1.toList ++ rest_) r.2) = zz_X (zz_call_ d) tb_ t_ ls_ ((.int (iI (V.rate i))) :: rest_) (zm N xs M L) := (s_35 M L V hk hv i h1).go hd_
theorem s_36 (V : Vw) (hk : Vk V) (hv : Hv V M) (i : Nat) (h1 : i < V.n) : zc 2 36 [.ref 23, .int (iI i)] M L (some (.int (iI (V.floor i)))) M L := by
  refine zc_of (n := 1) (ls := [some (.ref 23), some (.int (iI i))]) mk_36 rfl rfl rfl rfl (fun d hd N xs => ?_)
  have hn := hk.n
  simp (disch := first | omega | assumption) only [b_36_0, b_36_1, b_36_2, b_36_3, g_31 M L V hk hv, b2_t (show (0 : Int) ≤ i ∧ (i : Int) < V.n by omega), ix_nat, hv.floor, iI_lit, iI_neg, iI_add, iI_sub, iI_mul, t_lt, t_le, t_eq, iI_to, b2_to, if_10, if_11, nor_em, Decidable.not_not, Int.reduceEq, Int.reduceLT, Int.reduceLE, Int.reduceAdd, Int.reduceSub, Int.reduceMul, Int.reduceNeg, reduceIte, or_true, true_or, or_false, false_or, o_some]
theorem g_36 (V : Vw) (hk : Vk V) (hv : Hv V M) (i : Nat) (h1 : i < V.n) {d N : Nat} {xs : Nat → Int32} {tb_ : List zz_B} {t_ : Nat} {ls_ : zz_L} {rest_ : List Value} (hd_ : 2 ≤ d) : (zz_o (zz_call_ d 36 [.ref 23, .int (iI i)] (zm N xs M L)) fun r => zz_X (zz_call_ d) tb_ t_ ls_ (r.1.toList ++ rest_) r.2) = zz_X (zz_call_ d) tb_ t_ ls_ ((.int (iI (V.floor i))) :: rest_) (zm N xs M L) := (s_36 M L V hk hv i h1).go hd_
theorem s_37 (V : Vw) (hk : Vk V) (hv : Hv V M) (i : Nat) (h1 : i < V.n) : zc 2 37 [.ref 23, .int (iI i)] M L (some (.int (iI (span (V.kind i))))) M L := by
  refine zc_of (n := 1) (ls := [some (.ref 23), some (.int (iI i))]) mk_37 rfl rfl rfl rfl (fun d hd N xs => ?_)
  have hn := hk.n
  have hki := hk.kind i
  simp (disch := first | omega | assumption) only [b_37_0, b_37_1, b_37_2, b_37_3, b_37_4, g_31 M L V hk hv, b2_t (show (0 : Int) ≤ i ∧ (i : Int) < V.n by omega), ix_nat, hv.kind, g_152, b2_t (show (0 : Int) ≤ V.kind i ∧ (V.kind i : Int) < 6 by omega), zst1_span, iI_lit, iI_neg, iI_add, iI_sub, iI_mul, t_lt, t_le, t_eq, iI_to, b2_to, if_10, if_11, nor_em, Decidable.not_not, Int.reduceEq, Int.reduceLT, Int.reduceLE, Int.reduceAdd, Int.reduceSub, Int.reduceMul, Int.reduceNeg, reduceIte, or_true, true_or, or_false, false_or, o_some]
theorem g_37 (V : Vw) (hk : Vk V) (hv : Hv V M) (i : Nat) (h1 : i < V.n) {d N : Nat} {xs : Nat → Int32} {tb_ : List zz_B} {t_ : Nat} {ls_ : zz_L} {rest_ : List Value} (hd_ : 2 ≤ d) : (zz_o (zz_call_ d 37 [.ref 23, .int (iI i)] (zm N xs M L)) fun r => zz_X (zz_call_ d) tb_ t_ ls_ (r.1.toList ++ rest_) r.2) = zz_X (zz_call_ d) tb_ t_ ls_ ((.int (iI (span (V.kind i)))) :: rest_) (zm N xs M L) := (s_37 M L V hk hv i h1).go hd_
theorem s_38 (V : Vw) (hk : Vk V) (hv : Hv V M) (i : Nat) (h1 : i < V.n) : zc 2 38 [.ref 23, .int (iI i)] M L (some (.int (b2 (V.tset.testBit i = true)))) M L := by
  refine zc_of (n := 1) (ls := [some (.ref 23), some (.int (iI i))]) mk_38 rfl rfl rfl rfl (fun d hd N xs => ?_)
  have hn := hk.n
  have ht := hk.tset
  have e0 : iI V.tset >>> (iI i &&& 31) &&& 1 = iI ((V.tset >>> i) &&& 1 : Nat) := by
    rw [iN_shr (by omega) (by omega), show (1 : Int32) = iI (1 : Nat) from rfl, iN_and _ (by omega)]
    exact Nat.lt_of_le_of_lt (Nat.shiftRight_le _ _) (by omega)
  have e1 : ((V.tset >>> i) &&& 1 : Nat) ≤ 1 := Nat.and_le_right
  have e2 := tb_iff V.tset i
  rw [b_38_0, g_31 M L V hk hv i (by omega) (by omega) (by omega), b2_t (by omega), b_38_1, iI_lit 0, if_neg iI10, hv.tset, e0]
  by_cases q : V.tset.testBit i = true
  · rw [if_pos (by rw [e2.2 q]; rfl), b2_t q, b_38_3, if_pos (Or.inr rfl)]
    rfl
  · rw [if_neg (by rw [show (1 : Int32) = iI (1 : Nat) from rfl, t_eq, iI_to (by omega) (by omega), iI_to (by omega) (by omega)]; intro h; exact q (e2.1 (by omega))), b2_f q, b_38_2, b_38_3, if_pos (Or.inl rfl)]
    rfl
theorem g_38 (V : Vw) (hk : Vk V) (hv : Hv V M) (i : Nat) (h1 : i < V.n) {d N : Nat} {xs : Nat → Int32} {tb_ : List zz_B} {t_ : Nat} {ls_ : zz_L} {rest_ : List Value} (hd_ : 2 ≤ d) : (zz_o (zz_call_ d 38 [.ref 23, .int (iI i)] (zm N xs M L)) fun r => zz_X (zz_call_ d) tb_ t_ ls_ (r.1.toList ++ rest_) r.2) = zz_X (zz_call_ d) tb_ t_ ls_ ((.int (b2 (V.tset.testBit i = true))) :: rest_) (zm N xs M L) := (s_38 M L V hk hv i h1).go hd_
theorem s_41 (V : Vw) (hk : Vk V) (hv : Hv V M) (k : Nat) (h : k ≤ 2000000000) : zc 1 41 [.ref 23, .int (iI k)] M L (some (.int (iI (V.heatAt k)))) M L := by
  refine zc_of (n := 0) (ls := [some (.ref 23), some (.int (iI k))]) mk_41 rfl rfl rfl rfl (fun d hd N xs => ?_)
  have hc := hk.hc
  simp (disch := omega) only [b_41_0, b_41_1, hv.hc, iI_lit, iI_neg, iI_add, iI_sub, iI_mul, t_lt, t_le, t_eq, iI_to, b2_to, if_10, if_11, nor_em, Decidable.not_not, Int.reduceEq, Int.reduceLT, Int.reduceLE, Int.reduceAdd, Int.reduceSub, Int.reduceMul, Int.reduceNeg, reduceIte, or_true, true_or, or_false, false_or, o_some]
  unfold Vw.heatAt
  by_cases q : V.hc = 0
  · rw [if_pos q, if_neg (by omega), if_pos (by omega)]
  · rw [if_neg q, if_neg (by omega), if_neg (by omega), if_pos (by omega), b_41_2, hv.hc, iI_rem (by omega) (by omega) (by omega) (by omega), iI_lit, if_neg (by rw [t_eq, iI_to (by omega) (by omega), iI_to (by omega) (by omega)]; omega), show (k : Int).tmod V.hc = (k % V.hc : Nat) from rfl]
    have hm : k % V.hc < V.hc := Nat.mod_lt _ (by omega)
    rw [ix_nat (by omega) (by omega), o_some, hv.heat _ hm]
theorem g_41 (V : Vw) (hk : Vk V) (hv : Hv V M) (k : Nat) (h : k ≤ 2000000000) {d N : Nat} {xs : Nat → Int32} {tb_ : List zz_B} {t_ : Nat} {ls_ : zz_L} {rest_ : List Value} (hd_ : 1 ≤ d) : (zz_o (zz_call_ d 41 [.ref 23, .int (iI k)] (zm N xs M L)) fun r => zz_X (zz_call_ d) tb_ t_ ls_ (r.1.toList ++ rest_) r.2) = zz_X (zz_call_ d) tb_ t_ ls_ ((.int (iI (V.heatAt k))) :: rest_) (zm N xs M L) := (s_41 M L V hk hv k h).go hd_
theorem s_42 (V : Vw) (hk : Vk V) (hv : Hv V M) (k : Nat) (h : k ≤ 1000000) : zc 2 42 [.ref 23, .int (iI k)] M L (some (.int (iI (V.heatAt (V.day + k))))) M L := by
  refine zc_of (n := 1) (ls := [some (.ref 23), some (.int (iI k))]) mk_42 rfl rfl rfl rfl (fun d hd N xs => ?_)
  have hday := hk.day
  rw [b_42_0, hv.day, iI_add, show (V.day : Int) + (k : Int) = ((V.day + k : Nat) : Int) by omega, g_41 M L V hk hv (V.day + k) (by omega) (by omega), b_42_1]
theorem g_42 (V : Vw) (hk : Vk V) (hv : Hv V M) (k : Nat) (h : k ≤ 1000000) {d N : Nat} {xs : Nat → Int32} {tb_ : List zz_B} {t_ : Nat} {ls_ : zz_L} {rest_ : List Value} (hd_ : 2 ≤ d) : (zz_o (zz_call_ d 42 [.ref 23, .int (iI k)] (zm N xs M L)) fun r => zz_X (zz_call_ d) tb_ t_ ls_ (r.1.toList ++ rest_) r.2) = zz_X (zz_call_ d) tb_ t_ ls_ ((.int (iI (V.heatAt (V.day + k)))) :: rest_) (zm N xs M L) := (s_42 M L V hk hv k h).go hd_
theorem s_43 (V : Vw) (hk : Vk V) (hv : Hv V M) (n : Nat) (h : n ≤ 1000) : zc 3 43 [.ref 23, .int (iI n)] M L (some (.int (iI (V.warm n)))) M L := by
  refine zc_of (n := 2) (ls := [some (.ref 23), some (.int (iI n)), none, none, none]) mk_43 rfl rfl rfl rfl (fun d hd N xs => ?_)
  have hc := hk.hc
  simp (disch := omega) only [b_43_0, b_43_1, hv.hc, iI_lit, iI_neg, iI_add, iI_sub, iI_mul, t_lt, t_le, t_eq, iI_to, b2_to, if_10, if_11, nor_em, Decidable.not_not, Int.reduceEq, Int.reduceLT, Int.reduceLE, Int.reduceAdd, Int.reduceSub, Int.reduceMul, Int.reduceNeg, reduceIte, or_true, true_or, or_false, false_or, o_some]
  by_cases q : V.hc = 0
  · rw [if_neg (by omega)]
    have : ∀ n, V.warm n = 0 := by
      intro n
      induction n with
      | zero => rfl
      | succ n ih =>
        show V.warm n + V.heatAt _ = 0
        rw [ih]
        unfold Vw.heatAt
        rw [if_pos q]
        rfl
    rw [this]
  · rw [if_pos (by omega)]
    have hm : n % V.hc < V.hc := Nat.mod_lt _ (by omega)
    have hl := upto (fun k : Nat => zz_X (zz_call_ d) tb_43 2 [some (.ref 23), some (.int (iI n)), some (.int (iI (V.warm k))), some (.int (iI (V.warm (min k (n % V.hc))))), some (.int (iI k))] [] (zm N xs M L)) V.hc (fun k hkc => by
      show zz_X (zz_call_ d) tb_43 2 _ _ _ = zz_X (zz_call_ d) tb_43 2 _ _ _
      rw [b_43_2, hv.hc, if_neg (by rw [t_le, iI_to (by omega) (by omega), iI_to (by omega) (by omega)]; omega), g_42 M L V hk hv k (by omega) (by omega), b_43_3, hv.hc, iI_lit, if_neg (by rw [t_eq, iI_to (by omega) (by omega), iI_to (by omega) (by omega)]; omega), iI_rem (by omega) (by omega) (by omega) (by omega), show (n : Int).tmod V.hc = (n % V.hc : Nat) from rfl]
      by_cases q2 : k < n % V.hc
      · rw [if_neg (by rw [t_le, iI_to (by omega) (by omega), iI_to (by omega) (by omega)]; omega), g_42 M L V hk hv k (by omega) (by omega), b_43_4, b_43_5, iI_add, iI_add, show min k (n % V.hc) = k by omega, show min (k + 1) (n % V.hc) = k + 1 by omega, iI_lit, iI_add]
        rfl
      · rw [if_pos (by rw [t_le, iI_to (by omega) (by omega), iI_to (by omega) (by omega)]; omega), b_43_5, iI_add, show min k (n % V.hc) = n % V.hc by omega, show min (k + 1) (n % V.hc) = n % V.hc by omega, iI_lit, iI_add]
        rfl)
    refine hl.trans ?_
    show zz_X (zz_call_ d) tb_43 2 _ _ _ = _
    rw [b_43_2, hv.hc, if_pos (by rw [t_le]; omega), b_43_6, hv.hc, iI_lit, if_neg (by rw [t_eq, iI_to (by omega) (by omega), iI_to (by omega) (by omega)]; omega), iI_div (by omega) (by omega) (by omega) (by omega), show (n : Int).tdiv V.hc = (n / V.hc : Nat) from rfl, iI_mul, iI_add, show min V.hc (n % V.hc) = n % V.hc by omega, ← warm_div]
theorem g_43 (V : Vw) (hk : Vk V) (hv : Hv V M) (n : Nat) (h : n ≤ 1000) {d N : Nat} {xs : Nat → Int32} {tb_ : List zz_B} {t_ : Nat} {ls_ : zz_L} {rest_ : List Value} (hd_ : 3 ≤ d) : (zz_o (zz_call_ d 43 [.ref 23, .int (iI n)] (zm N xs M L)) fun r => zz_X (zz_call_ d) tb_ t_ ls_ (r.1.toList ++ rest_) r.2) = zz_X (zz_call_ d) tb_ t_ ls_ ((.int (iI (V.warm n))) :: rest_) (zm N xs M L) := (s_43 M L V hk hv n h).go hd_
theorem s_44 (V : Vw) (hk : Vk V) (hv : Hv V M) (i : Nat) (n w : Int) (h1 : i < V.n) (h2 : 0 ≤ n) (h3 : n ≤ 1000) (h4 : 0 ≤ w) (h5 : w ≤ 3000) : zc 2 44 [.ref 23, .int (iI i), .int (iI n), .int (iI w)] M L (some (.int (iI ((V.minute i + gn (V.kind i) (V.rate i) n w) % 60)))) M L := by
  refine zc_of (n := 1) (ls := [some (.ref 23), some (.int (iI i)), some (.int (iI n)), some (.int (iI w))]) mk_44 rfl rfl rfl rfl (fun d hd N xs => ?_)
  have hn := hk.n
  have hm := hk.minute i
  have hg := @gn_b (V.kind i) (V.rate i) n w (hk.rate i) h2 h4
  simp (disch := first | omega | assumption | exact hk.kind i) only [b_44_0, b_44_1, b_44_2, b_44_3, b_44_4, g_31 M L V hk hv, b2_t (show (0 : Int) ≤ i ∧ (i : Int) < V.n by omega), ix_nat, hv.kind, hv.rate, hv.minute, g_156, g_153, iI_lit, iI_neg, iI_add, iI_sub, iI_mul, t_lt, t_le, t_eq, iI_to, b2_to, if_10, if_11, nor_em, Decidable.not_not, Int.reduceEq, Int.reduceLT, Int.reduceLE, Int.reduceAdd, Int.reduceSub, Int.reduceMul, Int.reduceNeg, reduceIte, or_true, true_or, or_false, false_or, o_some]
theorem g_44 (V : Vw) (hk : Vk V) (hv : Hv V M) (i : Nat) (n w : Int) (h1 : i < V.n) (h2 : 0 ≤ n) (h3 : n ≤ 1000) (h4 : 0 ≤ w) (h5 : w ≤ 3000) {d N : Nat} {xs : Nat → Int32} {tb_ : List zz_B} {t_ : Nat} {ls_ : zz_L} {rest_ : List Value} (hd_ : 2 ≤ d) : (zz_o (zz_call_ d 44 [.ref 23, .int (iI i), .int (iI n), .int (iI w)] (zm N xs M L)) fun r => zz_X (zz_call_ d) tb_ t_ ls_ (r.1.toList ++ rest_) r.2) = zz_X (zz_call_ d) tb_ t_ ls_ ((.int (iI ((V.minute i + gn (V.kind i) (V.rate i) n w) % 60))) :: rest_) (zm N xs M L) := (s_44 M L V hk hv i n w h1 h2 h3 h4 h5).go hd_
theorem s_45 (V : Vw) (hk : Vk V) (hv : Hv V M) (i : Nat) (n w : Int) (h1 : i < V.n) (h2 : 0 ≤ n) (h3 : n ≤ 1000) (h4 : 0 ≤ w) (h5 : w ≤ 3000) : zc 3 45 [.ref 23, .int (iI i), .int (iI n), .int (iI w)] M L (some (.long (lI (rg ((V.minute i + gn (V.kind i) (V.rate i) n w) % 60).toNat (span (V.kind i)))))) M L := by
  refine zc_of (n := 2) (ls := [some (.ref 23), some (.int (iI i)), some (.int (iI n)), some (.int (iI w))]) mk_45 rfl rfl rfl rfl (fun d hd N xs => ?_)
  have hs := span_b (V.kind i)
  rw [b_45_0, g_44 M L V hk hv i n w h1 h2 h3 h4 h5 (by omega), b_45_1, g_37 M L V hk hv i h1 (by omega), b_45_2]
  obtain ⟨a, ha⟩ : ∃ a : Nat, (V.minute i + gn (V.kind i) (V.rate i) n w) % 60 = a := ⟨((V.minute i + gn (V.kind i) (V.rate i) n w) % 60).toNat, by omega⟩
  rw [ha, g_154 M L _ _ (by omega) (by omega) (by omega), b_45_3]
  rfl
theorem g_45 (V : Vw) (hk : Vk V) (hv : Hv V M) (i : Nat) (n w : Int) (h1 : i < V.n) (h2 : 0 ≤ n) (h3 : n ≤ 1000) (h4 : 0 ≤ w) (h5 : w ≤ 3000) {d N : Nat} {xs : Nat → Int32} {tb_ : List zz_B} {t_ : Nat} {ls_ : zz_L} {rest_ : List Value} (hd_ : 3 ≤ d) : (zz_o (zz_call_ d 45 [.ref 23, .int (iI i), .int (iI n), .int (iI w)] (zm N xs M L)) fun r => zz_X (zz_call_ d) tb_ t_ ls_ (r.1.toList ++ rest_) r.2) = zz_X (zz_call_ d) tb_ t_ ls_ ((.long (lI (rg ((V.minute i + gn (V.kind i) (V.rate i) n w) % 60).toNat (span (V.kind i))))) :: rest_) (zm N xs M L) := (s_45 M L V hk hv i n w h1 h2 h3 h4 h5).go hd_
theorem s_46 (V : Vw) (hk : Vk V) (hv : Hv V M) (i j : Nat) (n w : Int) (h1 : i < V.n) (hj : j < V.n) (h2 : 0 ≤ n) (h3 : n ≤ 1000) (h4 : 0 ≤ w) (h5 : w ≤ 3000) : zc 4 46 [.ref 23, .int (iI i), .int (iI j), .int (iI n), .int (iI w)] M L (some (.int (b2 (met ((V.minute i + gn (V.kind i) (V.rate i) n w) % 60) (span (V.kind i)) ((V.minute j + gn (V.kind j) (V.rate j) n w) % 60) (span (V.kind j)))))) M L := by
  refine zc_of (n := 3) (ls := [some (.ref 23), some (.int (iI i)), some (.int (iI j)), some (.int (iI n)), some (.int (iI w))]) mk_46 rfl rfl rfl rfl (fun d hd N xs => ?_)
  have hs := span_b (V.kind i)
  have ht := span_b (V.kind j)
  rw [b_46_0, g_45 M L V hk hv i n w h1 h2 h3 h4 h5 (by omega), b_46_1, g_45 M L V hk hv j n w hj h2 h3 h4 h5 (by omega), b_46_2]
  have hx := tn_lt (2 ^ span (V.kind i) - 1) ((V.minute i + gn (V.kind i) (V.rate i) n w) % 60).toNat
  have hy := tn_lt (2 ^ span (V.kind j) - 1) ((V.minute j + gn (V.kind j) (V.rate j) n w) % 60).toNat
  rw [lN_and (by unfold rg; omega) (by unfold rg; omega), lI_lit, lg_lI (by omega) (by have := @Nat.and_le_left (rg ((V.minute i + gn (V.kind i) (V.rate i) n w) % 60).toNat (span (V.kind i))) (rg ((V.minute j + gn (V.kind j) (V.rate j) n w) % 60).toNat (span (V.kind j))); unfold rg at *; omega) (by omega) (by omega)]
  have e := met_bits (a := ((V.minute i + gn (V.kind i) (V.rate i) n w) % 60).toNat) (b := ((V.minute j + gn (V.kind j) (V.rate j) n w) % 60).toNat) (s := span (V.kind i)) (t := span (V.kind j)) (by omega) (by omega) (by omega) (by omega)
  rw [show (((V.minute i + gn (V.kind i) (V.rate i) n w) % 60).toNat : Int) = (V.minute i + gn (V.kind i) (V.rate i) n w) % 60 by omega, show (((V.minute j + gn (V.kind j) (V.rate j) n w) % 60).toNat : Int) = (V.minute j + gn (V.kind j) (V.rate j) n w) % 60 by omega] at e
  by_cases q : met ((V.minute i + gn (V.kind i) (V.rate i) n w) % 60) (span (V.kind i)) ((V.minute j + gn (V.kind j) (V.rate j) n w) % 60) (span (V.kind j))
  · rw [b2_t q, if_neg, b_46_4, if_pos (Or.inr rfl)]
    · rfl
    · have := e.2 q
      rw [if_pos (by omega)]
      decide
  · rw [b2_f q, if_pos, b_46_3, b_46_4, if_pos (Or.inl rfl)]
    · rfl
    · have := (not_congr e).2 q
      rw [if_neg (by omega), if_pos (by omega)]
theorem g_46 (V : Vw) (hk : Vk V) (hv : Hv V M) (i j : Nat) (n w : Int) (h1 : i < V.n) (hj : j < V.n) (h2 : 0 ≤ n) (h3 : n ≤ 1000) (h4 : 0 ≤ w) (h5 : w ≤ 3000) {d N : Nat} {xs : Nat → Int32} {tb_ : List zz_B} {t_ : Nat} {ls_ : zz_L} {rest_ : List Value} (hd_ : 4 ≤ d) : (zz_o (zz_call_ d 46 [.ref 23, .int (iI i), .int (iI j), .int (iI n), .int (iI w)] (zm N xs M L)) fun r => zz_X (zz_call_ d) tb_ t_ ls_ (r.1.toList ++ rest_) r.2) = zz_X (zz_call_ d) tb_ t_ ls_ ((.int (b2 (met ((V.minute i + gn (V.kind i) (V.rate i) n w) % 60) (span (V.kind i)) ((V.minute j + gn (V.kind j) (V.rate j) n w) % 60) (span (V.kind j))))) :: rest_) (zm N xs M L) := (s_46 M L V hk hv i j n w h1 hj h2 h3 h4 h5).go hd_
end ZR

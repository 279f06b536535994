/-! Shelf: what writes, and what goes over all. -/
/-- the first n places of a cell are x -/
def zfl (M : Nat → Nat → Int32) (a n : Nat) (x : Int32) : Nat → Nat → Int32 := zz_rI M a (fun j => if j < n then x else M a j)
theorem zfl_0 (M : Nat → Nat → Int32) (a : Nat) (x : Int32) : zfl M a 0 x = M := by
  funext b
  unfold zfl zz_rI
  split
  · rename_i h; subst h; funext j; simp
  · rfl
theorem zfl_s (M : Nat → Nat → Int32) (a n : Nat) (x : Int32) : zz_wI (zfl M a n x) a n x = zfl M a (n + 1) x := by
  funext b
  unfold zz_wI zfl zz_rI
  split
  · funext j
    simp only [if_true, upd]
    by_cases h : j = n
    · simp [h]
    · simp only [h, if_false]
      by_cases h2 : j < n
      · simp [h2, show j < n + 1 by omega]
      · simp [h2, show ¬ j < n + 1 by omega]
  · rfl
/-- the sum of the first n -/
def sZ (f : Nat → Int32) : Nat → Int
  | 0 => 0
  | n + 1 => sZ f n + (f n).toInt
theorem sZ_b (f : Nat → Int32) : ∀ n : Nat, -(2147483648 * (n : Int)) ≤ sZ f n ∧ sZ f n ≤ 2147483648 * (n : Int)
  | 0 => by simp [sZ]
  | n + 1 => by
    have := sZ_b f n
    obtain ⟨z, h1, h2, h3⟩ := iI_of (f n)
    have : (f n).toInt = z := by rw [h3, iI_to h1 h2]
    simp only [sZ]
    omega
/-- of the first n how many are so -/
def cZ (p : Nat → Prop) [DecidablePred p] : Nat → Nat
  | 0 => 0
  | n + 1 => cZ p n + if p n then 1 else 0
theorem cZ_le (p : Nat → Prop) [DecidablePred p] : ∀ n, cZ p n ≤ n
  | 0 => Nat.le_refl _
  | n + 1 => by
    have := cZ_le p n
    simp only [cZ]
    split <;> omega
theorem cZ_cg {p q : Nat → Prop} [DecidablePred p] [DecidablePred q] : ∀ {n : Nat}, (∀ k, k < n → (p k ↔ q k)) → cZ p n = cZ q n
  | 0, _ => rfl
  | n + 1, h => by
    simp only [cZ, cZ_cg (fun k hk => h k (Nat.lt_succ_of_lt hk)), h n (Nat.lt_succ_self n)]
/-- the digest goes over the first n -/
def mx (f : Nat → Int32) : Nat → Int64 → Int64
  | 0, h => h
  | n + 1, h => 31 * mx f n h + (f n).toInt64
theorem mx_cg {f g : Nat → Int32} : ∀ {n : Nat} {h : Int64}, (∀ k, k < n → f k = g k) → mx f n h = mx g n h
  | 0, _, _ => rfl
  | n + 1, h, e => by rw [mx, mx, mx_cg (fun k hk => e k (Nat.lt_succ_of_lt hk)), e n (Nat.lt_succ_self n)]
/-- rows of these sizes, with these places -/
def mxS (s : Nat → Int32) (f : Nat → Nat → Int32) : Nat → Int64 → Int64
  | 0, h => h
  | r + 1, h => mx (f r) (s r).toInt.toNat (31 * mxS s f r h + (s r).toInt64)
theorem mxS_cg {s s' : Nat → Int32} {f f' : Nat → Nat → Int32} : ∀ {n : Nat} {h : Int64}, (∀ r, r < n → s r = s' r ∧ ∀ k, k < (s r).toInt.toNat → f r k = f' r k) → mxS s f n h = mxS s' f' n h
  | 0, _, _ => rfl
  | n + 1, h, e => by
    have e1 := e n (Nat.lt_succ_self n)
    rw [mxS, mxS, mxS_cg (fun r hr => e r (Nat.lt_succ_of_lt hr)), ← e1.1, mx_cg e1.2]
section ZS
variable (M : Nat → Nat → Int32) (L : Nat → Nat → Int64)
theorem s_14 (z i n : Int) (h1 : 0 ≤ z) (h2 : z < 6) (h3 : -2147483648 ≤ i) (h4 : i ≤ 2147483647) (h5 : -2147483648 ≤ n) (h6 : n ≤ 2147483647) (hs : (M 9 z.toNat).toInt ≤ 40) : zc 3 14 [.ref 1, .int (iI z), .int (iI i), .int (iI n)] M L (some (.int (b2 ((M 9 z.toNat).toInt ≠ -1 ∧ 0 ≤ i ∧ 0 ≤ n ∧ n ≤ (M 9 z.toNat).toInt ∧ i ≤ (M 9 z.toNat).toInt - n)))) M L := by
  refine zc_of (n := 2) (ls := [some (.ref 1), some (.int (iI z)), some (.int (iI i)), some (.int (iI n))]) mk_14 rfl rfl rfl rfl (fun d hd N xs => ?_)
  by_cases h : (0 ≤ z ∧ z < 6) ∧ (M 9 z.toNat).toInt ≠ -1
  · simp (disch := omega) only [b_14_0, b_14_1, b_14_2, b_14_3, g_12a, ix_in, b2_t h, iI_lit, t_lt, t_eq, iI_to, Int.reduceEq, reduceIte, or_true, true_or, o_some]
    by_cases h3 : i < 0
    · rw [if_pos h3, b2_f (by omega)]
    rw [if_neg h3]
    by_cases h4 : n < 0
    · rw [if_pos h4, b2_f (by omega)]
    rw [if_neg h4]
    by_cases h5 : (M 9 z.toNat).toInt < n
    · rw [if_pos h5, b2_f (by omega)]
    rw [if_neg h5, t_sub (by rw [iI_to (by omega) (by omega)]; omega) (by rw [iI_to (by omega) (by omega)]; omega), iI_to (by omega) (by omega)]
    by_cases h6 : (M 9 z.toNat).toInt - n < i
    · rw [if_pos h6, b2_f (by omega)]
    rw [if_neg h6, b2_t (by omega)]
  · simp (disch := omega) only [b_14_0, b_14_1, b_14_2, b_14_3, g_12a, b2_f h, iI_lit, iI_neg, iI_add, iI_sub, iI_mul, t_lt, t_le, t_eq, iI_to, b2_to, if_10, if_11, nor_em, Decidable.not_not, Int.reduceEq, Int.reduceLT, Int.reduceLE, Int.reduceAdd, Int.reduceSub, Int.reduceMul, Int.reduceNeg, reduceIte, or_true, true_or, or_false, false_or, o_some]
    rw [b2_f (by omega)]
theorem g_14 (z i n : Int) (h1 : 0 ≤ z) (h2 : z < 6) (h3 : -2147483648 ≤ i) (h4 : i ≤ 2147483647) (h5 : -2147483648 ≤ n) (h6 : n ≤ 2147483647) (hs : (M 9 z.toNat).toInt ≤ 40) {d N : Nat} {xs : Nat → Int32} {tb_ : List zz_B} {t_ : Nat} {ls_ : zz_L} {rest_ : List Value} (hd_ : 3 ≤ d) : (zz_o (zz_call_ d 14 [.ref 1, .int (iI z), .int (iI i), .int (iI n)] (zm N xs M L)) fun r => zz_X (zz_call_ d) tb_ t_ ls_ (r.1.toList ++ rest_) r.2) = zz_X (zz_call_ d) tb_ t_ ls_ ((.int (b2 ((M 9 z.toNat).toInt ≠ -1 ∧ 0 ≤ i ∧ 0 ≤ n ∧ n ≤ (M 9 z.toNat).toInt ∧ i ≤ (M 9 z.toNat).toInt - n))) :: rest_) (zm N xs M L) := (s_14 M L z i n h1 h2 h3 h4 h5 h6 hs).go hd_
theorem l_18a (C : zz_C) (N : Nat) (xs : Nat → Int32) (z : Int) (x : Int32) (n : Nat) (h1 : 0 ≤ z) (h2 : z < 6) (hn : n ≤ 40) : ∀ j k : Nat, k + j = n → zz_X C tb_18 5 [some (.ref 1), some (.int (iI z)), some (.int (iI n)), some (.int x), some (.int (iI k))] [] (zm N xs (zfl M (3 + z.toNat) k x) L) = some (none, zm N xs (zfl M (3 + z.toNat) n x) L)
  | 0, k, hk => by
    rw [b_18a_5]
    simp (disch := omega) only [t_le, iI_to]
    rw [if_pos (by omega), b_18a_7, show k = n by omega]
  | j + 1, k, hk => by
    rw [b_18a_5]
    simp (disch := omega) only [t_le, iI_to, ix_in, row6, o_some]
    rw [if_neg (by omega), b_18a_6 (hs0 := by omega), ix_nat (by omega) (by omega), o_some, zfl_s, iI_lit, iI_add]
    exact l_18a C N xs z x n h1 h2 hn j (k + 1) (by omega)
theorem s_18a (z : Int) (x : Int32) (n : Nat) (h1 : 0 ≤ z) (h2 : z < 6) (hn : n ≤ 40) : zc 2 18 [.ref 1, .int (iI z), .int (iI n), .int x] M L none (zfl (zz_wI M 9 z.toNat (iI n)) (3 + z.toNat) n x) L := by
  refine zc_of (n := 1) (ls := [some (.ref 1), some (.int (iI z)), some (.int (iI n)), some (.int x), none]) mk_18 rfl rfl rfl rfl (fun d hd N xs => ?_)
  simp (disch := omega) only [b_18a_0, b_18a_1, b_18a_2, b_18a_4, g_11a, ix_in, row6, b2_t (show 0 ≤ z ∧ z < 6 from ⟨h1, h2⟩), iI_lit, iI_neg, iI_add, iI_sub, iI_mul, t_lt, t_le, t_eq, iI_to, b2_to, if_10, if_11, nor_em, Decidable.not_not, Int.reduceEq, Int.reduceLT, Int.reduceLE, Int.reduceAdd, Int.reduceSub, Int.reduceMul, Int.reduceNeg, reduceIte, or_true, true_or, or_false, false_or, o_some]
  rw [if_neg (by omega), if_pos (by omega)]
  have := l_18a (zz_wI M 9 z.toNat (iI n)) L (zz_call_ d) N xs z x n h1 h2 hn n 0 (by omega)
  rw [zfl_0] at this
  exact this
theorem g_18a (z : Int) (x : Int32) (n : Nat) (h1 : 0 ≤ z) (h2 : z < 6) (hn : n ≤ 40) {d N : Nat} {xs : Nat → Int32} {tb_ : List zz_B} {t_ : Nat} {ls_ : zz_L} {rest_ : List Value} (hd_ : 2 ≤ d) : (zz_o (zz_call_ d 18 [.ref 1, .int (iI z), .int (iI n), .int x] (zm N xs M L)) fun r => zz_X (zz_call_ d) tb_ t_ ls_ (r.1.toList ++ rest_) r.2) = zz_X (zz_call_ d) tb_ t_ ls_ rest_ (zm N xs (zfl (zz_wI M 9 z.toNat (iI n)) (3 + z.toNat) n x) L) := (s_18a M L z x n h1 h2 hn).gov hd_
theorem l_22a {d : Nat} (hd : 2 ≤ d) (N : Nat) (xs : Nat → Int32) : ∀ j k : Nat, k + j = 6 → zz_X (zz_call_ d) tb_22 1 [some (.ref 1), some (.int (iI (cZ (fun r => (M 9 r).toInt ≠ -1) k : Nat))), some (.int (iI k))] [] (zm N xs M L) = some (some (.int (iI (cZ (fun r => (M 9 r).toInt ≠ -1) 6 : Nat))), zm N xs M L)
  | 0, k, hk => by
    rw [b_22a_1]
    simp (disch := omega) only [iI_lit, t_le, iI_to]
    rw [if_pos (by omega), b_22a_4, show k = 6 by omega]
  | j + 1, k, hk => by
    rw [b_22a_1]
    simp (disch := omega) only [iI_lit, t_le, iI_to, g_12a]
    rw [if_neg (by omega), b_22a_2]
    have ih := l_22a hd N xs j (k + 1) (by omega)
    simp only [iI_lit, b2_0]
    by_cases h : (M 9 k).toInt ≠ -1
    · rw [if_neg (by simp; omega), b_22a_3, iI_lit, iI_add, iI_add]
      simp only [cZ, h, ne_eq, not_false_eq_true, if_true] at ih ⊢
      exact ih
    · rw [if_pos (by simp; omega), b_22a_3, iI_lit, iI_add]
      simp only [cZ, h, if_false, Nat.add_zero] at ih ⊢
      exact ih
theorem s_22a  : zc 3 22 [.ref 1] M L (some (.int (iI (cZ (fun r => (M 9 r).toInt ≠ -1) 6 : Nat)))) M L := by
  refine zc_of (n := 2) (ls := [some (.ref 1), none, none]) mk_22 rfl rfl rfl rfl (fun d hd N xs => ?_)
  rw [b_22a_0]
  exact l_22a M L hd N xs 6 0 rfl
theorem g_22a  {d N : Nat} {xs : Nat → Int32} {tb_ : List zz_B} {t_ : Nat} {ls_ : zz_L} {rest_ : List Value} (hd_ : 3 ≤ d) : (zz_o (zz_call_ d 22 [.ref 1] (zm N xs M L)) fun r => zz_X (zz_call_ d) tb_ t_ ls_ (r.1.toList ++ rest_) r.2) = zz_X (zz_call_ d) tb_ t_ ls_ ((.int (iI (cZ (fun r => (M 9 r).toInt ≠ -1) 6 : Nat))) :: rest_) (zm N xs M L) := (s_22a M L).go hd_
theorem l_23ai {d : Nat} (hd : 4 ≤ d) (N : Nat) (xs : Nat → Int32) (h0 h : Int64) (r : Nat) (hr : r < 6) (hs : ∀ r : Nat, r < 6 → (M 9 r).toInt ≤ 40) : ∀ j k : Nat, k + j = (M 9 r).toInt.toNat → zz_X (zz_call_ d) tb_23 2 [some (.ref 1), some (.long h0), none, some (.long (mx (M (3 + r)) k h)), none, some (.int (iI r)), some (.int (iI k))] [] (zm N xs M L) = zz_X (zz_call_ d) tb_23 1 [some (.ref 1), some (.long h0), none, some (.long (mx (M (3 + r)) (M 9 r).toInt.toNat h)), none, some (.int (iI (r + 1 : Nat))), some (.int (iI (M 9 r).toInt.toNat))] [] (zm N xs M L)
  | 0, k, hk => by
    rw [b_23a_2, ix_nat hr (by omega), o_some]
    have := hs r hr
    simp (disch := omega) only [t_le, iI_to]
    rw [if_pos (by omega), b_23a_4, iI_lit, iI_add, show k = (M 9 r).toInt.toNat by omega]
    rfl
  | j + 1, k, hk => by
    have := hs r hr
    rw [b_23a_2, ix_nat hr (by omega), o_some]
    simp (disch := omega) only [t_le, iI_to]
    rw [if_neg (by omega), g_16a M L r k (by omega) (by omega) (by omega) (by omega) hs (by omega), b_23a_3]
    simp only [Int.toNat_natCast]
    rw [if_pos (by omega), iI_lit, iI_add]
    exact l_23ai hd N xs h0 h r hr hs j (k + 1) (by omega)
theorem l_23a {d : Nat} (hd : 4 ≤ d) (N : Nat) (xs : Nat → Int32) (h0 : Int64) (hs : ∀ r : Nat, r < 6 → (M 9 r).toInt ≤ 40) : ∀ (j r : Nat) (o : Option Value), r + j = 6 → zz_X (zz_call_ d) tb_23 1 [some (.ref 1), some (.long h0), none, some (.long (mxS (M 9) (fun r => M (3 + r)) r h0)), none, some (.int (iI r)), o] [] (zm N xs M L) = some (some (.long (mxS (M 9) (fun r => M (3 + r)) 6 h0)), zm N xs M L)
  | 0, r, o, hk => by
    rw [b_23a_1]
    simp (disch := omega) only [iI_lit, t_le, iI_to]
    rw [if_pos (by omega), b_23a_5, show r = 6 by omega]
  | j + 1, r, o, hk => by
    rw [b_23a_1]
    simp (disch := omega) only [iI_lit, t_le, iI_to]
    rw [if_neg (by omega), ix_nat (by omega) (by omega), o_some]
    have := l_23ai M L hd N xs h0 (31 * mxS (M 9) (fun r => M (3 + r)) r h0 + (M 9 r).toInt64) r (by omega) hs (M 9 r).toInt.toNat 0 (by omega)
    simp only [mx] at this
    refine (this).trans ?_
    exact l_23a hd N xs h0 hs j (r + 1) _ (by omega)
theorem s_23a (h0 : Int64) (hs : ∀ r : Nat, r < 6 → (M 9 r).toInt ≤ 40) : zc 5 23 [.ref 1, .long h0] M L (some (.long (mxS (M 9) (fun r => M (3 + r)) 6 h0))) M L := by
  refine zc_of (n := 4) (ls := [some (.ref 1), some (.long h0), none, none, none, none, none]) mk_23 rfl rfl rfl rfl (fun d hd N xs => ?_)
  rw [b_23a_0, iI_lit]
  exact l_23a M L hd N xs h0 hs 6 0 none rfl
theorem g_23a (h0 : Int64) (hs : ∀ r : Nat, r < 6 → (M 9 r).toInt ≤ 40) {d N : Nat} {xs : Nat → Int32} {tb_ : List zz_B} {t_ : Nat} {ls_ : zz_L} {rest_ : List Value} (hd_ : 5 ≤ d) : (zz_o (zz_call_ d 23 [.ref 1, .long h0] (zm N xs M L)) fun r => zz_X (zz_call_ d) tb_ t_ ls_ (r.1.toList ++ rest_) r.2) = zz_X (zz_call_ d) tb_ t_ ls_ ((.long (mxS (M 9) (fun r => M (3 + r)) 6 h0)) :: rest_) (zm N xs M L) := (s_23a M L h0 hs).go hd_
theorem l_18b (C : zz_C) (N : Nat) (xs : Nat → Int32) (z : Int) (x : Int32) (n : Nat) (h1 : 0 ≤ z) (h2 : z < 4) (hn : n ≤ 60) : ∀ j k : Nat, k + j = n → zz_X C tb_18 5 [some (.ref 10), some (.int (iI z)), some (.int (iI n)), some (.int x), some (.int (iI k))] [] (zm N xs (zfl M (12 + z.toNat) k x) L) = some (none, zm N xs (zfl M (12 + z.toNat) n x) L)
  | 0, k, hk => by
    rw [b_18b_5]
    simp (disch := omega) only [t_le, iI_to]
    rw [if_pos (by omega), b_18b_7, show k = n by omega]
  | j + 1, k, hk => by
    rw [b_18b_5]
    simp (disch := omega) only [t_le, iI_to, ix_in, row4, o_some]
    rw [if_neg (by omega), b_18b_6 (hs0 := by omega), ix_nat (by omega) (by omega), o_some, zfl_s, iI_lit, iI_add]
    exact l_18b C N xs z x n h1 h2 hn j (k + 1) (by omega)
theorem s_18b (z : Int) (x : Int32) (n : Nat) (h1 : 0 ≤ z) (h2 : z < 4) (hn : n ≤ 60) : zc 2 18 [.ref 10, .int (iI z), .int (iI n), .int x] M L none (zfl (zz_wI M 16 z.toNat (iI n)) (12 + z.toNat) n x) L := by
  refine zc_of (n := 1) (ls := [some (.ref 10), some (.int (iI z)), some (.int (iI n)), some (.int x), none]) mk_18 rfl rfl rfl rfl (fun d hd N xs => ?_)
  simp (disch := omega) only [b_18b_0, b_18b_1, b_18b_2, b_18b_4, g_11b, ix_in, row4, b2_t (show 0 ≤ z ∧ z < 4 from ⟨h1, h2⟩), iI_lit, iI_neg, iI_add, iI_sub, iI_mul, t_lt, t_le, t_eq, iI_to, b2_to, if_10, if_11, nor_em, Decidable.not_not, Int.reduceEq, Int.reduceLT, Int.reduceLE, Int.reduceAdd, Int.reduceSub, Int.reduceMul, Int.reduceNeg, reduceIte, or_true, true_or, or_false, false_or, o_some]
  rw [if_neg (by omega), if_pos (by omega)]
  have := l_18b (zz_wI M 16 z.toNat (iI n)) L (zz_call_ d) N xs z x n h1 h2 hn n 0 (by omega)
  rw [zfl_0] at this
  exact this
theorem g_18b (z : Int) (x : Int32) (n : Nat) (h1 : 0 ≤ z) (h2 : z < 4) (hn : n ≤ 60) {d N : Nat} {xs : Nat → Int32} {tb_ : List zz_B} {t_ : Nat} {ls_ : zz_L} {rest_ : List Value} (hd_ : 2 ≤ d) : (zz_o (zz_call_ d 18 [.ref 10, .int (iI z), .int (iI n), .int x] (zm N xs M L)) fun r => zz_X (zz_call_ d) tb_ t_ ls_ (r.1.toList ++ rest_) r.2) = zz_X (zz_call_ d) tb_ t_ ls_ rest_ (zm N xs (zfl (zz_wI M 16 z.toNat (iI n)) (12 + z.toNat) n x) L) := (s_18b M L z x n h1 h2 hn).gov hd_
theorem l_22b {d : Nat} (hd : 2 ≤ d) (N : Nat) (xs : Nat → Int32) : ∀ j k : Nat, k + j = 4 → zz_X (zz_call_ d) tb_22 1 [some (.ref 10), some (.int (iI (cZ (fun r => (M 16 r).toInt ≠ -1) k : Nat))), some (.int (iI k))] [] (zm N xs M L) = some (some (.int (iI (cZ (fun r => (M 16 r).toInt ≠ -1) 4 : Nat))), zm N xs M L)
  | 0, k, hk => by
    rw [b_22b_1]
    simp (disch := omega) only [iI_lit, t_le, iI_to]
    rw [if_pos (by omega), b_22b_4, show k = 4 by omega]
  | j + 1, k, hk => by
    rw [b_22b_1]
    simp (disch := omega) only [iI_lit, t_le, iI_to, g_12b]
    rw [if_neg (by omega), b_22b_2]
    have ih := l_22b hd N xs j (k + 1) (by omega)
    simp only [iI_lit, b2_0]
    by_cases h : (M 16 k).toInt ≠ -1
    · rw [if_neg (by simp; omega), b_22b_3, iI_lit, iI_add, iI_add]
      simp only [cZ, h, ne_eq, not_false_eq_true, if_true] at ih ⊢
      exact ih
    · rw [if_pos (by simp; omega), b_22b_3, iI_lit, iI_add]
      simp only [cZ, h, if_false, Nat.add_zero] at ih ⊢
      exact ih
theorem s_22b  : zc 3 22 [.ref 10] M L (some (.int (iI (cZ (fun r => (M 16 r).toInt ≠ -1) 4 : Nat)))) M L := by
  refine zc_of (n := 2) (ls := [some (.ref 10), none, none]) mk_22 rfl rfl rfl rfl (fun d hd N xs => ?_)
  rw [b_22b_0]
  exact l_22b M L hd N xs 4 0 rfl
theorem g_22b  {d N : Nat} {xs : Nat → Int32} {tb_ : List zz_B} {t_ : Nat} {ls_ : zz_L} {rest_ : List Value} (hd_ : 3 ≤ d) : (zz_o (zz_call_ d 22 [.ref 10] (zm N xs M L)) fun r => zz_X (zz_call_ d) tb_ t_ ls_ (r.1.toList ++ rest_) r.2) = zz_X (zz_call_ d) tb_ t_ ls_ ((.int (iI (cZ (fun r => (M 16 r).toInt ≠ -1) 4 : Nat))) :: rest_) (zm N xs M L) := (s_22b M L).go hd_
theorem l_23bi {d : Nat} (hd : 4 ≤ d) (N : Nat) (xs : Nat → Int32) (h0 h : Int64) (r : Nat) (hr : r < 4) (hs : ∀ r : Nat, r < 4 → (M 16 r).toInt ≤ 60) : ∀ j k : Nat, k + j = (M 16 r).toInt.toNat → zz_X (zz_call_ d) tb_23 2 [some (.ref 10), some (.long h0), none, some (.long (mx (M (12 + r)) k h)), none, some (.int (iI r)), some (.int (iI k))] [] (zm N xs M L) = zz_X (zz_call_ d) tb_23 1 [some (.ref 10), some (.long h0), none, some (.long (mx (M (12 + r)) (M 16 r).toInt.toNat h)), none, some (.int (iI (r + 1 : Nat))), some (.int (iI (M 16 r).toInt.toNat))] [] (zm N xs M L)
  | 0, k, hk => by
    rw [b_23b_2, ix_nat hr (by omega), o_some]
    have := hs r hr
    simp (disch := omega) only [t_le, iI_to]
    rw [if_pos (by omega), b_23b_4, iI_lit, iI_add, show k = (M 16 r).toInt.toNat by omega]
    rfl
  | j + 1, k, hk => by
    have := hs r hr
    rw [b_23b_2, ix_nat hr (by omega), o_some]
    simp (disch := omega) only [t_le, iI_to]
    rw [if_neg (by omega), g_16b M L r k (by omega) (by omega) (by omega) (by omega) hs (by omega), b_23b_3]
    simp only [Int.toNat_natCast]
    rw [if_pos (by omega), iI_lit, iI_add]
    exact l_23bi hd N xs h0 h r hr hs j (k + 1) (by omega)
theorem l_23b {d : Nat} (hd : 4 ≤ d) (N : Nat) (xs : Nat → Int32) (h0 : Int64) (hs : ∀ r : Nat, r < 4 → (M 16 r).toInt ≤ 60) : ∀ (j r : Nat) (o : Option Value), r + j = 4 → zz_X (zz_call_ d) tb_23 1 [some (.ref 10), some (.long h0), none, some (.long (mxS (M 16) (fun r => M (12 + r)) r h0)), none, some (.int (iI r)), o] [] (zm N xs M L) = some (some (.long (mxS (M 16) (fun r => M (12 + r)) 4 h0)), zm N xs M L)
  | 0, r, o, hk => by
    rw [b_23b_1]
    simp (disch := omega) only [iI_lit, t_le, iI_to]
    rw [if_pos (by omega), b_23b_5, show r = 4 by omega]
  | j + 1, r, o, hk => by
    rw [b_23b_1]
    simp (disch := omega) only [iI_lit, t_le, iI_to]
    rw [if_neg (by omega), ix_nat (by omega) (by omega), o_some]
    have := l_23bi M L hd N xs h0 (31 * mxS (M 16) (fun r => M (12 + r)) r h0 + (M 16 r).toInt64) r (by omega) hs (M 16 r).toInt.toNat 0 (by omega)
    simp only [mx] at this
    refine (this).trans ?_
    exact l_23b hd N xs h0 hs j (r + 1) _ (by omega)
theorem s_23b (h0 : Int64) (hs : ∀ r : Nat, r < 4 → (M 16 r).toInt ≤ 60) : zc 5 23 [.ref 10, .long h0] M L (some (.long (mxS (M 16) (fun r => M (12 + r)) 4 h0))) M L := by
  refine zc_of (n := 4) (ls := [some (.ref 10), some (.long h0), none, none, none, none, none]) mk_23 rfl rfl rfl rfl (fun d hd N xs => ?_)
  rw [b_23b_0, iI_lit]
  exact l_23b M L hd N xs h0 hs 4 0 none rfl
theorem g_23b (h0 : Int64) (hs : ∀ r : Nat, r < 4 → (M 16 r).toInt ≤ 60) {d N : Nat} {xs : Nat → Int32} {tb_ : List zz_B} {t_ : Nat} {ls_ : zz_L} {rest_ : List Value} (hd_ : 5 ≤ d) : (zz_o (zz_call_ d 23 [.ref 10, .long h0] (zm N xs M L)) fun r => zz_X (zz_call_ d) tb_ t_ ls_ (r.1.toList ++ rest_) r.2) = zz_X (zz_call_ d) tb_ t_ ls_ ((.long (mxS (M 16) (fun r => M (12 + r)) 4 h0)) :: rest_) (zm N xs M L) := (s_23b M L h0 hs).go hd_
theorem s_19 (z : Int) (h1 : 0 ≤ z) (h2 : z < 6) : zc 2 19 [.ref 1, .int (iI z)] M L none (zz_wI M 9 z.toNat (iI (-1))) L := by
  refine zc_of (n := 1) (ls := [some (.ref 1), some (.int (iI z))]) mk_19 rfl rfl rfl rfl (fun d hd N xs => ?_)
  simp (disch := omega) only [b_19_0, b_19_1, b_19_2, g_11a, ix_in, b2_t (show 0 ≤ z ∧ z < 6 from ⟨h1, h2⟩), iI_lit, iI_neg, iI_add, iI_sub, iI_mul, t_lt, t_le, t_eq, iI_to, b2_to, if_10, if_11, nor_em, Decidable.not_not, Int.reduceEq, Int.reduceLT, Int.reduceLE, Int.reduceAdd, Int.reduceSub, Int.reduceMul, Int.reduceNeg, reduceIte, or_true, true_or, or_false, false_or, o_some]
theorem g_19 (z : Int) (h1 : 0 ≤ z) (h2 : z < 6) {d N : Nat} {xs : Nat → Int32} {tb_ : List zz_B} {t_ : Nat} {ls_ : zz_L} {rest_ : List Value} (hd_ : 2 ≤ d) : (zz_o (zz_call_ d 19 [.ref 1, .int (iI z)] (zm N xs M L)) fun r => zz_X (zz_call_ d) tb_ t_ ls_ (r.1.toList ++ rest_) r.2) = zz_X (zz_call_ d) tb_ t_ ls_ rest_ (zm N xs (zz_wI M 9 z.toNat (iI (-1))) L) := (s_19 M L z h1 h2).gov hd_
theorem s_20 (z i y j : Int) (n : Nat) (h1 : 0 ≤ z) (h2 : z < 6) (h3 : 0 ≤ y) (h4 : y < 6) (h5 : 0 ≤ i) (h6 : 0 ≤ j) (h7 : n + i ≤ (M 9 z.toNat).toInt) (h8 : n + j ≤ (M 9 y.toNat).toInt) (hs : (M 9 z.toNat).toInt ≤ 40) (hs2 : (M 9 y.toNat).toInt ≤ 40) : zc 4 20 [.ref 1, .int (iI z), .int (iI i), .int (iI y), .int (iI j), .int (iI n)] M L none (zz_rI M (3 + y.toNat) (va_cpy (M (3 + z.toNat)) (M (3 + y.toNat)) i.toNat j.toNat n)) L := by
  refine zc_of (n := 3) (ls := [some (.ref 1), some (.int (iI z)), some (.int (iI i)), some (.int (iI y)), some (.int (iI j)), some (.int (iI n))]) mk_20 rfl rfl rfl rfl (fun d hd N xs => ?_)
  have q1 : (M 9 z.toNat).toInt ≠ -1 ∧ 0 ≤ i ∧ (0 : Int) ≤ n ∧ (n : Int) ≤ (M 9 z.toNat).toInt ∧ i ≤ (M 9 z.toNat).toInt - n := by omega
  have q2 : (M 9 y.toNat).toInt ≠ -1 ∧ 0 ≤ j ∧ (0 : Int) ≤ n ∧ (n : Int) ≤ (M 9 y.toNat).toInt ∧ j ≤ (M 9 y.toNat).toInt - n := by omega
  rw [b_20_0, g_14 M L z i n h1 h2 (by omega) (by omega) (by omega) (by omega) hs (by omega), b2_t q1, b_20_1, iI_lit, if_neg iI10]
  rw [g_14 M L y j n h3 h4 (by omega) (by omega) (by omega) (by omega) hs2 (by omega), b2_t q2, b_20_2, iI_lit, if_neg iI10]
  simp (disch := omega) only [b_20_3, b_20_4, b_20_5, ix_in, row6, o_some, iI_clamp, iI_lit, t_lt, iI_to]
  rw [if_neg (by omega)]
  simp
theorem g_20 (z i y j : Int) (n : Nat) (h1 : 0 ≤ z) (h2 : z < 6) (h3 : 0 ≤ y) (h4 : y < 6) (h5 : 0 ≤ i) (h6 : 0 ≤ j) (h7 : n + i ≤ (M 9 z.toNat).toInt) (h8 : n + j ≤ (M 9 y.toNat).toInt) (hs : (M 9 z.toNat).toInt ≤ 40) (hs2 : (M 9 y.toNat).toInt ≤ 40) {d N : Nat} {xs : Nat → Int32} {tb_ : List zz_B} {t_ : Nat} {ls_ : zz_L} {rest_ : List Value} (hd_ : 4 ≤ d) : (zz_o (zz_call_ d 20 [.ref 1, .int (iI z), .int (iI i), .int (iI y), .int (iI j), .int (iI n)] (zm N xs M L)) fun r => zz_X (zz_call_ d) tb_ t_ ls_ (r.1.toList ++ rest_) r.2) = zz_X (zz_call_ d) tb_ t_ ls_ rest_ (zm N xs (zz_rI M (3 + y.toNat) (va_cpy (M (3 + z.toNat)) (M (3 + y.toNat)) i.toNat j.toNat n)) L) := (s_20 M L z i y j n h1 h2 h3 h4 h5 h6 h7 h8 hs hs2).gov hd_
theorem l_21 {d : Nat} (hd : 4 ≤ d) (N : Nat) (xs : Nat → Int32) (r : Nat) (hr : r < 6) (n : Nat) (hn : (M 9 r).toInt = n) (hs : ∀ r : Nat, r < 6 → (M 9 r).toInt ≤ 40) : ∀ j k : Nat, k + j = n → zz_X (zz_call_ d) tb_21 2 [some (.ref 1), some (.int (iI r)), some (.long (lI (sZ (M (3 + r)) k))), none, some (.int (M 9 r)), some (.int (iI k))] [] (zm N xs M L) = some (some (.long (lI (sZ (M (3 + r)) n))), zm N xs M L)
  | 0, k, hk => by
    have := hs r hr
    rw [b_21_2]
    simp (disch := omega) only [t_le, iI_to]
    rw [if_pos (by omega), b_21_4, show k = n by omega]
  | j + 1, k, hk => by
    have := hs r hr
    rw [b_21_2]
    simp (disch := omega) only [t_le, iI_to]
    rw [if_neg (by omega), g_16a M L r k (by omega) (by omega) (by omega) (by omega) hs (by omega), b_21_3]
    simp only [Int.toNat_natCast]
    rw [if_pos (by omega), iI_lit, iI_add]
    have e : lI (sZ (M (3 + r)) k) + (M (3 + r) k).toInt64 = lI (sZ (M (3 + r)) (k + 1)) := by
      obtain ⟨z, h1, h2, h3⟩ := iI_of (M (3 + r) k)
      rw [sZ, h3, iI_long h1 h2, lI_add, iI_to h1 h2]
    rw [e]
    exact l_21 hd N xs r hr n hn hs j (k + 1) (by omega)
theorem s_21 (r : Nat) (hr : r < 6) (n : Nat) (hn : (M 9 r).toInt = n) (hs : ∀ r : Nat, r < 6 → (M 9 r).toInt ≤ 40) : zc 5 21 [.ref 1, .int (iI r)] M L (some (.long (lI (sZ (M (3 + r)) n)))) M L := by
  refine zc_of (n := 4) (ls := [some (.ref 1), some (.int (iI r)), none, none, none, none]) mk_21 rfl rfl rfl rfl (fun d hd N xs => ?_)
  rw [b_21_0, g_15a M L r (by omega) (by omega) (by omega), b_21_1, iI_lit]
  exact l_21 M L hd N xs r hr n hn hs n 0 (by omega)
theorem g_21 (r : Nat) (hr : r < 6) (n : Nat) (hn : (M 9 r).toInt = n) (hs : ∀ r : Nat, r < 6 → (M 9 r).toInt ≤ 40) {d N : Nat} {xs : Nat → Int32} {tb_ : List zz_B} {t_ : Nat} {ls_ : zz_L} {rest_ : List Value} (hd_ : 5 ≤ d) : (zz_o (zz_call_ d 21 [.ref 1, .int (iI r)] (zm N xs M L)) fun r => zz_X (zz_call_ d) tb_ t_ ls_ (r.1.toList ++ rest_) r.2) = zz_X (zz_call_ d) tb_ t_ ls_ ((.long (lI (sZ (M (3 + r)) n))) :: rest_) (zm N xs M L) := (s_21 M L r hr n hn hs).go hd_
end ZS

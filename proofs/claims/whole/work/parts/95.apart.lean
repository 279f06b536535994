/-! apart, stairs: both alike. -/
def le0 (V : Vw) (o : Option Nat) : Nat := match o with
  | none => 1000000
  | some x => coK V 0 x
def bst (o : Option Nat) : Nat := match o with
  | none => 0
  | some x => x
def it (V : Vw) (x : Nat) : Nat := 2000 * hi V (dg V.n x) V.n + 100 * tC (dg V.n x) V.n + tS (dg V.n x) V.n
def le1 (V : Vw) (o : Option Nat) : Nat := match o with
  | none => 1000000
  | some x => it V x
def bs1 (V : Vw) (o : Option Nat) : Nat := match o with
  | none => 0
  | some x => tS (dg V.n x) V.n
theorem ct_b {V : Vw} (hk : Vk V) (x : Nat) : hi V (dg V.n x) V.n ≤ 3 ∧ tC (dg V.n x) V.n ≤ 6 ∧ tS (dg V.n x) V.n < 64 := ⟨hi_le hk _ _, Nat.le_trans (cZ_le _ _) hk.n, bS_64 _ hk.n⟩
theorem co_1 {V : Vw} (hk : Vk V) (x : Nat) : coK V 1 x = 2048 * hi V (dg V.n x) V.n + 64 * tC (dg V.n x) V.n + tS (dg V.n x) V.n := cs_1 _ hk.n
theorem iso {V : Vw} (hk : Vk V) (k : Nat) (o : Option Nat) : coK V 1 k < bc (coK V 1) o ↔ it V k < le1 V o := by
  have h1 := ct_b hk k
  have e1 := co_1 hk k
  cases o with
  | none =>
    show coK V 1 k < 1073741824 ↔ it V k < 1000000
    unfold it
    omega
  | some x =>
    have h2 := ct_b hk x
    have e2 := co_1 hk x
    show coK V 1 k < coK V 1 x ↔ it V k < it V x
    rw [e1, e2]
    unfold it
    generalize hi V (dg V.n k) V.n = a at *
    generalize tC (dg V.n k) V.n = b at *
    generalize tS (dg V.n k) V.n = c at *
    generalize hi V (dg V.n x) V.n = a' at *
    generalize tC (dg V.n x) V.n = b' at *
    generalize tS (dg V.n x) V.n = c' at *
    by_cases q : a = a'
    · subst q
      by_cases q2 : b = b'
      · subst q2; omega
      · omega
    · omega
theorem iso0 {V : Vw} (hk : Vk V) (k : Nat) (o : Option Nat) : coK V 0 k < bc (coK V 0) o ↔ coK V 0 k < le0 V o := by
  have h1 := cs_lt hk (f := 0) (by omega) (dg V.n k) hk.n
  have h1' : coK V 0 k < 10000 := h1
  cases o with
  | none => show coK V 0 k < 1073741824 ↔ coK V 0 k < 1000000; omega
  | some x => exact Iff.rfl
theorem on_tS {V : Vw} (hk : Vk V) (t : Nat → Nat) : on (tS t V.n) = tC t V.n := bS_cnt _ hk.n
theorem p64_53 {M M' : Nat → Nat → Int32} (h : eqs M M' p64) : M' 53 = M 53 := h.col 53 (fun k => ⟨by omega, Or.inl (by omega)⟩)
theorem p64_C {V : Vw} {N b : Nat} {M M' : Nat → Nat → Int32} (h : CT V N b M) (e : eqs M M' p64) : CT V N b M' := fun i j h1 h2 h3 c hc => by rw [e.col 63 (fun k => ⟨by omega, Or.inl (by omega)⟩)]; exact h i j h1 h2 h3 c hc
section ZR
variable (M : Nat → Nat → Int32) (L : Nat → Nat → Int64)
theorem s_228 (V : Vw) (hk : Vk V) (hr : Rv V (M 53) 0) (t : Nat → Nat) : zc 2 228 [.ref 52, .int (iI (tS t V.n))] M L (some (.int (iI ((2 * hi V t V.n : Nat) : Int)))) M L := by
  refine zc_of (n := 1) (ls := [some (.ref 52), some (.int (iI (tS t V.n))), none, none]) mk_228 rfl rfl rfl rfl (fun d hd N xs => ?_)
  have hn := hk.n
  have hS := bS_64 (fun j => t j ≠ 2) hn
  have e0 : M 53 0 = iI V.n := hr.n
  rw [b_228_0]
  have hl := upto (fun i : Nat => zz_X (zz_call_ d) tb_228 1 [some (.ref 52), some (.int (iI (tS t V.n))), some (.int (iI (hi V t i))), some (.int (iI i))] [] (zm N xs M L)) V.n (fun i hin => by
    show zz_X (zz_call_ d) tb_228 1 _ _ _ = zz_X (zz_call_ d) tb_228 1 _ _ _
    have hh := hi_le hk t i
    have hf := hk.floor i
    have ef : M 53 (22 + i) = iI (V.floor i) := by have := hr.floor i hin; rwa [Nat.zero_add] at this
    have eb := bS_bit (fun j => t j ≠ 2) i V.n
    have eh : hi V t (i + 1) = if t i = 2 then hi V t i else max (hi V t i) (V.floor i) := rfl
    have l4 : ∀ v : Nat, hi V t (i + 1) = v → zz_X (zz_call_ d) tb_228 4 [some (.ref 52), some (.int (iI (tS t V.n))), some (.int (iI (hi V t i))), some (.int (iI i))] [.int (iI v)] (zm N xs M L) = zz_X (zz_call_ d) tb_228 1 [some (.ref 52), some (.int (iI (tS t V.n))), some (.int (iI (hi V t (i + 1)))), some (.int (iI ((i + 1 : Nat) : Int)))] [] (zm N xs M L) := by
      intro v hv
      rw [b_228_4, ← hv, show (1 : Int32) = iI 1 from rfl, iI_add]
      rfl
    rw [b_228_1, e0, if_neg (by rw [t_le, iI_to (by omega) (by omega), iI_to (by omega) (by omega)]; omega), g_158 M L _ i (Nat.lt_trans hS (by omega)) (by omega) (by omega), b_228_2]
    by_cases q : t i = 2
    · rw [b2_f (fun e => (eb.1 e).2 q), if_pos (show iI 0 = (0 : Int32) from rfl), b_228_3]
      exact l4 _ (by rw [eh, if_pos q])
    · rw [b2_t (eb.2 ⟨hin, q⟩), if_neg (show ¬ iI 1 = (0 : Int32) from iI10), show (22 : Int32) = iI 22 from rfl, iI_add, show (22 : Int) + (i : Int) = ((22 + i : Nat) : Int) by omega, ix_nat (by omega) (by omega), o_some, ef]
      by_cases q2 : V.floor i ≤ hi V t i
      · rw [if_pos (by rw [t_le, iI_to (by omega) (by omega), iI_to (by omega) (by omega)]; omega), b_228_3]
        exact l4 _ (by rw [eh, if_neg q, Nat.max_eq_left q2])
      · rw [if_neg (by rw [t_le, iI_to (by omega) (by omega), iI_to (by omega) (by omega)]; omega), o_some, ef]
        exact l4 _ (by rw [eh, if_neg q, Nat.max_eq_right (by omega)]))
  refine Eq.trans hl ?_
  show zz_X (zz_call_ d) tb_228 1 _ _ _ = _
  rw [b_228_1, e0, if_pos (by rw [t_le]; omega), b_228_5, show (2 : Int32) = iI 2 from rfl, iI_mul]
  rfl
theorem g_228 (V : Vw) (hk : Vk V) (hr : Rv V (M 53) 0) (t : Nat → Nat) {d N : Nat} {xs : Nat → Int32} {tb_ : List zz_B} {t_ : Nat} {ls_ : zz_L} {rest_ : List Value} (hd_ : 2 ≤ d) : (zz_o (zz_call_ d 228 [.ref 52, .int (iI (tS t V.n))] (zm N xs M L)) fun r => zz_X (zz_call_ d) tb_ t_ ls_ (r.1.toList ++ rest_) r.2) = zz_X (zz_call_ d) tb_ t_ ls_ ((.int (iI ((2 * hi V t V.n : Nat) : Int))) :: rest_) (zm N xs M L) := (s_228 M L V hk hr t).go hd_
end ZR
section ZL
variable (L : Nat → Nat → Int64) {V : Vw}
theorem l_227 (hk : Vk V) (N9 : Nat) (n r : Int32) : ∀ (c k : Nat) (o : Option Nat) (M : Nat → Nat → Int32), k + c = 5 ^ V.n → Rv V (M 53) 0 → CT V N9 36 M → ∃ M', eqs M M' p64 ∧ ∀ d, 4 ≤ d → ∀ N xs, zz_X (zz_call_ d) tb_227 7 [some (.ref 52), some (.int n), some (.int r), some (.int (iI (le0 V o))), some (.int (iI (bst o))), some (.int (iI k))] [] (zm N xs M L) = zz_X (zz_call_ d) tb_227 13 [some (.ref 52), some (.int n), some (.int r), some (.int (iI (le0 V (fo (feK V N9) (coK V 0) c k o)))), some (.int (iI (bst (fo (feK V N9) (coK V 0) c k o)))), some (.int (iI ((5 ^ V.n : Nat) : Int)))] [] (zm N xs M' L)
  | 0, k, o, M, hc, hr, hct => by
    have h5 : (5 : Nat) ^ V.n ≤ 5 ^ 6 := Nat.pow_le_pow_right (by omega) hk.n
    refine ⟨M, eqs.rf, fun d hd N xs => ?_⟩
    rw [b_227_7, g_226 M L V hk hr (by omega), b_227_8, if_pos (by rw [show k = 5 ^ V.n by omega, t_le]; omega), show k = 5 ^ V.n by omega]
    rfl
  | c + 1, k, o, M, hc, hr, hct => by
    have h5 : (5 : Nat) ^ V.n ≤ 5 ^ 6 := Nat.pow_le_pow_right (by omega) hk.n
    have hb := ct_b hk k
    have hco : coK V 0 k = tC (dg V.n k) V.n := cs_0 _ _
    have hle : le0 V o ≤ 1000000 := by
      cases o with
      | none => exact Nat.le_refl _
      | some x =>
        have := cs_lt hk (f := 0) (by omega) (dg V.n x) hk.n
        show cs V 0 (dg V.n x) V.n ≤ 1000000
        omega
    obtain ⟨M1, r1, r2, r3⟩ := x_225 L M hk hr N9 hct k (by omega)
    obtain ⟨M', p1, p3⟩ := l_227 hk N9 n r c (k + 1) (stO (feK V N9) (coK V 0) o k) M1 (by omega) (by rw [p64_53 r1]; exact hr) (p64_C hct r1)
    refine ⟨M', r1.tr p1, fun d hd N xs => ?_⟩
    have ih := p3 d hd N xs
    have efo : fo (feK V N9) (coK V 0) (c + 1) k o = fo (feK V N9) (coK V 0) c (k + 1) (stO (feK V N9) (coK V 0) o k) := rfl
    rw [efo]
    have l12 : ∀ o1, stO (feK V N9) (coK V 0) o k = o1 → zz_X (zz_call_ d) tb_227 12 [some (.ref 52), some (.int n), some (.int r), some (.int (iI (le0 V o1))), some (.int (iI (bst o1))), some (.int (iI k))] [] (zm N xs M1 L) = zz_X (zz_call_ d) tb_227 13 [some (.ref 52), some (.int n), some (.int r), some (.int (iI (le0 V (fo (feK V N9) (coK V 0) c (k + 1) (stO (feK V N9) (coK V 0) o k))))), some (.int (iI (bst (fo (feK V N9) (coK V 0) c (k + 1) (stO (feK V N9) (coK V 0) o k))))), some (.int (iI ((5 ^ V.n : Nat) : Int)))] [] (zm N xs M' L) := by
      intro o1 e
      rw [b_227_12, ← e, show (1 : Int32) = iI 1 from rfl, iI_add]
      exact ih
    rw [b_227_7, g_226 M L V hk hr (by omega), b_227_8, if_neg (by rw [t_le, iI_to (by omega) (by omega), iI_to (by omega) (by omega)]; omega), r3.go (by omega), b_227_9]
    by_cases q : feK V N9 k
    · have g159 := fun t_ => g_159 (d := d) (N := N) (xs := xs) (tb_ := tb_227) (t_ := t_) (ls_ := [some (.ref 52), some (.int n), some (.int r), some (.int (iI (le0 V o))), some (.int (iI (bst o))), some (.int (iI k))]) (rest_ := []) M1 L (tS (dg V.n k) V.n) (by omega) (by omega)
      rw [on_tS hk] at g159
      rw [b2_t q, if_neg (show ¬ iI 1 = (0 : Int32) from iI10), r2]
      refine Eq.trans (g159 10) ?_
      rw [b_227_10]
      have hi0 := iso0 hk k o
      by_cases q2 : coK V 0 k < bc (coK V 0) o
      · have q3 := hi0.1 q2
        rw [if_neg (by rw [t_le, iI_to (by omega) (by omega), iI_to (by omega) (by omega)]; omega), r2]
        refine Eq.trans (g159 11) ?_
        rw [b_227_11]
        have := l12 (some k) (if_pos ⟨q, q2⟩)
        rw [show le0 V (some k) = tC (dg V.n k) V.n from hco] at this
        exact this
      · have q3 : ¬ coK V 0 k < le0 V o := fun e => q2 (hi0.2 e)
        rw [if_pos (by rw [t_le, iI_to (by omega) (by omega), iI_to (by omega) (by omega)]; omega)]
        exact l12 o (if_neg (fun e => q2 e.2))
    · rw [b2_f q, if_pos (show iI 0 = (0 : Int32) from rfl)]
      exact l12 o (if_neg (fun e => q e.1))
theorem l_229 (hk : Vk V) (N9 : Nat) (n : Int32) : ∀ (c k : Nat) (o : Option Nat) (M : Nat → Nat → Int32) (o5 : Option Value), k + c = 5 ^ V.n → Rv V (M 53) 0 → CT V N9 36 M → ∃ M' o5', eqs M M' p64 ∧ ∀ d, 4 ≤ d → ∀ N xs, zz_X (zz_call_ d) tb_229 5 [some (.ref 52), some (.int n), some (.int (iI (le1 V o))), some (.int (iI (bs1 V o))), some (.int (iI k)), o5] [] (zm N xs M L) = zz_X (zz_call_ d) tb_229 15 [some (.ref 52), some (.int n), some (.int (iI (le1 V (fo (feK V N9) (coK V 1) c k o)))), some (.int (iI (bs1 V (fo (feK V N9) (coK V 1) c k o)))), some (.int (iI ((5 ^ V.n : Nat) : Int))), o5'] [] (zm N xs M' L)
  | 0, k, o, M, o5, hc, hr, hct => by
    have h5 : (5 : Nat) ^ V.n ≤ 5 ^ 6 := Nat.pow_le_pow_right (by omega) hk.n
    refine ⟨M, o5, eqs.rf, fun d hd N xs => ?_⟩
    rw [b_229_5, g_226 M L V hk hr (by omega), b_229_6, if_pos (by rw [show k = 5 ^ V.n by omega, t_le]; omega), show k = 5 ^ V.n by omega]
    rfl
  | c + 1, k, o, M, o5, hc, hr, hct => by
    have h5 : (5 : Nat) ^ V.n ≤ 5 ^ 6 := Nat.pow_le_pow_right (by omega) hk.n
    have hb := ct_b hk k
    have hit : it V k = 2000 * hi V (dg V.n k) V.n + 100 * tC (dg V.n k) V.n + tS (dg V.n k) V.n := rfl
    have hle : le1 V o ≤ 1000000 := by
      cases o with
      | none => exact Nat.le_refl _
      | some x =>
        have h2 := ct_b hk x
        show it V x ≤ 1000000
        unfold it
        omega
    have hI := iso hk k o
    obtain ⟨M1, r1, r2, r3⟩ := x_225 L M hk hr N9 hct k (by omega)
    have hr1 : Rv V (M1 53) 0 := by rw [p64_53 r1]; exact hr
    have efo : fo (feK V N9) (coK V 1) (c + 1) k o = fo (feK V N9) (coK V 1) c (k + 1) (stO (feK V N9) (coK V 1) o k) := rfl
    rw [efo]
    by_cases q : feK V N9 k
    · obtain ⟨M', o5', p1, p3⟩ := l_229 hk N9 n c (k + 1) (stO (feK V N9) (coK V 1) o k) M1 (some (.int (iI (it V k)))) (by omega) hr1 (p64_C hct r1)
      refine ⟨M', o5', r1.tr p1, fun d hd N xs => ?_⟩
      have ih := p3 d hd N xs
      have g159 := g_159 (d := d) (N := N) (xs := xs) (tb_ := tb_229) (t_ := 9) (ls_ := [some (.ref 52), some (.int n), some (.int (iI (le1 V o))), some (.int (iI (bs1 V o))), some (.int (iI k)), o5]) (rest_ := [.int 100, .int (1000 * iI ((2 * hi V (dg V.n k) V.n : Nat) : Int))]) M1 L (tS (dg V.n k) V.n) (by omega) (by omega)
      rw [on_tS hk] at g159
      rw [b_229_5, g_226 M L V hk hr (by omega), b_229_6, if_neg (by rw [t_le, iI_to (by omega) (by omega), iI_to (by omega) (by omega)]; omega), r3.go (by omega), b_229_7, b2_t q, if_neg (show ¬ iI 1 = (0 : Int32) from iI10), r2, g_228 M1 L V hk hr1 _ (by omega), b_229_8, r2]
      refine Eq.trans g159 ?_
      rw [b_229_9, r2, show (100 : Int32) = iI 100 from rfl, show (1000 : Int32) = iI 1000 from rfl, iI_mul, iI_mul, iI_add, iI_add, show (1000 : Int) * ((2 * hi V (dg V.n k) V.n : Nat) : Int) + 100 * ((tC (dg V.n k) V.n : Nat) : Int) + ((tS (dg V.n k) V.n : Nat) : Int) = ((it V k : Nat) : Int) by rw [hit]; omega]
      by_cases q2 : coK V 1 k < bc (coK V 1) o
      · have q3 := hI.1 q2
        have es : stO (feK V N9) (coK V 1) o k = some k := if_pos ⟨q, q2⟩
        rw [es] at ih ⊢
        rw [if_neg (by rw [t_le, iI_to (by omega) (by omega), iI_to (by omega) (by omega)]; omega), b_229_11, if_neg (by rw [t_le, iI_to (by omega) (by omega), iI_to (by omega) (by omega)]; omega), b_229_13, b_229_14, show (1 : Int32) = iI 1 from rfl, iI_add]
        exact ih
      · have q3 : ¬ it V k < le1 V o := fun e => q2 (hI.2 e)
        have es : stO (feK V N9) (coK V 1) o k = o := if_neg (fun e => q2 e.2)
        rw [es] at ih ⊢
        rw [if_pos (by rw [t_le, iI_to (by omega) (by omega), iI_to (by omega) (by omega)]; omega), b_229_10, b_229_11, if_pos (by rw [t_le, iI_to (by omega) (by omega), iI_to (by omega) (by omega)]; omega), b_229_12, b_229_13, b_229_14, show (1 : Int32) = iI 1 from rfl, iI_add]
        exact ih
    · obtain ⟨M', o5', p1, p3⟩ := l_229 hk N9 n c (k + 1) (stO (feK V N9) (coK V 1) o k) M1 o5 (by omega) hr1 (p64_C hct r1)
      refine ⟨M', o5', r1.tr p1, fun d hd N xs => ?_⟩
      have ih := p3 d hd N xs
      have es : stO (feK V N9) (coK V 1) o k = o := if_neg (fun e => q e.1)
      rw [es] at ih ⊢
      rw [b_229_5, g_226 M L V hk hr (by omega), b_229_6, if_neg (by rw [t_le, iI_to (by omega) (by omega), iI_to (by omega) (by omega)]; omega), r3.go (by omega), b_229_7, b2_f q, if_pos (show iI 0 = (0 : Int32) from rfl), b_229_14, show (1 : Int32) = iI 1 from rfl, iI_add]
      exact ih
end ZL
section ZR
variable (M : Nat → Nat → Int32) (L : Nat → Nat → Int64)
theorem s_122B (z : Int) (h1 : -2147483648 ≤ z) (h2 : z ≤ 2147483647) (h : ¬ (0 ≤ z ∧ z ≤ 7)) : zc 5 122 [.ref 0, .int (iI z)] M L (some (.int (iI (-1)))) M L := by
  refine zc_of (n := 4) (ls := [some (.ref 0), some (.int (iI z))]) mk_122 rfl rfl rfl rfl (fun d hd N xs => ?_)
  simp (disch := first | omega | assumption) only [b_122_0, b_122_1, iI_lit, iI_neg, iI_add, iI_sub, iI_mul, t_lt, t_le, t_eq, iI_to, b2_to, if_10, if_11, nor_em, Decidable.not_not, Int.reduceEq, Int.reduceLT, Int.reduceLE, Int.reduceAdd, Int.reduceSub, Int.reduceMul, Int.reduceNeg, reduceIte, or_true, true_or, or_false, false_or, o_some]
  repeat' split
  all_goals first | rfl | (exfalso; omega)
theorem g_122B (z : Int) (h1 : -2147483648 ≤ z) (h2 : z ≤ 2147483647) (h : ¬ (0 ≤ z ∧ z ≤ 7)) {d N : Nat} {xs : Nat → Int32} {tb_ : List zz_B} {t_ : Nat} {ls_ : zz_L} {rest_ : List Value} (hd_ : 5 ≤ d) : (zz_o (zz_call_ d 122 [.ref 0, .int (iI z)] (zm N xs M L)) fun r => zz_X (zz_call_ d) tb_ t_ ls_ (r.1.toList ++ rest_) r.2) = zz_X (zz_call_ d) tb_ t_ ls_ ((.int (iI (-1))) :: rest_) (zm N xs M L) := (s_122B M L z h1 h2 h).go hd_
theorem s_122Z (z : Int) (h : 0 ≤ z ∧ z ≤ 7) (h0 : M 23 10 = iI 0) : zc 5 122 [.ref 0, .int (iI z)] M L (some (.int (iI (-4)))) M L := by
  refine zc_of (n := 4) (ls := [some (.ref 0), some (.int (iI z))]) mk_122 rfl rfl rfl rfl (fun d hd N xs => ?_)
  rw [b_122_0, if_neg (by rw [t_lt, show (0 : Int32).toInt = 0 from rfl, iI_to (by omega) (by omega)]; omega), if_pos (by rw [t_le, show (7 : Int32).toInt = 7 from rfl, iI_to (by omega) (by omega)]; omega), b_122_2, h0, if_pos (show iI 0 = (0 : Int32) from rfl)]
  rfl
theorem g_122Z (z : Int) (h : 0 ≤ z ∧ z ≤ 7) (h0 : M 23 10 = iI 0) {d N : Nat} {xs : Nat → Int32} {tb_ : List zz_B} {t_ : Nat} {ls_ : zz_L} {rest_ : List Value} (hd_ : 5 ≤ d) : (zz_o (zz_call_ d 122 [.ref 0, .int (iI z)] (zm N xs M L)) fun r => zz_X (zz_call_ d) tb_ t_ ls_ (r.1.toList ++ rest_) r.2) = zz_X (zz_call_ d) tb_ t_ ls_ ((.int (iI (-4))) :: rest_) (zm N xs M L) := (s_122Z M L z h h0).go hd_
theorem s_229B (z : Int) (h1 : -2147483648 ≤ z) (h2 : z ≤ 2147483647) (h : ¬ (0 ≤ z ∧ z ≤ 7)) : zc 5 229 [.ref 52, .int (iI z)] M L (some (.int (iI (-1)))) M L := by
  refine zc_of (n := 4) (ls := [some (.ref 52), some (.int (iI z)), none, none, none, none]) mk_229 rfl rfl rfl rfl (fun d hd N xs => ?_)
  rw [b_229_0, iI_long h1 h2, lI_lit, lI_lit, g_157 M L z 0 7 (by omega) (by omega) (by omega) (by omega) (by omega) (by omega) (by omega), b2_f h, b_229_1, if_pos (show iI 0 = (0 : Int32) from rfl)]
  rfl
theorem g_229B (z : Int) (h1 : -2147483648 ≤ z) (h2 : z ≤ 2147483647) (h : ¬ (0 ≤ z ∧ z ≤ 7)) {d N : Nat} {xs : Nat → Int32} {tb_ : List zz_B} {t_ : Nat} {ls_ : zz_L} {rest_ : List Value} (hd_ : 5 ≤ d) : (zz_o (zz_call_ d 229 [.ref 52, .int (iI z)] (zm N xs M L)) fun r => zz_X (zz_call_ d) tb_ t_ ls_ (r.1.toList ++ rest_) r.2) = zz_X (zz_call_ d) tb_ t_ ls_ ((.int (iI (-1))) :: rest_) (zm N xs M L) := (s_229B M L z h1 h2 h).go hd_
theorem s_229Z (z : Int) (h : 0 ≤ z ∧ z ≤ 7) (h0 : M 53 0 = iI 0) : zc 5 229 [.ref 52, .int (iI z)] M L (some (.int (iI (-4)))) M L := by
  refine zc_of (n := 4) (ls := [some (.ref 52), some (.int (iI z)), none, none, none, none]) mk_229 rfl rfl rfl rfl (fun d hd N xs => ?_)
  rw [b_229_0, iI_long (by omega) (by omega), lI_lit, lI_lit, g_157 M L z 0 7 (by omega) (by omega) (by omega) (by omega) (by omega) (by omega) (by omega), b2_t h, b_229_1, if_neg (show ¬ iI 1 = (0 : Int32) from iI10), b_229_2, h0, if_pos (show iI 0 = (0 : Int32) from rfl)]
  rfl
theorem g_229Z (z : Int) (h : 0 ≤ z ∧ z ≤ 7) (h0 : M 53 0 = iI 0) {d N : Nat} {xs : Nat → Int32} {tb_ : List zz_B} {t_ : Nat} {ls_ : zz_L} {rest_ : List Value} (hd_ : 5 ≤ d) : (zz_o (zz_call_ d 229 [.ref 52, .int (iI z)] (zm N xs M L)) fun r => zz_X (zz_call_ d) tb_ t_ ls_ (r.1.toList ++ rest_) r.2) = zz_X (zz_call_ d) tb_ t_ ls_ ((.int (iI (-4))) :: rest_) (zm N xs M L) := (s_229Z M L z h h0).go hd_
theorem s_121B (z y : Int) (h1 : -2147483648 ≤ z) (h2 : z ≤ 2147483647) (h3 : -2147483648 ≤ y) (h4 : y ≤ 2147483647) (h : ¬ ((0 ≤ z ∧ z ≤ 7) ∧ 0 ≤ y ∧ y < 6)) : zc 5 121 [.ref 0, .int (iI z), .int (iI y)] M L (some (.int (iI (-1)))) M L := by
  refine zc_of (n := 4) (ls := [some (.ref 0), some (.int (iI z)), some (.int (iI y)), none]) mk_121 rfl rfl rfl rfl (fun d hd N xs => ?_)
  simp (disch := first | omega | assumption) only [b_121_0, b_121_1, b_121_2, g_11a, iI_lit, iI_neg, iI_add, iI_sub, iI_mul, t_lt, t_le, t_eq, iI_to, b2_to, if_10, if_11, nor_em, Decidable.not_not, Int.reduceEq, Int.reduceLT, Int.reduceLE, Int.reduceAdd, Int.reduceSub, Int.reduceMul, Int.reduceNeg, reduceIte, or_true, true_or, or_false, false_or, o_some]
  repeat' split
  all_goals first | rfl | (exfalso; omega)
theorem g_121B (z y : Int) (h1 : -2147483648 ≤ z) (h2 : z ≤ 2147483647) (h3 : -2147483648 ≤ y) (h4 : y ≤ 2147483647) (h : ¬ ((0 ≤ z ∧ z ≤ 7) ∧ 0 ≤ y ∧ y < 6)) {d N : Nat} {xs : Nat → Int32} {tb_ : List zz_B} {t_ : Nat} {ls_ : zz_L} {rest_ : List Value} (hd_ : 5 ≤ d) : (zz_o (zz_call_ d 121 [.ref 0, .int (iI z), .int (iI y)] (zm N xs M L)) fun r => zz_X (zz_call_ d) tb_ t_ ls_ (r.1.toList ++ rest_) r.2) = zz_X (zz_call_ d) tb_ t_ ls_ ((.int (iI (-1))) :: rest_) (zm N xs M L) := (s_121B M L z y h1 h2 h3 h4 h).go hd_
theorem s_121Z (z y : Int) (h : (0 ≤ z ∧ z ≤ 7) ∧ 0 ≤ y ∧ y < 6) (h0 : M 23 10 = iI 0) : zc 5 121 [.ref 0, .int (iI z), .int (iI y)] M L (some (.int (iI (-4)))) M L := by
  refine zc_of (n := 4) (ls := [some (.ref 0), some (.int (iI z)), some (.int (iI y)), none]) mk_121 rfl rfl rfl rfl (fun d hd N xs => ?_)
  rw [b_121_0, if_neg (by rw [t_lt, show (0 : Int32).toInt = 0 from rfl, iI_to (by omega) (by omega)]; omega), if_neg (by rw [t_lt, show (7 : Int32).toInt = 7 from rfl, iI_to (by omega) (by omega)]; omega), g_11a M L y (by omega) (by omega) (by omega), b2_t (by omega), b_121_1, if_neg (show ¬ iI 1 = (0 : Int32) from iI10), b_121_3, h0, if_pos (show iI 0 = (0 : Int32) from rfl)]
  rfl
theorem g_121Z (z y : Int) (h : (0 ≤ z ∧ z ≤ 7) ∧ 0 ≤ y ∧ y < 6) (h0 : M 23 10 = iI 0) {d N : Nat} {xs : Nat → Int32} {tb_ : List zz_B} {t_ : Nat} {ls_ : zz_L} {rest_ : List Value} (hd_ : 5 ≤ d) : (zz_o (zz_call_ d 121 [.ref 0, .int (iI z), .int (iI y)] (zm N xs M L)) fun r => zz_X (zz_call_ d) tb_ t_ ls_ (r.1.toList ++ rest_) r.2) = zz_X (zz_call_ d) tb_ t_ ls_ ((.int (iI (-4))) :: rest_) (zm N xs M L) := (s_121Z M L z y h h0).go hd_
theorem s_227B (z y : Int) (h1 : -2147483648 ≤ z) (h2 : z ≤ 2147483647) (h3 : -2147483648 ≤ y) (h4 : y ≤ 2147483647) (h : ¬ ((0 ≤ z ∧ z ≤ 7) ∧ 0 ≤ y ∧ y < 6)) : zc 5 227 [.ref 52, .int (iI z), .int (iI y)] M L (some (.int (iI (-1)))) M L := by
  refine zc_of (n := 4) (ls := [some (.ref 52), some (.int (iI z)), some (.int (iI y)), none, none, none]) mk_227 rfl rfl rfl rfl (fun d hd N xs => ?_)
  rw [b_227_0, iI_long h1 h2, lI_lit, lI_lit, g_157 M L z 0 7 (by omega) (by omega) (by omega) (by omega) (by omega) (by omega) (by omega), b_227_1]
  by_cases q : 0 ≤ z ∧ z ≤ 7
  · rw [b2_t q, if_neg (show ¬ iI 1 = (0 : Int32) from iI10), g_164 M L y h3 h4 (by omega), b2_f (by omega), b_227_2, if_pos (show iI 0 = (0 : Int32) from rfl), b_227_3]
    rfl
  · rw [b2_f q, if_pos (show iI 0 = (0 : Int32) from rfl), b_227_3]
    rfl
theorem g_227B (z y : Int) (h1 : -2147483648 ≤ z) (h2 : z ≤ 2147483647) (h3 : -2147483648 ≤ y) (h4 : y ≤ 2147483647) (h : ¬ ((0 ≤ z ∧ z ≤ 7) ∧ 0 ≤ y ∧ y < 6)) {d N : Nat} {xs : Nat → Int32} {tb_ : List zz_B} {t_ : Nat} {ls_ : zz_L} {rest_ : List Value} (hd_ : 5 ≤ d) : (zz_o (zz_call_ d 227 [.ref 52, .int (iI z), .int (iI y)] (zm N xs M L)) fun r => zz_X (zz_call_ d) tb_ t_ ls_ (r.1.toList ++ rest_) r.2) = zz_X (zz_call_ d) tb_ t_ ls_ ((.int (iI (-1))) :: rest_) (zm N xs M L) := (s_227B M L z y h1 h2 h3 h4 h).go hd_
theorem s_227Z (z y : Int) (h : (0 ≤ z ∧ z ≤ 7) ∧ 0 ≤ y ∧ y < 6) (h0 : M 53 0 = iI 0) : zc 5 227 [.ref 52, .int (iI z), .int (iI y)] M L (some (.int (iI (-4)))) M L := by
  refine zc_of (n := 4) (ls := [some (.ref 52), some (.int (iI z)), some (.int (iI y)), none, none, none]) mk_227 rfl rfl rfl rfl (fun d hd N xs => ?_)
  rw [b_227_0, iI_long (by omega) (by omega), lI_lit, lI_lit, g_157 M L z 0 7 (by omega) (by omega) (by omega) (by omega) (by omega) (by omega) (by omega), b_227_1, b2_t h.1, if_neg (show ¬ iI 1 = (0 : Int32) from iI10), g_164 M L y (by omega) (by omega) (by omega), b2_t h.2, b_227_2, if_neg (show ¬ iI 1 = (0 : Int32) from iI10), b_227_4, h0, if_pos (show iI 0 = (0 : Int32) from rfl)]
  rfl
theorem g_227Z (z y : Int) (h : (0 ≤ z ∧ z ≤ 7) ∧ 0 ≤ y ∧ y < 6) (h0 : M 53 0 = iI 0) {d N : Nat} {xs : Nat → Int32} {tb_ : List zz_B} {t_ : Nat} {ls_ : zz_L} {rest_ : List Value} (hd_ : 5 ≤ d) : (zz_o (zz_call_ d 227 [.ref 52, .int (iI z), .int (iI y)] (zm N xs M L)) fun r => zz_X (zz_call_ d) tb_ t_ ls_ (r.1.toList ++ rest_) r.2) = zz_X (zz_call_ d) tb_ t_ ls_ ((.int (iI (-4))) :: rest_) (zm N xs M L) := (s_227Z M L z y h h0).go hd_
end ZR
theorem p80_A {M M' : Nat → Nat → Int32} (h : eqs M M' p80) : eqs M M' pA := h.im (fun c k q => by unfold pA pR pT pD pF pH at q; unfold p80; omega)
theorem p63_A {M M' : Nat → Nat → Int32} (h : eqs M M' p63) : eqs M M' pA := h.im (fun c k q => by unfold pA pR pT pD pF pH at q; unfold p63 p2; omega)
theorem p64_A {M M' : Nat → Nat → Int32} (h : eqs M M' p64) : eqs M M' pA := h.im (fun c k q => by unfold pA pR pT pD pF pH at q; unfold p64; omega)
theorem o_stairs {M : Nat → Nat → Int32} {L : Nat → Nat → Int64} (x : Int32) (hI : Inv M L) : Ok 122 229 [.int x] M L := by
  obtain ⟨z, h1, h2, rfl⟩ := iI_of x
  obtain ⟨V, hk, hv, hr⟩ := hI.view
  have hn6 := hk.n
  by_cases q : 0 ≤ z ∧ z ≤ 7
  · by_cases q0 : V.n = 0
    · exact Ok.same hI (s_122Z M L z q (by rw [hv.n, q0]; rfl)) (s_229Z M L z q (by rw [show M 53 0 = iI V.n from hr.n, q0]; rfl)) (by omega) (by omega)
    · obtain ⟨n, rfl⟩ : ∃ y : Nat, z = y := ⟨z.toNat, by omega⟩
      obtain ⟨M1, L1, r1, r2, r3, r4⟩ := x_72 L hk hv n (by omega)
      obtain ⟨M2, u1, u2, u3, u4⟩ := x_80 L1 hk (n + 1) 1 (by omega) r3
      generalize ho : fo (feK V (n + 1)) (coK V 1) (5 ^ V.n) 0 none = o at *
      have hhead : ∀ d, 13 ≤ d → ∀ N xs, zz_X (zz_call_ d) tb_122 0 [some (.ref 0), some (.int (iI n))] [] (zm N xs M L) = zz_X (zz_call_ d) tb_122 5 [some (.ref 0), some (.int (iI n))] [.int (b2 (o ≠ none))] (zm N xs M2 L1) := by
        intro d hd N xs
        rw [b_122_0, if_neg (by rw [t_lt, show (0 : Int32).toInt = 0 from rfl, iI_to (by omega) (by omega)]; omega), if_pos (by rw [t_le, show (7 : Int32).toInt = 7 from rfl, iI_to (by omega) (by omega)]; omega), b_122_2, hv.n, if_neg (by rw [t_eq, show (0 : Int32).toInt = 0 from rfl, iI_to (by omega) (by omega)]; omega), b_122_3, r4.gov (by omega), b_122_4]
        exact u4.go (by omega)
      have rhead : ∀ (MX : Nat → Nat → Int32), Rv V (MX 53) 0 → ∃ M' o5, eqs MX M' pA ∧ Rv V (M' 53) 0 ∧ ∀ d, 6 ≤ d → ∀ N xs, zz_X (zz_call_ d) tb_229 0 [some (.ref 52), some (.int (iI n)), none, none, none, none] [] (zm N xs MX L1) = zz_X (zz_call_ d) tb_229 15 [some (.ref 52), some (.int (iI n)), some (.int (iI (le1 V o))), some (.int (iI (bs1 V o))), some (.int (iI ((5 ^ V.n : Nat) : Int))), o5] [] (zm N xs M' L1) := by
        intro MX hrx
        have e0 : MX 53 0 = iI V.n := hrx.n
        obtain ⟨M3, v1, v2, v3⟩ := x_224 L1 MX hk hrx n (by omega)
        have hr3 : Rv V (M3 53) 0 := by rw [p63_53 v1]; exact hrx
        obtain ⟨M4, o5, w1, w2⟩ := l_229 L1 hk (n + 1) (iI n) (5 ^ V.n) 0 none M3 none (by omega) hr3 v2
        rw [ho] at w2
        refine ⟨M4, o5, (p63_A v1).tr (p64_A w1), by rw [p64_53 w1]; exact hr3, fun d hd N xs => ?_⟩
        rw [b_229_0, iI_long (by omega) (by omega), lI_lit, lI_lit, g_157 _ L1 n 0 7 (by omega) (by omega) (by omega) (by omega) (by omega) (by omega) (by omega), b2_t (by omega), b_229_1, if_neg (show ¬ iI 1 = (0 : Int32) from iI10), b_229_2, e0, if_neg (by rw [t_eq, show (0 : Int32).toInt = 0 from rfl, iI_to (by omega) (by omega)]; omega), b_229_3, v3.gov (by omega), b_229_4]
        exact w2 d (by omega) N xs
      have e53 : M2 53 = M 53 := by rw [u1.col 53 (fun k => ⟨by omega, by omega, Or.inl (by omega)⟩)]; exact r1.col 53 (fun k => Or.inr (by omega))
      cases o with
      | none =>
        obtain ⟨M4, o5, a1, a2, a3⟩ := rhead M2 (by rw [e53]; exact hr)
        refine ⟨.int (iI (-9)), M2, L1, M4, L1, zc.mono (n := 14) (zc_of (n := 13) (ls := [some (.ref 0), some (.int (iI n))]) mk_122 rfl rfl rfl rfl (fun d hd N xs => ?_)) (by omega), zc.mono (n := 7) (zc_of (n := 6) (ls := [some (.ref 52), some (.int (iI n)), none, none, none, none]) mk_229 rfl rfl rfl rfl (fun d hd N xs => ?_)) (by omega), hI.cg ((p39_A r1).tr ((p80_A u1).tr a1)) r2⟩
        · rw [hhead d hd N xs, b2_f (fun e => e rfl), b_122_5, if_pos (show iI 0 = (0 : Int32) from rfl)]
          rfl
        · rw [a3 d hd N xs, b_229_15, if_pos (show iI ((le1 V none : Nat) : Int) = (1000000 : Int32) from rfl), b_229_18]
          rfl
      | some k =>
        have hb := ct_b hk k
        have hc := co_1 hk k
        have h8 : M2 38 8 = iI ((coK V 1 k : Nat) : Int) := u2
        have e63 : iI ((coK V 1 k : Nat) : Int) &&& 63 = iI (tS (dg V.n k) V.n) := by
          rw [show (63 : Int32) = iI ((63 : Nat) : Int) from rfl, iN_and (by omega) (by omega), show (63 : Nat) = 2 ^ 6 - 1 from rfl, Nat.and_two_pow_sub_one_eq_mod, hc]
          congr 2
          omega
        have e10 : iI ((coK V 1 k : Nat) : Int) >>> ((10 : Int32) &&& 31) = iI ((2 * hi V (dg V.n k) V.n : Nat) : Int) := by
          rw [show (10 : Int32) = iI ((10 : Nat) : Int) from rfl, iN_shr (by omega) (by omega), Nat.shiftRight_eq_div_pow, hc]
          congr 2
          omega
        obtain ⟨M4, o5, a1, a2, a3⟩ := rhead (zz_wI M2 0 10 (iI (tS (dg V.n k) V.n))) (by rw [w_ne (by omega), e53]; exact hr)
        refine Ok.tells (n := 14) (n' := 7) (v := .int (iI ((2 * hi V (dg V.n k) V.n : Nat) : Int))) (x := iI (tS (dg V.n k) V.n)) (M1 := zz_wI M2 0 10 (iI (tS (dg V.n k) V.n))) (L1 := L1) (M2 := zz_wI M4 52 10 (iI (tS (dg V.n k) V.n))) (L2 := L1) hI (zc_of (n := 13) (ls := [some (.ref 0), some (.int (iI n))]) mk_122 rfl rfl rfl rfl (fun d hd N xs => ?_)) (zc_of (n := 6) (ls := [some (.ref 52), some (.int (iI n)), none, none, none, none]) mk_229 rfl rfl rfl rfl (fun d hd N xs => ?_)) (eqs.ww ((p39_A r1).tr (p80_A u1))) (eqs.ww a1) r2 SL.rf (by omega) (by omega)
        · have c87 : zc 1 87 [.ref 38] M2 L1 (some (.int (iI (tS (dg V.n k) V.n)))) M2 L1 := zc_of (n := 0) (ls := [some (.ref 38)]) mk_87 rfl rfl rfl rfl (fun d hd N xs => by rw [b_87_0, h8, e63])
          have c86 : zc 1 86 [.ref 38] (zz_wI M2 0 10 (iI (tS (dg V.n k) V.n))) L1 (some (.int (iI ((2 * hi V (dg V.n k) V.n : Nat) : Int)))) (zz_wI M2 0 10 (iI (tS (dg V.n k) V.n))) L1 := zc_of (n := 0) (ls := [some (.ref 38)]) mk_86 rfl rfl rfl rfl (fun d hd N xs => by rw [b_86_0, w_ne (by omega : (38 : Nat) ≠ 0), h8, e10])
          rw [hhead d hd N xs, b2_t (fun e => by cases e), b_122_5, if_neg (show ¬ iI 1 = (0 : Int32) from iI10), b_122_6, c87.go (by omega), b_122_7, c86.go (by omega), b_122_8]
        · have hle : le1 V (some k) < 1000000 := by show it V k < 1000000; unfold it; omega
          rw [a3 d hd N xs, b_229_15, if_neg (by rw [t_eq, show (1000000 : Int32).toInt = 1000000 from rfl, iI_to (by omega) (by omega)]; omega), b_229_16, show iI ((bs1 V (some k) : Nat) : Int) = iI (tS (dg V.n k) V.n) from rfl, g_228 M4 L1 V hk a2 _ (by omega), b_229_17, g_162 _ _ _ _ (by omega), b_229_18]
  · exact Ok.same hI (s_122B M L z h1 h2 q) (s_229B M L z h1 h2 q) (by omega) (by omega)

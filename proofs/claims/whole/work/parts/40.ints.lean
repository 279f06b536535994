/-! ints as whole numbers: iI z. -/
def iI (z : Int) : Int32 := Int32.ofInt z
def lI (z : Int) : Int64 := Int64.ofInt z
theorem iI_add (a b : Int) : iI a + iI b = iI (a + b) := (Int32.ofInt_add a b).symm
theorem iI_sub (a b : Int) : iI a - iI b = iI (a - b) := (Int32.ofInt_sub a b).symm
theorem iI_mul (a b : Int) : iI a * iI b = iI (a * b) := (Int32.ofInt_mul a b).symm
theorem iI_neg (a : Int) : -iI a = iI (-a) := (Int32.ofInt_neg a).symm
theorem lI_add (a b : Int) : lI a + lI b = lI (a + b) := (Int64.ofInt_add a b).symm
theorem lI_sub (a b : Int) : lI a - lI b = lI (a - b) := (Int64.ofInt_sub a b).symm
theorem lI_mul (a b : Int) : lI a * lI b = lI (a * b) := (Int64.ofInt_mul a b).symm
theorem lI_neg (a : Int) : -lI a = lI (-a) := (Int64.ofInt_neg a).symm
theorem iI_lit (n : Nat) : (OfNat.ofNat n : Int32) = iI (OfNat.ofNat n : Int) := (congrArg id (Eq.refl (OfNat.ofNat n : Int32))).trans (congrArg id (Eq.refl _))
theorem lI_lit (n : Nat) : (OfNat.ofNat n : Int64) = lI (OfNat.ofNat n : Int) := (congrArg id (Eq.refl (OfNat.ofNat n : Int64))).trans (congrArg id (Eq.refl _))
theorem nI_iI (n : Nat) : nI n = iI n := rfl
theorem ofNat_iI (n : Nat) : Int32.ofNat n = iI n := rfl
theorem iI_to {z : Int} (h1 : -2147483648 ≤ z) (h2 : z ≤ 2147483647) : (iI z).toInt = z := by
  have e : (2:Int)^31 = 2147483648 := by decide
  exact Int32.toInt_ofInt_of_le (by omega) (by omega)
theorem lI_to {z : Int} (h1 : -9223372036854775808 ≤ z) (h2 : z ≤ 9223372036854775807) : (lI z).toInt = z := by
  have e : (2:Int)^63 = 9223372036854775808 := by decide
  exact Int64.toInt_ofInt_of_le (by omega) (by omega)
theorem iI_of (x : Int32) : ∃ z : Int, -2147483648 ≤ z ∧ z ≤ 2147483647 ∧ x = iI z := by
  have e : (2:Int)^31 = 2147483648 := by decide
  have h1 := Int32.le_toInt x
  have h2 := Int32.toInt_lt x
  exact ⟨x.toInt, by omega, by omega, by simp [iI]⟩
theorem lI_of (x : Int64) : ∃ z : Int, -9223372036854775808 ≤ z ∧ z ≤ 9223372036854775807 ∧ x = lI z := by
  have e : (2:Int)^63 = 9223372036854775808 := by decide
  have h1 := Int64.le_toInt x
  have h2 := Int64.toInt_lt x
  exact ⟨x.toInt, by omega, by omega, by simp [lI]⟩
theorem iI_lt {a b : Int} (h1 : -2147483648 ≤ a) (h2 : a ≤ 2147483647) (h3 : -2147483648 ≤ b) (h4 : b ≤ 2147483647) : (iI a < iI b) = (a < b) := by
  rw [Int32.lt_iff_toInt_lt, iI_to h1 h2, iI_to h3 h4]
theorem iI_le {a b : Int} (h1 : -2147483648 ≤ a) (h2 : a ≤ 2147483647) (h3 : -2147483648 ≤ b) (h4 : b ≤ 2147483647) : (iI a ≤ iI b) = (a ≤ b) := by
  rw [Int32.le_iff_toInt_le, iI_to h1 h2, iI_to h3 h4]
theorem iI_eq {a b : Int} (h1 : -2147483648 ≤ a) (h2 : a ≤ 2147483647) (h3 : -2147483648 ≤ b) (h4 : b ≤ 2147483647) : (iI a = iI b) = (a = b) := by
  rw [← Int32.toInt_inj, iI_to h1 h2, iI_to h3 h4]
theorem lI_lt {a b : Int} (h1 : -9223372036854775808 ≤ a) (h2 : a ≤ 9223372036854775807) (h3 : -9223372036854775808 ≤ b) (h4 : b ≤ 9223372036854775807) : (lI a < lI b) = (a < b) := by
  rw [Int64.lt_iff_toInt_lt, lI_to h1 h2, lI_to h3 h4]
theorem lI_eq {a b : Int} (h1 : -9223372036854775808 ≤ a) (h2 : a ≤ 9223372036854775807) (h3 : -9223372036854775808 ≤ b) (h4 : b ≤ 9223372036854775807) : (lI a = lI b) = (a = b) := by
  rw [← Int64.toInt_inj, lI_to h1 h2, lI_to h3 h4]
theorem iI_long {z : Int} (h1 : -2147483648 ≤ z) (h2 : z ≤ 2147483647) : (iI z).toInt64 = lI z := by
  rw [← Int64.toInt_inj, Int32.toInt_toInt64, iI_to h1 h2, lI_to (by omega) (by omega)]
theorem lI_int (z : Int) : (lI z).toInt32 = iI z := Int64.toInt32_ofInt
theorem i32min : Int32.minValue.toInt = -2147483648 := by decide
theorem i32max : Int32.maxValue.toInt = 2147483647 := by decide
theorem i64min : Int64.minValue.toInt = -9223372036854775808 := by decide
theorem i64max : Int64.maxValue.toInt = 9223372036854775807 := by decide
theorem iI_div {a b : Int} (h1 : -2147483648 ≤ a) (h2 : a ≤ 2147483647) (h3 : -2147483648 ≤ b) (h4 : b ≤ 2147483647) : iI a / iI b = iI (a.tdiv b) := (Int32.ofInt_tdiv (by rw [i32min]; omega) (by rw [i32max]; omega) (by rw [i32min]; omega) (by rw [i32max]; omega)).symm
theorem lI_div {a b : Int} (h1 : -9223372036854775808 ≤ a) (h2 : a ≤ 9223372036854775807) (h3 : -9223372036854775808 ≤ b) (h4 : b ≤ 9223372036854775807) : lI a / lI b = lI (a.tdiv b) := (Int64.ofInt_tdiv (by rw [i64min]; omega) (by rw [i64max]; omega) (by rw [i64min]; omega) (by rw [i64max]; omega)).symm
theorem iI_rem {a b : Int} (h1 : -2147483648 ≤ a) (h2 : a ≤ 2147483647) (h3 : -2147483648 ≤ b) (h4 : b ≤ 2147483647) : iI a - iI a / iI b * iI b = iI (a.tmod b) := by
  rw [iI_div h1 h2 h3 h4, iI_mul, iI_sub, Int.tmod_def, Int.mul_comm]
theorem lI_rem {a b : Int} (h1 : -9223372036854775808 ≤ a) (h2 : a ≤ 9223372036854775807) (h3 : -9223372036854775808 ≤ b) (h4 : b ≤ 9223372036854775807) : lI a - lI a / lI b * lI b = lI (a.tmod b) := by
  rw [lI_div h1 h2 h3 h4, lI_mul, lI_sub, Int.tmod_def, Int.mul_comm]
theorem iI_clamp {z : Int} (h1 : -2147483648 ≤ z) (h2 : z ≤ 2147483647) : (iI z).toNatClampNeg = z.toNat := by
  have e : (2:Int)^31 = 2147483648 := by decide
  exact Int32.toNatClampNeg_ofInt_of_le (by omega) (by omega)
/-- an index that is within -/
theorem ix_in {z : Int} {n : Nat} (h1 : 0 ≤ z) (h2 : z < n) (h3 : z ≤ 2147483647) : zz_ix (iI z) n = some z.toNat := by
  unfold zz_ix
  rw [iI_clamp (by omega) h3, if_neg]
  rintro (h | h)
  · have : (0 : Int32) = iI 0 := rfl
    rw [this, iI_lt (by omega) h3 (by omega) (by omega)] at h
    omega
  · omega
theorem ix_nat {k n : Nat} (h : k < n) (hn : n ≤ 2147483647) : zz_ix (iI k) n = some k := by
  rw [ix_in (by omega) (by omega) (by omega)]
  simp
theorem lg_lI {a b : Int} (h1 : -9223372036854775808 ≤ a) (h2 : a ≤ 9223372036854775807) (h3 : -9223372036854775808 ≤ b) (h4 : b ≤ 9223372036854775807) : lg_cmp (lI a) (lI b) = if b < a then 1 else if a = b then 0 else -1 := by
  unfold lg_cmp
  simp only [gt_iff_lt, lI_lt h3 h4 h1 h2, lI_eq h1 h2 h3 h4]
theorem o_some {α : Type} (a : α) (f : α → Option zz_R) : zz_o (some a) f = f a := rfl
/-- yes or no as an int -/
def b2 (p : Prop) [Decidable p] : Int32 := if p then iI 1 else iI 0
theorem b2_t {p : Prop} [Decidable p] (h : p) : b2 p = iI 1 := if_pos h
theorem b2_f {p : Prop} [Decidable p] (h : ¬ p) : b2 p = iI 0 := if_neg h
theorem b2_0 {p : Prop} [Decidable p] : (b2 p = iI 0) = ¬ p := by
  unfold b2
  by_cases h : p
  · simp only [h, if_true, not_true_eq_false, eq_iff_iff, iff_false]; decide
  · simp [h]
theorem b2_01 (p : Prop) [Decidable p] : b2 p = iI 0 ∨ b2 p = iI 1 := by
  unfold b2
  split <;> simp
theorem b2_cg {p q : Prop} [Decidable p] [Decidable q] (h : p ↔ q) : b2 p = b2 q := by
  unfold b2
  simp only [h]
/-! contracts of the small machine: n deep at most, method k, these values: answers v, the memory is M', L' then. -/
def zc (n k : Nat) (as : List Value) (M : Nat → Nat → Int32) (L : Nat → Nat → Int64) (v : Option Value) (M' : Nat → Nat → Int32) (L' : Nat → Nat → Int64) : Prop :=
  ∀ d, n ≤ d → ∀ N xs a b, zz_call_ d k as (zro N xs, zsh, M, L, a, b) = some (v, (zro N xs, zsh, M', L', a, b))
theorem zc_of {n k : Nat} {as : List Value} {M M' : Nat → Nat → Int32} {L L' : Nat → Nat → Int64} {v : Option Value} {q : zz_Mt} {tb : List zz_B} {ls : zz_L} (hq : zz_mt[k]? = some q) (hc : zz_codes[k]? = some tb) (h0 : q.2.2.2.2 = (0, 0)) (hl : zz_l0 as q.2.2.1 = ls) (hn : Nat.ble (zz_ar as).length q.2.2.1 = true)
    (h : ∀ d, n ≤ d → ∀ N xs, zz_X (zz_call_ d) tb 0 ls [] (zm N xs M L) = some (v, zm N xs M' L')) : zc (n + 1) k as M L v M' L' := by
  intro d hd N xs a b
  obtain ⟨e, rfl⟩ : ∃ e, d = e + 1 := ⟨d - 1, by omega⟩
  have h1 : q.2.2.2.2.1 = 0 := by rw [h0]
  have h2 : q.2.2.2.2.2 = 0 := by rw [h0]
  show zz_D zz_mt zz_codes (e + 1) k as _ = _
  unfold zz_D
  rw [hq, o_some, hc, o_some, h1, h2, hl, hn]
  have hz : ∀ x : Nat, Nat.ble 0 x = true := fun x => Nat.ble_eq_true_of_le (Nat.zero_le x)
  simp only [hz, Bool.and_self, zz_b]
  have := h e (by omega) N xs
  rw [show zz_D zz_mt zz_codes e = zz_call_ e from rfl, this, o_some]
  simp [zz_b]
section ZU
variable {n k d N : Nat} {as : List Value} {M M' : Nat → Nat → Int32} {L L' : Nat → Nat → Int64} {w : Value} {xs : Nat → Int32} {tb : List zz_B} {t : Nat} {ls : zz_L} {rest : List Value}
theorem zc.go (h : zc n k as M L (some w) M' L') (hd : n ≤ d) : (zz_o (zz_call_ d k as (zm N xs M L)) fun r => zz_X (zz_call_ d) tb t ls (r.1.toList ++ rest) r.2) = zz_X (zz_call_ d) tb t ls (w :: rest) (zm N xs M' L') := by
  rw [h d hd N xs 0 0]
  rfl
theorem zc.gov (h : zc n k as M L none M' L') (hd : n ≤ d) : (zz_o (zz_call_ d k as (zm N xs M L)) fun r => zz_X (zz_call_ d) tb t ls (r.1.toList ++ rest) r.2) = zz_X (zz_call_ d) tb t ls rest (zm N xs M' L') := by
  rw [h d hd N xs 0 0]
  rfl
theorem zc.mono {m : Nat} {v : Option Value} (h : zc n k as M L v M' L') (hm : n ≤ m) : zc m k as M L v M' L' := fun d hd => h d (Nat.le_trans hm hd)
end ZU
theorem t_lt (x y : Int32) : (x < y) = (x.toInt < y.toInt) := by rw [Int32.lt_iff_toInt_lt]
theorem t_le (x y : Int32) : (x ≤ y) = (x.toInt ≤ y.toInt) := by rw [Int32.le_iff_toInt_le]
theorem t_eq (x y : Int32) : (x = y) = (x.toInt = y.toInt) := by rw [Int32.toInt_inj]
theorem t_add {x y : Int32} (h1 : -2147483648 ≤ x.toInt + y.toInt) (h2 : x.toInt + y.toInt ≤ 2147483647) : (x + y).toInt = x.toInt + y.toInt := by
  rw [Int32.toInt_add]
  exact Int.bmod_eq_of_le (by omega) (by omega)
theorem t_sub {x y : Int32} (h1 : -2147483648 ≤ x.toInt - y.toInt) (h2 : x.toInt - y.toInt ≤ 2147483647) : (x - y).toInt = x.toInt - y.toInt := by
  rw [Int32.toInt_sub]
  exact Int.bmod_eq_of_le (by omega) (by omega)
theorem i_t (x : Int32) : iI x.toInt = x := by simp [iI]
theorem l_t (x : Int64) : lI x.toInt = x := by simp [lI]
theorem b2_to (p : Prop) [Decidable p] : (b2 p).toInt = if p then 1 else 0 := by
  unfold b2
  split <;> rfl
theorem if_10 (p : Prop) [Decidable p] : ((if p then (1 : Int) else 0) = 0) = ¬ p := by
  by_cases h : p <;> simp [h]
theorem if_01 (p : Prop) [Decidable p] : ((if p then (1 : Int) else 0) = 0 ∨ (if p then (1 : Int) else 0) = 1) = True := by
  by_cases h : p <;> simp [h]
theorem tm_cases (z : Int) (n : Int) (hn : 0 < n) : (0 ≤ z.tmod n ∧ z.tmod n < n ∧ z.tmod n = z % n) ∨ (z.tmod n < 0 ∧ -n < z.tmod n ∧ z.tmod n + n = z % n) := by
  have h1 := Int.emod_nonneg z (Int.ne_of_gt hn)
  have h2 := Int.emod_lt_of_pos z hn
  rw [Int.tmod_eq_emod]
  split
  · left; omega
  · rename_i h
    have : z % n ≠ 0 := fun e => h (Or.inr (Int.dvd_of_emod_eq_zero e))
    right
    omega
theorem iI10 : ¬ iI 1 = iI 0 := by decide
theorem if_11 (p : Prop) [Decidable p] : ((if p then (1 : Int) else 0) = 1) = p := by
  by_cases h : p <;> simp [h]
theorem nor_em (p : Prop) [Decidable p] : (¬ p ∨ p) = True := by
  by_cases h : p <;> simp [h]

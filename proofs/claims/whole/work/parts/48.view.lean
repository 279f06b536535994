/-! the house as numbers, and what is reckoned of it. -/
theorem upto {α : Type} (F : Nat → α) : ∀ n : Nat, (∀ k, k < n → F k = F (k + 1)) → F 0 = F n
  | 0, _ => rfl
  | n + 1, h => (upto F n (fun k hk => h k (by omega))).trans (h n (by omega))
def Vw : Type := Nat × Nat × Nat × (Nat → Nat) × (Nat → Nat) × (Nat → Int) × (Nat → Nat) × (Nat → Int) × Nat
def Vw.n (V : Vw) : Nat := V.1
def Vw.day (V : Vw) : Nat := V.2.1
def Vw.hc (V : Vw) : Nat := V.2.2.1
def Vw.heat (V : Vw) : Nat → Nat := V.2.2.2.1
def Vw.kind (V : Vw) : Nat → Nat := V.2.2.2.2.1
def Vw.rate (V : Vw) : Nat → Int := V.2.2.2.2.2.1
def Vw.floor (V : Vw) : Nat → Nat := V.2.2.2.2.2.2.1
def Vw.minute (V : Vw) : Nat → Int := V.2.2.2.2.2.2.2.1
def Vw.tset (V : Vw) : Nat := V.2.2.2.2.2.2.2.2
def Vw.tou (V : Vw) (i : Nat) : Int := if V.tset.testBit i then 1 else 0
def Vk (V : Vw) : Prop := (V.n ≤ 6) ∧ (V.hc ≤ 7) ∧ (0 < V.n → 0 < V.hc) ∧ (V.day ≤ 40) ∧ (∀ k, V.heat k ≤ 3) ∧ (∀ i, V.kind i < 6) ∧ (∀ i, -4 ≤ V.rate i ∧ V.rate i ≤ 5) ∧ (∀ i, V.floor i ≤ 3) ∧ (∀ i, 0 ≤ V.minute i ∧ V.minute i < 60) ∧ (V.tset < 64)
theorem Vk.n {V : Vw} (h : Vk V) : V.n ≤ 6 := h.1
theorem Vk.hc {V : Vw} (h : Vk V) : V.hc ≤ 7 := h.2.1
theorem Vk.hc0 {V : Vw} (h : Vk V) : 0 < V.n → 0 < V.hc := h.2.2.1
theorem Vk.day {V : Vw} (h : Vk V) : V.day ≤ 40 := h.2.2.2.1
theorem Vk.heat {V : Vw} (h : Vk V) : ∀ k, V.heat k ≤ 3 := h.2.2.2.2.1
theorem Vk.kind {V : Vw} (h : Vk V) : ∀ i, V.kind i < 6 := h.2.2.2.2.2.1
theorem Vk.rate {V : Vw} (h : Vk V) : ∀ i, -4 ≤ V.rate i ∧ V.rate i ≤ 5 := h.2.2.2.2.2.2.1
theorem Vk.floor {V : Vw} (h : Vk V) : ∀ i, V.floor i ≤ 3 := h.2.2.2.2.2.2.2.1
theorem Vk.minute {V : Vw} (h : Vk V) : ∀ i, 0 ≤ V.minute i ∧ V.minute i < 60 := h.2.2.2.2.2.2.2.2.1
theorem Vk.tset {V : Vw} (h : Vk V) : V.tset < 64 := h.2.2.2.2.2.2.2.2.2
def Hv (V : Vw) (M : Nat → Nat → Int32) : Prop := (M 23 10 = iI V.n) ∧ (M 23 9 = iI V.hc) ∧ (M 23 11 = iI V.day) ∧ (M 23 12 = iI V.tset) ∧ (∀ k, k < V.hc → M 24 k = iI (V.heat k)) ∧ (∀ i, i < V.n → M 25 i = iI (V.kind i)) ∧ (∀ i, i < V.n → M 27 i = iI (V.rate i)) ∧ (∀ i, i < V.n → M 28 i = iI (V.floor i)) ∧ (∀ i, i < V.n → M 29 i = iI (V.minute i))
theorem Hv.n {V : Vw} {M : Nat → Nat → Int32} (h : Hv V M) : M 23 10 = iI V.n := h.1
theorem Hv.hc {V : Vw} {M : Nat → Nat → Int32} (h : Hv V M) : M 23 9 = iI V.hc := h.2.1
theorem Hv.day {V : Vw} {M : Nat → Nat → Int32} (h : Hv V M) : M 23 11 = iI V.day := h.2.2.1
theorem Hv.tset {V : Vw} {M : Nat → Nat → Int32} (h : Hv V M) : M 23 12 = iI V.tset := h.2.2.2.1
theorem Hv.heat {V : Vw} {M : Nat → Nat → Int32} (h : Hv V M) : ∀ k, k < V.hc → M 24 k = iI (V.heat k) := h.2.2.2.2.1
theorem Hv.kind {V : Vw} {M : Nat → Nat → Int32} (h : Hv V M) : ∀ i, i < V.n → M 25 i = iI (V.kind i) := h.2.2.2.2.2.1
theorem Hv.rate {V : Vw} {M : Nat → Nat → Int32} (h : Hv V M) : ∀ i, i < V.n → M 27 i = iI (V.rate i) := h.2.2.2.2.2.2.1
theorem Hv.floor {V : Vw} {M : Nat → Nat → Int32} (h : Hv V M) : ∀ i, i < V.n → M 28 i = iI (V.floor i) := h.2.2.2.2.2.2.2.1
theorem Hv.minute {V : Vw} {M : Nat → Nat → Int32} (h : Hv V M) : ∀ i, i < V.n → M 29 i = iI (V.minute i) := h.2.2.2.2.2.2.2.2
def Rv (V : Vw) (w : Nat → Int32) (b : Nat) : Prop := (w b = iI V.n) ∧ (w (b + 1) = iI V.day) ∧ (w (b + 2) = iI V.hc) ∧ (∀ k, k < V.hc → w (b + (3 + k)) = iI (V.heat k)) ∧ (∀ i, i < V.n → w (b + (10 + i)) = iI (V.kind i)) ∧ (∀ i, i < V.n → w (b + (16 + i)) = iI (V.rate i)) ∧ (∀ i, i < V.n → w (b + (22 + i)) = iI (V.floor i)) ∧ (∀ i, i < V.n → w (b + (28 + i)) = iI (V.minute i)) ∧ (∀ i, i < V.n → w (b + (34 + i)) = iI (V.tou i))
theorem Rv.n {V : Vw} {w : Nat → Int32} {b : Nat} (h : Rv V w b) : w b = iI V.n := h.1
theorem Rv.day {V : Vw} {w : Nat → Int32} {b : Nat} (h : Rv V w b) : w (b + 1) = iI V.day := h.2.1
theorem Rv.hc {V : Vw} {w : Nat → Int32} {b : Nat} (h : Rv V w b) : w (b + 2) = iI V.hc := h.2.2.1
theorem Rv.heat {V : Vw} {w : Nat → Int32} {b : Nat} (h : Rv V w b) : ∀ k, k < V.hc → w (b + (3 + k)) = iI (V.heat k) := h.2.2.2.1
theorem Rv.kind {V : Vw} {w : Nat → Int32} {b : Nat} (h : Rv V w b) : ∀ i, i < V.n → w (b + (10 + i)) = iI (V.kind i) := h.2.2.2.2.1
theorem Rv.rate {V : Vw} {w : Nat → Int32} {b : Nat} (h : Rv V w b) : ∀ i, i < V.n → w (b + (16 + i)) = iI (V.rate i) := h.2.2.2.2.2.1
theorem Rv.floor {V : Vw} {w : Nat → Int32} {b : Nat} (h : Rv V w b) : ∀ i, i < V.n → w (b + (22 + i)) = iI (V.floor i) := h.2.2.2.2.2.2.1
theorem Rv.minute {V : Vw} {w : Nat → Int32} {b : Nat} (h : Rv V w b) : ∀ i, i < V.n → w (b + (28 + i)) = iI (V.minute i) := h.2.2.2.2.2.2.2.1
theorem Rv.tou {V : Vw} {w : Nat → Int32} {b : Nat} (h : Rv V w b) : ∀ i, i < V.n → w (b + (34 + i)) = iI (V.tou i) := h.2.2.2.2.2.2.2.2
def Vw.heatAt (V : Vw) (d : Nat) : Int := if V.hc = 0 then 0 else V.heat (d % V.hc)
def Vw.warm (V : Vw) : Nat → Int
  | 0 => 0
  | n + 1 => V.warm n + V.heatAt (V.day + n)
def sgn (k : Nat) : Int := if k = 2 then 1 else if k = 5 then -1 else 0
def gn (kind : Nat) (rate days warmth : Int) : Int := if kind = 3 then 0 else days * rate + sgn kind * warmth
def span (k : Nat) : Nat := if k = 1 then 2 else if k = 4 then 3 else 1
def Vw.minAt (V : Vw) (i n : Nat) : Int := (V.minute i + gn (V.kind i) (V.rate i) n (V.warm n)) % 60
abbrev met (a : Int) (s : Nat) (b : Int) (t : Nat) : Prop := (b - a) % 60 < s ∨ 60 - (b - a) % 60 < t
theorem heatAt_b {V : Vw} (h : Vk V) (d : Nat) : 0 ≤ V.heatAt d ∧ V.heatAt d ≤ 3 := by
  unfold Vw.heatAt
  have := h.heat (d % V.hc)
  split <;> omega
theorem warm_b {V : Vw} (h : Vk V) : ∀ n : Nat, 0 ≤ V.warm n ∧ V.warm n ≤ 3 * n
  | 0 => by simp [Vw.warm]
  | n + 1 => by
    have h1 := warm_b h n
    have h2 := heatAt_b h (V.day + n)
    unfold Vw.warm
    omega
theorem sgn_b (k : Nat) : -1 ≤ sgn k ∧ sgn k ≤ 1 := by
  unfold sgn
  repeat' split
  all_goals omega
theorem sgn_c (k : Nat) : sgn k = 0 ∨ sgn k = 1 ∨ sgn k = -1 := by
  unfold sgn
  repeat' split
  all_goals simp
theorem span_b (k : Nat) : 1 ≤ span k ∧ span k ≤ 3 := by
  unfold span
  repeat' split
  all_goals omega
theorem gn_b {k : Nat} {r n w : Int} (hr : -4 ≤ r ∧ r ≤ 5) (hn : 0 ≤ n) (hw : 0 ≤ w) : -(4 * n + w) ≤ gn k r n w ∧ gn k r n w ≤ 5 * n + w := by
  unfold gn
  have h1 : n * (-4) ≤ n * r := Int.mul_le_mul_of_nonneg_left hr.1 hn
  have h2 : n * r ≤ n * 5 := Int.mul_le_mul_of_nonneg_left hr.2 hn
  split
  · omega
  · rcases sgn_c k with e | e | e <;> rw [e] <;> omega
theorem zst1_span {k : Nat} (h : k < 6) : zst1 k = iI (span k) := by
  match k, h with
  | 0, _ | 1, _ | 2, _ | 3, _ | 4, _ | 5, _ => rfl
theorem zst2_sgn {k : Nat} (h : k < 6) : zst2 k = iI (sgn k) := by
  match k, h with
  | 0, _ | 1, _ | 2, _ | 3, _ | 4, _ | 5, _ => rfl
/-! bits -/
def tn (x k : Nat) : Nat := ((x <<< k) ||| (x >>> (60 - k))) &&& (2 ^ 60 - 1)
def rg (a s : Nat) : Nat := tn (2 ^ s - 1) a
theorem tn_lt (x k : Nat) : tn x k < 2 ^ 60 := by
  unfold tn
  exact Nat.lt_of_le_of_lt Nat.and_le_right (by omega)
theorem tn_bit {x k : Nat} (hx : x < 2 ^ 60) (hk : k < 60) (m : Nat) : (tn x k).testBit m = (decide (m < 60) && x.testBit ((m + (60 - k)) % 60)) := by
  unfold tn
  rw [Nat.testBit_and, Nat.testBit_or, Nat.testBit_shiftLeft, Nat.testBit_shiftRight, Nat.testBit_two_pow_sub_one]
  by_cases hm : m < 60
  · simp only [hm, decide_true, Bool.and_true, Bool.true_and]
    by_cases h : m < k
    · rw [show (m + (60 - k)) % 60 = 60 - k + m by omega]
      simp [Nat.not_le.2 h]
    · rw [show (m + (60 - k)) % 60 = m - k by omega]
      have e : x.testBit (60 - k + m) = false := Nat.testBit_lt_two_pow (Nat.lt_of_lt_of_le hx (Nat.pow_le_pow_right (by omega) (by omega)))
      simp [e, Nat.not_lt.1 h]
  · simp [hm]
theorem rg_bit {a s : Nat} (hs : s ≤ 9) (ha : a < 60) (m : Nat) : (rg a s).testBit m = (decide (m < 60) && decide ((m + (60 - a)) % 60 < s)) := by
  unfold rg
  rw [tn_bit (Nat.lt_of_lt_of_le (Nat.sub_lt (Nat.two_pow_pos s) (by omega)) (Nat.pow_le_pow_right (by omega) (by omega))) ha, Nat.testBit_two_pow_sub_one]
theorem and_ne {x y : Nat} : x &&& y ≠ 0 ↔ ∃ m, x.testBit m = true ∧ y.testBit m = true := by
  constructor
  · intro h
    obtain ⟨m, hm⟩ := Nat.exists_testBit_of_ne_zero h
    rw [Nat.testBit_and, Bool.and_eq_true] at hm
    exact ⟨m, hm⟩
  · rintro ⟨m, h1, h2⟩ h
    have : (x &&& y).testBit m = true := by rw [Nat.testBit_and, h1, h2]; rfl
    rw [h, Nat.zero_testBit] at this
    exact absurd this (by simp)
theorem met_bits {a b s t : Nat} (ha : a < 60) (hb : b < 60) (hs : 1 ≤ s ∧ s ≤ 9) (ht : 1 ≤ t ∧ t ≤ 9) : rg a s &&& rg b t ≠ 0 ↔ met a s b t := by
  rw [and_ne]
  unfold met
  constructor
  · rintro ⟨m, h1, h2⟩
    rw [rg_bit hs.2 ha, Bool.and_eq_true, decide_eq_true_eq, decide_eq_true_eq] at h1
    rw [rg_bit ht.2 hb, Bool.and_eq_true, decide_eq_true_eq, decide_eq_true_eq] at h2
    omega
  · rintro (h | h)
    · refine ⟨b, ?_, ?_⟩
      · rw [rg_bit hs.2 ha, Bool.and_eq_true, decide_eq_true_eq, decide_eq_true_eq]; omega
      · rw [rg_bit ht.2 hb, Bool.and_eq_true, decide_eq_true_eq, decide_eq_true_eq]; omega
    · refine ⟨a, ?_, ?_⟩
      · rw [rg_bit hs.2 ha, Bool.and_eq_true, decide_eq_true_eq, decide_eq_true_eq]; omega
      · rw [rg_bit ht.2 hb, Bool.and_eq_true, decide_eq_true_eq, decide_eq_true_eq]; omega
theorem iN_bv (n : Nat) : (iI n).toBitVec = BitVec.ofNat 32 n := by
  show (Int32.ofInt n).toBitVec = _
  rw [Int32.toBitVec_ofInt, BitVec.ofInt_natCast]
theorem lN_bv (n : Nat) : (lI n).toBitVec = BitVec.ofNat 64 n := by
  show (Int64.ofInt n).toBitVec = _
  rw [Int64.toBitVec_ofInt, BitVec.ofInt_natCast]
theorem iN_of {x : Int32} {n : Nat} (h : x.toBitVec.toNat = n) : x = iI n := by
  rw [← Int32.toBitVec_inj, iN_bv]
  apply BitVec.eq_of_toNat_eq
  rw [BitVec.toNat_ofNat, ← h, Nat.mod_eq_of_lt x.toBitVec.isLt]
theorem lN_of {x : Int64} {n : Nat} (h : x.toBitVec.toNat = n) : x = lI n := by
  rw [← Int64.toBitVec_inj, lN_bv]
  apply BitVec.eq_of_toNat_eq
  rw [BitVec.toNat_ofNat, ← h, Nat.mod_eq_of_lt x.toBitVec.isLt]
theorem iN_to {n : Nat} (h : n < 2 ^ 32) : (iI n).toBitVec.toNat = n := by
  rw [iN_bv, BitVec.toNat_ofNat, Nat.mod_eq_of_lt h]
theorem lN_to {n : Nat} (h : n < 2 ^ 64) : (lI n).toBitVec.toNat = n := by
  rw [lN_bv, BitVec.toNat_ofNat, Nat.mod_eq_of_lt h]
theorem lN_and {a b : Nat} (ha : a < 2 ^ 64) (hb : b < 2 ^ 64) : lI a &&& lI b = lI (a &&& b : Nat) := by
  apply lN_of
  rw [Int64.toBitVec_and, BitVec.toNat_and, lN_to ha, lN_to hb]
theorem lN_or {a b : Nat} (ha : a < 2 ^ 64) (hb : b < 2 ^ 64) : lI a ||| lI b = lI (a ||| b : Nat) := by
  apply lN_of
  rw [Int64.toBitVec_or, BitVec.toNat_or, lN_to ha, lN_to hb]
theorem iN_and {a b : Nat} (ha : a < 2 ^ 32) (hb : b < 2 ^ 32) : iI a &&& iI b = iI (a &&& b : Nat) := by
  apply iN_of
  rw [Int32.toBitVec_and, BitVec.toNat_and, iN_to ha, iN_to hb]
theorem iN_or {a b : Nat} (ha : a < 2 ^ 32) (hb : b < 2 ^ 32) : iI a ||| iI b = iI (a ||| b : Nat) := by
  apply iN_of
  rw [Int32.toBitVec_or, BitVec.toNat_or, iN_to ha, iN_to hb]
theorem k63 : ∀ k : Nat, k < 64 → (iI k).toInt64 &&& 63 = lI k := by decide
theorem k63u : ∀ k : Nat, k < 64 → (iI k).toInt64.toUInt64 &&& Int64.toUInt64 63 = UInt64.ofNat k := by decide
theorem k31 : ∀ k : Nat, k < 32 → iI k &&& 31 = iI k := by decide
theorem sm64 : ∀ k : Nat, k < 64 → ((lI k).toBitVec.smod 64).toNat = k := by decide
theorem sm32 : ∀ k : Nat, k < 32 → ((iI k).toBitVec.smod 32).toNat = k := by decide
theorem um64 : ∀ k : Nat, k < 64 → ((UInt64.ofNat k).toBitVec % 64).toNat = k := by decide
theorem lN_shl {x k : Nat} (hx : x < 2 ^ 64) (hk : k < 64) : (lI x <<< lI k).toBitVec.toNat = (x <<< k) % 2 ^ 64 := by
  rw [Int64.toBitVec_shiftLeft, BitVec.shiftLeft_eq', BitVec.toNat_shiftLeft, sm64 k hk, lN_to hx]
theorem lN_ushr {x k : Nat} (hx : x < 2 ^ 64) (hk : k < 64) : ((lI x).toUInt64 >>> UInt64.ofNat k).toInt64.toBitVec.toNat = x >>> k := by
  have e : ((lI x).toUInt64 >>> UInt64.ofNat k).toInt64.toBitVec = (lI x).toBitVec >>> ((UInt64.ofNat k).toBitVec % 64) := rfl
  rw [e, BitVec.ushiftRight_eq', BitVec.toNat_ushiftRight, um64 k hk, lN_to hx]
theorem iN_shr {x k : Nat} (hx : x < 2 ^ 31) (hk : k < 32) : iI x >>> (iI k &&& 31) = iI (x >>> k : Nat) := by
  rw [k31 k hk]
  apply iN_of
  rw [Int32.toBitVec_shiftRight, BitVec.sshiftRight_eq', sm32 k hk, BitVec.toNat_sshiftRight_of_msb_false, iN_to (by omega)]
  rw [BitVec.msb_eq_false_iff_two_mul_lt, iN_to (by omega)]
  omega
theorem iN_shl {k : Nat} (hk : k < 31) : (1 : Int32) <<< (iI k &&& 31) = iI (1 <<< k : Nat) := by
  rw [k31 k (by omega)]
  apply iN_of
  rw [Int32.toBitVec_shiftLeft, BitVec.shiftLeft_eq', BitVec.toNat_shiftLeft, sm32 k (by omega)]
  rw [show (1 : Int32).toBitVec.toNat = 1 from rfl, Nat.one_shiftLeft, Nat.mod_eq_of_lt (Nat.pow_lt_pow_right (by omega) (by omega))]
theorem lN_shl1 {k : Nat} (hk : k < 63) : (1 : Int64) <<< lI k = lI (1 <<< k : Nat) := by
  apply lN_of
  have := @lN_shl 1 k (by omega) (by omega)
  rw [show (1 : Int64) = lI (1 : Nat) from rfl, this, Nat.one_shiftLeft, Nat.mod_eq_of_lt (Nat.pow_lt_pow_right (by omega) (by omega))]
theorem lN_turn {x k : Nat} (hx : x < 2 ^ 60) (hk : k < 60) : ((lI x <<< ((iI k).toInt64 &&& 63)) ||| ((lI x).toUInt64 >>> ((60 - iI k).toInt64.toUInt64 &&& Int64.toUInt64 63)).toInt64) &&& 1152921504606846975 = lI (tn x k : Nat) := by
  rw [k63 k (by omega), show (60 : Int32) - iI k = iI (60 - k : Nat) by rw [iI_lit, iI_sub]; congr 1; omega, k63u (60 - k) (by omega)]
  apply lN_of
  rw [Int64.toBitVec_and, Int64.toBitVec_or, BitVec.toNat_and, BitVec.toNat_or, lN_shl (by omega) (by omega), lN_ushr (by omega) (by omega), show (1152921504606846975 : Int64).toBitVec.toNat = 2 ^ 60 - 1 from rfl]
  unfold tn
  apply Nat.eq_of_testBit_eq
  intro m
  rw [Nat.testBit_and, Nat.testBit_and, Nat.testBit_or, Nat.testBit_or, Nat.testBit_mod_two_pow, Nat.testBit_two_pow_sub_one]
  by_cases hm : m < 60
  · simp [hm, show m < 64 by omega]
  · simp [hm]
theorem tb_iff (T i : Nat) : ((T >>> i) &&& 1 = 1) ↔ T.testBit i = true := by
  rw [Nat.testBit_eq_decide_div_mod_eq, decide_eq_true_eq, Nat.shiftRight_eq_div_pow, Nat.and_one_is_mod]

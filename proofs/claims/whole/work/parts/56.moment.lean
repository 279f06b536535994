/-! Moment: who strikes with whom. -/
def sL (L : Nat → Nat → Int64) (c : Nat) (f : Nat → Int64) (n : Nat) : Nat → Nat → Int64 := zz_rL L c (fun j => if j < n then f j else L c j)
theorem sL_0 (L : Nat → Nat → Int64) (c : Nat) (f : Nat → Int64) : sL L c f 0 = L := by
  funext b j
  unfold sL zz_rL
  by_cases q : b = c
  · subst q; simp
  · simp [q]
theorem sL_s (L : Nat → Nat → Int64) (c : Nat) (f : Nat → Int64) (n : Nat) : zz_wL (sL L c f n) c n (f n) = sL L c f (n + 1) := by
  funext b j
  unfold zz_wL sL zz_rL vp_updL
  by_cases q : b = c
  · subst q
    simp only [if_true]
    by_cases q2 : j = n
    · subst q2; simp
    · simp only [q2, if_false]
      by_cases q3 : j < n
      · rw [if_pos q3, if_pos (by omega)]
      · rw [if_neg q3, if_neg (by omega)]
  · simp [q]
theorem sL_ne {L : Nat → Nat → Int64} {c b n : Nat} {f : Nat → Int64} (h : b ≠ c) : sL L c f n b = L b := if_neg h
theorem sL_in {L : Nat → Nat → Int64} {c j n : Nat} {f : Nat → Int64} (h : j < n) : sL L c f n c j = f j := by
  unfold sL zz_rL
  rw [if_pos rfl, if_pos h]
theorem lI_0 : (0 : Int64) = lI ((0 : Nat) : Int) := rfl
/-- so many are seen, each with these bits -/
def Ms (c n : Nat) (a : Nat → Nat) (M : Nat → Nat → Int32) (L : Nat → Nat → Int64) : Prop := n ≤ 6 ∧ M c 1 = iI n ∧ (∀ i, a i < 2 ^ 60) ∧ ∀ i, i < n → L (c + 1) i = lI (a i)
abbrev rel (a : Nat → Nat) (i j : Nat) : Prop := a i &&& a j ≠ 0
/-- all that sounds of the first n -/
def oR (a : Nat → Nat) : Nat → Nat
  | 0 => 0
  | n + 1 => oR a n ||| a n
theorem oR_lt {a : Nat → Nat} (h : ∀ i, a i < 2 ^ 60) : ∀ n, oR a n < 2 ^ 60
  | 0 => by show 0 < 2 ^ 60; omega
  | n + 1 => Nat.or_lt_two_pow (oR_lt h n) (h n)
theorem oR_bit (a : Nat → Nat) (m : Nat) : ∀ n, (oR a n).testBit m = true ↔ ∃ i, i < n ∧ (a i).testBit m = true
  | 0 => by
    show (0 : Nat).testBit m = true ↔ _
    rw [Nat.zero_testBit]
    constructor
    · intro h; exact absurd h (by simp)
    · rintro ⟨i, hi, _⟩; omega
  | n + 1 => by
    show (oR a n ||| a n).testBit m = true ↔ _
    rw [Nat.testBit_or, Bool.or_eq_true, oR_bit a m n]
    constructor
    · rintro (⟨i, hi, h⟩ | h)
      · exact ⟨i, by omega, h⟩
      · exact ⟨n, by omega, h⟩
    · rintro ⟨i, hi, h⟩
      by_cases q : i = n
      · subst q; exact Or.inr h
      · exact Or.inl ⟨i, by omega, h⟩
theorem oR_rel (a : Nat → Nat) (n j : Nat) : oR a n &&& a j ≠ 0 ↔ ∃ i, i < n ∧ rel a i j := by
  constructor
  · intro h
    obtain ⟨m, h1, h2⟩ := and_ne.1 h
    obtain ⟨i, hi, h3⟩ := (oR_bit a m n).1 h1
    exact ⟨i, hi, and_ne.2 ⟨m, h3, h2⟩⟩
  · rintro ⟨i, hi, h⟩
    obtain ⟨m, h1, h2⟩ := and_ne.1 h
    exact and_ne.2 ⟨m, (oR_bit a m n).2 ⟨i, hi, h1⟩, h2⟩
theorem lgz {a b : Nat} (ha : a < 2 ^ 60) (hb : b < 2 ^ 60) : lg_cmp (lI a &&& lI b) 0 = 0 ↔ ¬ (a &&& b ≠ 0) := by
  have h := @Nat.and_le_left a b
  rw [lN_and (by omega) (by omega), lI_0, lg_lI (by omega) (by omega) (by omega) (by omega)]
  by_cases q : a &&& b = 0
  · rw [q]
    simp
  · rw [if_pos (by omega)]
    constructor
    · intro h; exact absurd h (by decide)
    · intro h; exact absurd q h
abbrev anyP (p : Nat → Nat → Prop) (n : Nat) : Prop := ∃ j, j < n ∧ ∃ i, i < j ∧ p i j
section ZR
variable (M : Nat → Nat → Int32) (L : Nat → Nat → Int64)
theorem s_62a (V : Vw) (hk : Vk V) (hv : Hv V M) (n : Nat) (h : n ≤ 420) : zc 4 62 [.ref 36, .ref 23, .int (iI n), .int (iI (V.warm n))] M L none (zz_wI M 36 1 (iI V.n)) (sL L 37 (fun i => lI (rg (V.minAt i n).toNat (span (V.kind i)))) V.n) := by
  refine zc_of (n := 3) (ls := [some (.ref 36), some (.ref 23), some (.int (iI n)), some (.int (iI (V.warm n))), none]) mk_62 rfl rfl rfl rfl (fun d hd N xs => ?_)
  have hn := hk.n
  have hv2 : Hv V (zz_wI M 36 1 (iI V.n)) := hv.cg (eqs.rf.w (by unfold pH; omega))
  rw [b_62a_0, hv.n, iI_lit]
  have hl := upto (fun k : Nat => zz_X (zz_call_ d) tb_62 1 [some (.ref 36), some (.ref 23), some (.int (iI n)), some (.int (iI (V.warm n))), some (.int (iI k))] [] (zm N xs (zz_wI M 36 1 (iI V.n)) (sL L 37 (fun i => lI (rg (V.minAt i n).toNat (span (V.kind i)))) k))) V.n (fun k hkc => by
    show zz_X (zz_call_ d) tb_62 1 _ _ _ = zz_X (zz_call_ d) tb_62 1 _ _ _
    rw [b_62a_1, w_at, if_neg (by rw [t_le, iI_to (by omega) (by omega), iI_to (by omega) (by omega)]; omega), iI_lit, if_neg (by rw [t_le, iI_to (by omega) (by omega), iI_to (by omega) (by omega)]; omega), g_45V _ _ V hk hv2 k n hkc (by omega) (by omega), b_62a_2, ix_nat (by omega) (by omega), o_some, iI_lit, iI_add]
    have e := sL_s L 37 (fun i => lI (rg (V.minAt i n).toNat (span (V.kind i)))) k
    rw [show (lI (rg (V.minAt k n).toNat (span (V.kind k)) : Nat)) = (fun i => lI (rg (V.minAt i n).toNat (span (V.kind i)) : Nat)) k from rfl, e]
    rfl)
  simp only [sL_0] at hl
  refine hl.trans ?_
  rw [b_62a_1, w_at, if_pos (by rw [t_le]; omega), b_62a_3]
theorem g_62a (V : Vw) (hk : Vk V) (hv : Hv V M) (n : Nat) (h : n ≤ 420) {d N : Nat} {xs : Nat → Int32} {tb_ : List zz_B} {t_ : Nat} {ls_ : zz_L} {rest_ : List Value} (hd_ : 4 ≤ d) : (zz_o (zz_call_ d 62 [.ref 36, .ref 23, .int (iI n), .int (iI (V.warm n))] (zm N xs M L)) fun r => zz_X (zz_call_ d) tb_ t_ ls_ (r.1.toList ++ rest_) r.2) = zz_X (zz_call_ d) tb_ t_ ls_ rest_ (zm N xs (zz_wI M 36 1 (iI V.n)) (sL L 37 (fun i => lI (rg (V.minAt i n).toNat (span (V.kind i)))) V.n)) := (s_62a M L V hk hv n h).gov hd_
theorem s_62b (V : Vw) (hk : Vk V) (hv : Hv V M) (n : Nat) (h : n ≤ 420) : zc 4 62 [.ref 46, .ref 23, .int (iI n), .int (iI (V.warm n))] M L none (zz_wI M 46 1 (iI V.n)) (sL L 47 (fun i => lI (rg (V.minAt i n).toNat (span (V.kind i)))) V.n) := by
  refine zc_of (n := 3) (ls := [some (.ref 46), some (.ref 23), some (.int (iI n)), some (.int (iI (V.warm n))), none]) mk_62 rfl rfl rfl rfl (fun d hd N xs => ?_)
  have hn := hk.n
  have hv2 : Hv V (zz_wI M 46 1 (iI V.n)) := hv.cg (eqs.rf.w (by unfold pH; omega))
  rw [b_62b_0, hv.n, iI_lit]
  have hl := upto (fun k : Nat => zz_X (zz_call_ d) tb_62 1 [some (.ref 46), some (.ref 23), some (.int (iI n)), some (.int (iI (V.warm n))), some (.int (iI k))] [] (zm N xs (zz_wI M 46 1 (iI V.n)) (sL L 47 (fun i => lI (rg (V.minAt i n).toNat (span (V.kind i)))) k))) V.n (fun k hkc => by
    show zz_X (zz_call_ d) tb_62 1 _ _ _ = zz_X (zz_call_ d) tb_62 1 _ _ _
    rw [b_62b_1, w_at, if_neg (by rw [t_le, iI_to (by omega) (by omega), iI_to (by omega) (by omega)]; omega), iI_lit, if_neg (by rw [t_le, iI_to (by omega) (by omega), iI_to (by omega) (by omega)]; omega), g_45V _ _ V hk hv2 k n hkc (by omega) (by omega), b_62b_2, ix_nat (by omega) (by omega), o_some, iI_lit, iI_add]
    have e := sL_s L 47 (fun i => lI (rg (V.minAt i n).toNat (span (V.kind i)))) k
    rw [show (lI (rg (V.minAt k n).toNat (span (V.kind k)) : Nat)) = (fun i => lI (rg (V.minAt i n).toNat (span (V.kind i)) : Nat)) k from rfl, e]
    rfl)
  simp only [sL_0] at hl
  refine hl.trans ?_
  rw [b_62b_1, w_at, if_pos (by rw [t_le]; omega), b_62b_3]
theorem g_62b (V : Vw) (hk : Vk V) (hv : Hv V M) (n : Nat) (h : n ≤ 420) {d N : Nat} {xs : Nat → Int32} {tb_ : List zz_B} {t_ : Nat} {ls_ : zz_L} {rest_ : List Value} (hd_ : 4 ≤ d) : (zz_o (zz_call_ d 62 [.ref 46, .ref 23, .int (iI n), .int (iI (V.warm n))] (zm N xs M L)) fun r => zz_X (zz_call_ d) tb_ t_ ls_ (r.1.toList ++ rest_) r.2) = zz_X (zz_call_ d) tb_ t_ ls_ rest_ (zm N xs (zz_wI M 46 1 (iI V.n)) (sL L 47 (fun i => lI (rg (V.minAt i n).toNat (span (V.kind i)))) V.n)) := (s_62b M L V hk hv n h).gov hd_
theorem s_64a (n : Nat) (a : Nat → Nat) (hm : Ms 36 n a M L) (i : Nat) (hi : i < n) : zc 1 64 [.ref 36, .int (iI i)] M L (some (.int (iI 1))) M L := by
  refine zc_of (n := 0) (ls := [some (.ref 36), some (.int (iI i))]) mk_64 rfl rfl rfl rfl (fun d hd N xs => ?_)
  have hn := hm.1
  have h1 := hm.2.1
  rw [b_64a_0, h1, iI_lit, if_neg (by rw [t_lt, iI_to (by omega) (by omega), iI_to (by omega) (by omega)]; omega), if_neg (by rw [t_le, iI_to (by omega) (by omega), iI_to (by omega) (by omega)]; omega), iI_lit, if_neg (by rw [t_le, iI_to (by omega) (by omega), iI_to (by omega) (by omega)]; omega), b_64a_2, if_pos (Or.inr rfl)]
  rfl
theorem g_64a (n : Nat) (a : Nat → Nat) (hm : Ms 36 n a M L) (i : Nat) (hi : i < n) {d N : Nat} {xs : Nat → Int32} {tb_ : List zz_B} {t_ : Nat} {ls_ : zz_L} {rest_ : List Value} (hd_ : 1 ≤ d) : (zz_o (zz_call_ d 64 [.ref 36, .int (iI i)] (zm N xs M L)) fun r => zz_X (zz_call_ d) tb_ t_ ls_ (r.1.toList ++ rest_) r.2) = zz_X (zz_call_ d) tb_ t_ ls_ ((.int (iI 1)) :: rest_) (zm N xs M L) := (s_64a M L n a hm i hi).go hd_
theorem s_64b (n : Nat) (a : Nat → Nat) (hm : Ms 46 n a M L) (i : Nat) (hi : i < n) : zc 1 64 [.ref 46, .int (iI i)] M L (some (.int (iI 1))) M L := by
  refine zc_of (n := 0) (ls := [some (.ref 46), some (.int (iI i))]) mk_64 rfl rfl rfl rfl (fun d hd N xs => ?_)
  have hn := hm.1
  have h1 := hm.2.1
  rw [b_64b_0, h1, iI_lit, if_neg (by rw [t_lt, iI_to (by omega) (by omega), iI_to (by omega) (by omega)]; omega), if_neg (by rw [t_le, iI_to (by omega) (by omega), iI_to (by omega) (by omega)]; omega), iI_lit, if_neg (by rw [t_le, iI_to (by omega) (by omega), iI_to (by omega) (by omega)]; omega), b_64b_2, if_pos (Or.inr rfl)]
  rfl
theorem g_64b (n : Nat) (a : Nat → Nat) (hm : Ms 46 n a M L) (i : Nat) (hi : i < n) {d N : Nat} {xs : Nat → Int32} {tb_ : List zz_B} {t_ : Nat} {ls_ : zz_L} {rest_ : List Value} (hd_ : 1 ≤ d) : (zz_o (zz_call_ d 64 [.ref 46, .int (iI i)] (zm N xs M L)) fun r => zz_X (zz_call_ d) tb_ t_ ls_ (r.1.toList ++ rest_) r.2) = zz_X (zz_call_ d) tb_ t_ ls_ ((.int (iI 1)) :: rest_) (zm N xs M L) := (s_64b M L n a hm i hi).go hd_
theorem s_63 (n : Nat) (a : Nat → Nat) (hm : Ms 36 n a M L) (i j : Nat) (hi : i < n) (hj : j < n) : zc 2 63 [.ref 36, .int (iI i), .int (iI j)] M L (some (.int (b2 (rel a i j)))) M L := by
  refine zc_of (n := 1) (ls := [some (.ref 36), some (.int (iI i)), some (.int (iI j))]) mk_63 rfl rfl rfl rfl (fun d hd N xs => ?_)
  have hn := hm.1
  have ha := hm.2.2.1
  have hl := hm.2.2.2
  rw [b_63_0, g_64a M L n a hm i hi (by omega), b_63_1, iI_lit 0, if_neg iI10, g_64a M L n a hm j hj (by omega), b_63_2, iI_lit 0, if_neg iI10, ix_nat (by omega) (by omega), o_some, ix_nat (by omega) (by omega), o_some, hl i hi, hl j hj]
  by_cases q : rel a i j
  · rw [if_neg (by rw [← iI_lit 0, lgz (ha i) (ha j)]; exact fun h => h q), b2_t q, b_63_4, if_pos (Or.inr rfl)]
    rfl
  · rw [if_pos (by rw [← iI_lit 0]; exact (lgz (ha i) (ha j)).2 q), b2_f q, b_63_3, b_63_4, if_pos (Or.inl rfl)]
    rfl
theorem g_63 (n : Nat) (a : Nat → Nat) (hm : Ms 36 n a M L) (i j : Nat) (hi : i < n) (hj : j < n) {d N : Nat} {xs : Nat → Int32} {tb_ : List zz_B} {t_ : Nat} {ls_ : zz_L} {rest_ : List Value} (hd_ : 2 ≤ d) : (zz_o (zz_call_ d 63 [.ref 36, .int (iI i), .int (iI j)] (zm N xs M L)) fun r => zz_X (zz_call_ d) tb_ t_ ls_ (r.1.toList ++ rest_) r.2) = zz_X (zz_call_ d) tb_ t_ ls_ ((.int (b2 (rel a i j))) :: rest_) (zm N xs M L) := (s_63 M L n a hm i j hi hj).go hd_
theorem l_65a (C : zz_C) (N : Nat) (xs : Nat → Int32) (n : Nat) (a : Nat → Nat) (hm : Ms 36 n a M L) : ∀ c k : Nat, k + c = n → ¬ anyP (rel a) k → zz_X C tb_65 1 [some (.ref 36), some (.long (lI (oR a k))), none, some (.int (iI k))] [] (zm N xs M L) = some (some (.int (b2 (anyP (rel a) n))), zm N xs M L)
  | 0, k, hc, hp => by
    have hn := hm.1
    rw [b_65a_1, hm.2.1, if_pos (by rw [t_le, iI_to (by omega) (by omega), iI_to (by omega) (by omega)]; omega), b_65a_3, b2_f (by rw [show n = k by omega]; exact hp)]
    rfl
  | c + 1, k, hc, hp => by
    have hn := hm.1
    have ha := hm.2.2.1
    have hl : L (36 + 1) k = lI (a k) := hm.2.2.2 k (by omega)
    rw [b_65a_1, hm.2.1, if_neg (by rw [t_le, iI_to (by omega) (by omega), iI_to (by omega) (by omega)]; omega), iI_lit, if_neg (by rw [t_le, iI_to (by omega) (by omega), iI_to (by omega) (by omega)]; omega), ix_nat (by omega) (by omega), o_some, hl]
    by_cases q : oR a k &&& a k ≠ 0
    · rw [if_neg (by rw [lgz (oR_lt ha k) (ha k)]; exact fun h => h q), b2_t]
      · rfl
      · exact ⟨k, by omega, (oR_rel a k k).1 q⟩
    · rw [if_pos ((lgz (oR_lt ha k) (ha k)).2 q), b_65a_2, ix_nat (by omega) (by omega), o_some, hl, lN_or (by have := oR_lt ha k; omega) (by have := ha k; omega), iI_lit, iI_add]
      refine l_65a C N xs n a hm c (k + 1) (by omega) ?_
      rintro ⟨j, hj, hi⟩
      by_cases q2 : j = k
      · subst q2; exact q ((oR_rel a j j).2 hi)
      · exact hp ⟨j, by omega, hi⟩
theorem s_65a (n : Nat) (a : Nat → Nat) (hm : Ms 36 n a M L) : zc 1 65 [.ref 36] M L (some (.int (b2 (anyP (rel a) n)))) M L := by
  refine zc_of (n := 0) (ls := [some (.ref 36), none, none, none]) mk_65 rfl rfl rfl rfl (fun d hd N xs => ?_)
  rw [b_65a_0]
  exact l_65a M L (zz_call_ d) N xs n a hm n 0 (by omega) (by rintro ⟨j, hj, _⟩; omega)
theorem g_65a (n : Nat) (a : Nat → Nat) (hm : Ms 36 n a M L) {d N : Nat} {xs : Nat → Int32} {tb_ : List zz_B} {t_ : Nat} {ls_ : zz_L} {rest_ : List Value} (hd_ : 1 ≤ d) : (zz_o (zz_call_ d 65 [.ref 36] (zm N xs M L)) fun r => zz_X (zz_call_ d) tb_ t_ ls_ (r.1.toList ++ rest_) r.2) = zz_X (zz_call_ d) tb_ t_ ls_ ((.int (b2 (anyP (rel a) n))) :: rest_) (zm N xs M L) := (s_65a M L n a hm).go hd_
theorem l_65b (C : zz_C) (N : Nat) (xs : Nat → Int32) (n : Nat) (a : Nat → Nat) (hm : Ms 46 n a M L) : ∀ c k : Nat, k + c = n → ¬ anyP (rel a) k → zz_X C tb_65 1 [some (.ref 46), some (.long (lI (oR a k))), none, some (.int (iI k))] [] (zm N xs M L) = some (some (.int (b2 (anyP (rel a) n))), zm N xs M L)
  | 0, k, hc, hp => by
    have hn := hm.1
    rw [b_65b_1, hm.2.1, if_pos (by rw [t_le, iI_to (by omega) (by omega), iI_to (by omega) (by omega)]; omega), b_65b_3, b2_f (by rw [show n = k by omega]; exact hp)]
    rfl
  | c + 1, k, hc, hp => by
    have hn := hm.1
    have ha := hm.2.2.1
    have hl : L (46 + 1) k = lI (a k) := hm.2.2.2 k (by omega)
    rw [b_65b_1, hm.2.1, if_neg (by rw [t_le, iI_to (by omega) (by omega), iI_to (by omega) (by omega)]; omega), iI_lit, if_neg (by rw [t_le, iI_to (by omega) (by omega), iI_to (by omega) (by omega)]; omega), ix_nat (by omega) (by omega), o_some, hl]
    by_cases q : oR a k &&& a k ≠ 0
    · rw [if_neg (by rw [lgz (oR_lt ha k) (ha k)]; exact fun h => h q), b2_t]
      · rfl
      · exact ⟨k, by omega, (oR_rel a k k).1 q⟩
    · rw [if_pos ((lgz (oR_lt ha k) (ha k)).2 q), b_65b_2, ix_nat (by omega) (by omega), o_some, hl, lN_or (by have := oR_lt ha k; omega) (by have := ha k; omega), iI_lit, iI_add]
      refine l_65b C N xs n a hm c (k + 1) (by omega) ?_
      rintro ⟨j, hj, hi⟩
      by_cases q2 : j = k
      · subst q2; exact q ((oR_rel a j j).2 hi)
      · exact hp ⟨j, by omega, hi⟩
theorem s_65b (n : Nat) (a : Nat → Nat) (hm : Ms 46 n a M L) : zc 1 65 [.ref 46] M L (some (.int (b2 (anyP (rel a) n)))) M L := by
  refine zc_of (n := 0) (ls := [some (.ref 46), none, none, none]) mk_65 rfl rfl rfl rfl (fun d hd N xs => ?_)
  rw [b_65b_0]
  exact l_65b M L (zz_call_ d) N xs n a hm n 0 (by omega) (by rintro ⟨j, hj, _⟩; omega)
theorem g_65b (n : Nat) (a : Nat → Nat) (hm : Ms 46 n a M L) {d N : Nat} {xs : Nat → Int32} {tb_ : List zz_B} {t_ : Nat} {ls_ : zz_L} {rest_ : List Value} (hd_ : 1 ≤ d) : (zz_o (zz_call_ d 65 [.ref 46] (zm N xs M L)) fun r => zz_X (zz_call_ d) tb_ t_ ls_ (r.1.toList ++ rest_) r.2) = zz_X (zz_call_ d) tb_ t_ ls_ ((.int (b2 (anyP (rel a) n))) :: rest_) (zm N xs M L) := (s_65b M L n a hm).go hd_
theorem s_66 (n : Nat) (a : Nat → Nat) (hm : Ms 36 n a M L) : zc 1 66 [.ref 36] M L (some (.long (lI (oR a n)))) M L := by
  refine zc_of (n := 0) (ls := [some (.ref 36), none, none, none]) mk_66 rfl rfl rfl rfl (fun d hd N xs => ?_)
  have hn := hm.1
  have ha := hm.2.2.1
  rw [b_66_0]
  have hl := upto (fun k : Nat => zz_X (zz_call_ d) tb_66 1 [some (.ref 36), some (.long (lI (oR a k))), none, some (.int (iI k))] [] (zm N xs M L)) n (fun k hkc => by
    show zz_X (zz_call_ d) tb_66 1 _ _ _ = zz_X (zz_call_ d) tb_66 1 _ _ _
    have hl : L 37 k = lI (a k) := hm.2.2.2 k (by omega)
    rw [b_66_1, hm.2.1, if_neg (by rw [t_le, iI_to (by omega) (by omega), iI_to (by omega) (by omega)]; omega), iI_lit, if_neg (by rw [t_le, iI_to (by omega) (by omega), iI_to (by omega) (by omega)]; omega), ix_nat (by omega) (by omega), o_some, hl, lN_or (by have := oR_lt ha k; omega) (by have := ha k; omega), iI_lit, iI_add]
    rfl)
  refine hl.trans ?_
  show zz_X (zz_call_ d) tb_66 1 _ _ _ = _
  rw [b_66_1, hm.2.1, if_pos (by rw [t_le]; omega), b_66_2]
theorem g_66 (n : Nat) (a : Nat → Nat) (hm : Ms 36 n a M L) {d N : Nat} {xs : Nat → Int32} {tb_ : List zz_B} {t_ : Nat} {ls_ : zz_L} {rest_ : List Value} (hd_ : 1 ≤ d) : (zz_o (zz_call_ d 66 [.ref 36] (zm N xs M L)) fun r => zz_X (zz_call_ d) tb_ t_ ls_ (r.1.toList ++ rest_) r.2) = zz_X (zz_call_ d) tb_ t_ ls_ ((.long (lI (oR a n))) :: rest_) (zm N xs M L) := (s_66 M L n a hm).go hd_
theorem s_67 (n : Nat) (a : Nat → Nat) (hm : Ms 36 n a M L) (i : Nat) (hi : i < n) : zc 3 67 [.ref 36, .int (iI i)] M L (some (.int (iI (cZ (fun j => j ≠ i ∧ rel a i j) n)))) M L := by
  refine zc_of (n := 2) (ls := [some (.ref 36), some (.int (iI i)), none, none]) mk_67 rfl rfl rfl rfl (fun d hd N xs => ?_)
  have hn := hm.1
  rw [b_67_0]
  have hl := upto (fun k : Nat => zz_X (zz_call_ d) tb_67 1 [some (.ref 36), some (.int (iI i)), some (.int (iI (cZ (fun j => j ≠ i ∧ rel a i j) k))), some (.int (iI k))] [] (zm N xs M L)) n (fun k hkc => by
    show zz_X (zz_call_ d) tb_67 1 _ _ _ = zz_X (zz_call_ d) tb_67 1 _ _ _
    rw [b_67_1, hm.2.1, if_neg (by rw [t_le, iI_to (by omega) (by omega), iI_to (by omega) (by omega)]; omega)]
    by_cases q : k = i
    · rw [if_pos (by rw [q]), b_67_3, iI_lit, iI_add, cZ_f (p := fun j => j ≠ i ∧ rel a i j) (fun h => h.1 q)]
      rfl
    · rw [if_neg (by rw [t_eq, iI_to (by omega) (by omega), iI_to (by omega) (by omega)]; omega), g_63 M L n a hm i k hi hkc (by omega), b_67_2]
      by_cases q2 : rel a i k
      · rw [b2_t q2, iI_lit 0, if_neg iI10, b_67_3, iI_lit, iI_add, iI_add, cZ_t (p := fun j => j ≠ i ∧ rel a i j) ⟨q, q2⟩]
        rfl
      · rw [b2_f q2, iI_lit 0, if_pos rfl, b_67_3, iI_lit, iI_add, cZ_f (p := fun j => j ≠ i ∧ rel a i j) (fun h => q2 h.2)]
        rfl)
  refine hl.trans ?_
  show zz_X (zz_call_ d) tb_67 1 _ _ _ = _
  rw [b_67_1, hm.2.1, if_pos (by rw [t_le]; omega), b_67_4]
theorem g_67 (n : Nat) (a : Nat → Nat) (hm : Ms 36 n a M L) (i : Nat) (hi : i < n) {d N : Nat} {xs : Nat → Int32} {tb_ : List zz_B} {t_ : Nat} {ls_ : zz_L} {rest_ : List Value} (hd_ : 3 ≤ d) : (zz_o (zz_call_ d 67 [.ref 36, .int (iI i)] (zm N xs M L)) fun r => zz_X (zz_call_ d) tb_ t_ ls_ (r.1.toList ++ rest_) r.2) = zz_X (zz_call_ d) tb_ t_ ls_ ((.int (iI (cZ (fun j => j ≠ i ∧ rel a i j) n))) :: rest_) (zm N xs M L) := (s_67 M L n a hm i hi).go hd_
end ZR

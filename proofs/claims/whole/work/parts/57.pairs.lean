/-! pairs, of both. -/
def sN (f : Nat → Nat) : Nat → Nat
  | 0 => 0
  | n + 1 => sN f n + f n
theorem sN_le {f : Nat → Nat} {b : Nat} (h : ∀ i, f i ≤ b) : ∀ n, sN f n ≤ n * b
  | 0 => by simp [sN]
  | n + 1 => by
    have h1 := sN_le h n
    have h2 := h n
    show sN f n + f n ≤ (n + 1) * b
    rw [Nat.succ_mul]
    omega
abbrev cmp (p : Nat → Nat → Prop) [∀ i j, Decidable (p i j)] (n i : Nat) : Nat := cZ (fun j => j ≠ i ∧ p i j) n
def wS (p : Nat → Nat → Prop) [∀ i j, Decidable (p i j)] (n : Nat) : Nat → Nat
  | 0 => 0
  | k + 1 => if 0 < cmp p n k then wS p n k ||| (1 <<< k) else wS p n k
theorem wS_lt (p : Nat → Nat → Prop) [∀ i j, Decidable (p i j)] (n : Nat) : ∀ k, k ≤ 6 → wS p n k < 2 ^ 6
  | 0, _ => by show 0 < 2 ^ 6; omega
  | k + 1, h => by
    have h1 := wS_lt p n k (by omega)
    unfold wS
    split
    · apply Nat.or_lt_two_pow h1
      rw [Nat.one_shiftLeft]
      exact Nat.pow_lt_pow_right (by omega) (by omega)
    · exact h1
/-- the first pair of i, from j on -/
def lin (p : Nat → Nat → Prop) [∀ i j, Decidable (p i j)] (i : Nat) : Nat → Nat → Option Nat
  | 0, _ => none
  | c + 1, j => if p i j then some (6 * i + j) else lin p i c (j + 1)
def lout (p : Nat → Nat → Prop) [∀ i j, Decidable (p i j)] (n : Nat) : Nat → Nat → Option Nat
  | 0, _ => none
  | c + 1, i => (lin p i (n - (i + 1)) (i + 1)).or (lout p n c (i + 1))
def oI : Option Nat → Int
  | none => -9
  | some x => x
/-- how many, which, the first -/
def stp (p : Nat → Nat → Prop) [∀ i j, Decidable (p i j)] (i j : Nat) (s : Nat × Nat × Int) : Nat × Nat × Int := if p i j then (s.1 + 1, s.2.1 ||| ((1 <<< i) ||| (1 <<< j)), if s.1 = 0 then ((6 * i + j : Nat) : Int) else s.2.2) else s
def pin (p : Nat → Nat → Prop) [∀ i j, Decidable (p i j)] (i : Nat) : Nat → Nat → Nat × Nat × Int → Nat × Nat × Int
  | 0, _, s => s
  | c + 1, j, s => pin p i c (j + 1) (stp p i j s)
def pout (p : Nat → Nat → Prop) [∀ i j, Decidable (p i j)] (n : Nat) : Nat → Nat → Nat × Nat × Int → Nat × Nat × Int
  | 0, _, s => s
  | c + 1, i, s => pout p n c (i + 1) (pin p i (n - (i + 1)) (i + 1) s)
def m3 (M : Nat → Nat → Int32) (s : Nat × Nat × Int) : Nat → Nat → Int32 := zz_wI (zz_wI M 52 15 (iI s.2.1)) 52 16 (iI s.2.2)
theorem m3_m3 (M : Nat → Nat → Int32) (s : Nat × Nat × Int) (c a : Nat) (b : Int) : zz_wI (zz_wI (m3 M s) 52 16 (iI b)) 52 15 (iI a) = m3 M (c, a, b) := by
  funext x k
  unfold m3
  simp only [w_val]
  repeat' split
  all_goals first | rfl | (exfalso; omega)
theorem m3_ne (M : Nat → Nat → Int32) (s : Nat × Nat × Int) {c : Nat} (h : c ≠ 52) : m3 M s c = M c := by
  unfold m3
  rw [w_ne h, w_ne h]
theorem m3_15 (M : Nat → Nat → Int32) (s : Nat × Nat × Int) : m3 M s 52 15 = iI s.2.1 := by
  unfold m3
  rw [w_nk (by omega), w_at]
theorem m3_16 (M : Nat → Nat → Int32) (s : Nat × Nat × Int) : m3 M s 52 16 = iI s.2.2 := by
  unfold m3
  rw [w_at]
theorem m3_eqs (M : Nat → Nat → Int32) (s : Nat × Nat × Int) : eqs M (m3 M s) pA := (eqs.rf.w (by unfold pA pR pT pD pF pH; omega)).w (by unfold pA pR pT pD pF pH; omega)
def sI (M : Nat → Nat → Int32) (c : Nat) (f : Nat → Int32) (n : Nat) : Nat → Nat → Int32 := zz_rI M c (fun j => if j < n then f j else M c j)
theorem sI_0 (M : Nat → Nat → Int32) (c : Nat) (f : Nat → Int32) : sI M c f 0 = M := by
  funext b j
  unfold sI zz_rI
  by_cases q : b = c
  · subst q; simp
  · simp [q]
theorem sI_s (M : Nat → Nat → Int32) (c : Nat) (f : Nat → Int32) (n : Nat) : zz_wI (sI M c f n) c n (f n) = sI M c f (n + 1) := by
  funext b j
  rw [w_val]
  unfold sI
  rw [rr_val, rr_val]
  by_cases q : b = c
  · subst q
    rw [if_pos rfl, if_pos rfl]
    by_cases q2 : j = n
    · subst q2; rw [if_pos ⟨rfl, rfl⟩, if_pos (by omega)]
    · rw [if_neg (by omega)]
      by_cases q3 : j < n
      · rw [if_pos q3, if_pos (by omega)]
      · rw [if_neg q3, if_neg (by omega)]
  · rw [if_neg (by omega), if_neg q, if_neg q]
theorem sI_ne {M : Nat → Nat → Int32} {c b n : Nat} {f : Nat → Int32} (h : b ≠ c) : sI M c f n b = M b := if_neg h
theorem sI_in {M : Nat → Nat → Int32} {c j n : Nat} {f : Nat → Int32} (h : j < n) : sI M c f n c j = f j := by
  unfold sI
  rw [rr_at, if_pos h]
theorem stp_b (p : Nat → Nat → Prop) [∀ i j, Decidable (p i j)] {i j : Nat} (hi : i < 6) (hj : j < 6) {s : Nat × Nat × Int} (h : s.2.1 < 2 ^ 6) : (stp p i j s).2.1 < 2 ^ 6 := by
  have e : (1 <<< i ||| 1 <<< j : Nat) < 2 ^ 6 := by
    apply Nat.or_lt_two_pow
    · rw [Nat.one_shiftLeft]; exact Nat.pow_lt_pow_right (by omega) hi
    · rw [Nat.one_shiftLeft]; exact Nat.pow_lt_pow_right (by omega) hj
  unfold stp
  by_cases q : p i j
  · rw [if_pos q]; exact Nat.or_lt_two_pow h e
  · rw [if_neg q]; exact h
theorem pin_b (p : Nat → Nat → Prop) [∀ i j, Decidable (p i j)] {i : Nat} (hi : i < 6) : ∀ (c j : Nat) (s : Nat × Nat × Int), j + c ≤ 6 → s.2.1 < 2 ^ 6 → (pin p i c j s).2.1 < 2 ^ 6
  | 0, _, _, _, h => h
  | c + 1, j, s, hj, h => pin_b p hi c (j + 1) _ (by omega) (stp_b p hi (by omega) h)
theorem stp_c (p : Nat → Nat → Prop) [∀ i j, Decidable (p i j)] (i j : Nat) (s : Nat × Nat × Int) : (stp p i j s).1 ≤ s.1 + 1 := by
  unfold stp
  by_cases q : p i j
  · rw [if_pos q]; exact Nat.le_refl _
  · rw [if_neg q]; omega
theorem pin_c (p : Nat → Nat → Prop) [∀ i j, Decidable (p i j)] (i : Nat) : ∀ (c j : Nat) (s : Nat × Nat × Int), (pin p i c j s).1 ≤ s.1 + c
  | 0, _, _ => Nat.le_refl _
  | c + 1, j, s => by
    have h1 := pin_c p i c (j + 1) (stp p i j s)
    have h2 := stp_c p i j s
    show (pin p i c (j + 1) (stp p i j s)).1 ≤ _
    omega
section ZR
variable (M : Nat → Nat → Int32) (L : Nat → Nat → Int64)
theorem s_68 (n : Nat) (a : Nat → Nat) (hm : Ms 36 n a M L) : zc 4 68 [.ref 36] M L (some (.int (iI (sN (cmp (rel a) n) n / 2 : Nat)))) M L := by
  refine zc_of (n := 3) (ls := [some (.ref 36), none, none]) mk_68 rfl rfl rfl rfl (fun d hd N xs => ?_)
  have hn := hm.1
  rw [b_68_0]
  have hl := upto (fun k : Nat => zz_X (zz_call_ d) tb_68 1 [some (.ref 36), some (.int (iI (sN (cmp (rel a) n) k))), some (.int (iI k))] [] (zm N xs M L)) n (fun k hkc => by
    show zz_X (zz_call_ d) tb_68 1 _ _ _ = zz_X (zz_call_ d) tb_68 1 _ _ _
    rw [b_68_1, hm.2.1, if_neg (by rw [t_le, iI_to (by omega) (by omega), iI_to (by omega) (by omega)]; omega), g_67 M L n a hm k hkc (by omega), b_68_2, iI_lit, iI_add, iI_add]
    rfl)
  refine hl.trans ?_
  have hb := sN_le (f := cmp (rel a) n) (b := 6) (fun i => Nat.le_trans (cZ_le _ _) hn) n
  show zz_X (zz_call_ d) tb_68 1 _ _ _ = _
  rw [b_68_1, hm.2.1, if_pos (by rw [t_le]; omega), b_68_3, iI_lit, iI_div (by omega) (by omega) (by omega) (by omega)]
  rfl
theorem g_68 (n : Nat) (a : Nat → Nat) (hm : Ms 36 n a M L) {d N : Nat} {xs : Nat → Int32} {tb_ : List zz_B} {t_ : Nat} {ls_ : zz_L} {rest_ : List Value} (hd_ : 4 ≤ d) : (zz_o (zz_call_ d 68 [.ref 36] (zm N xs M L)) fun r => zz_X (zz_call_ d) tb_ t_ ls_ (r.1.toList ++ rest_) r.2) = zz_X (zz_call_ d) tb_ t_ ls_ ((.int (iI (sN (cmp (rel a) n) n / 2 : Nat))) :: rest_) (zm N xs M L) := (s_68 M L n a hm).go hd_
theorem s_69 (n : Nat) (a : Nat → Nat) (hm : Ms 36 n a M L) : zc 4 69 [.ref 36] M L (some (.int (iI (wS (rel a) n n)))) M L := by
  refine zc_of (n := 3) (ls := [some (.ref 36), none, none]) mk_69 rfl rfl rfl rfl (fun d hd N xs => ?_)
  have hn := hm.1
  rw [b_69_0]
  have hl := upto (fun k : Nat => zz_X (zz_call_ d) tb_69 1 [some (.ref 36), some (.int (iI (wS (rel a) n k))), some (.int (iI k))] [] (zm N xs M L)) n (fun k hkc => by
    show zz_X (zz_call_ d) tb_69 1 _ _ _ = zz_X (zz_call_ d) tb_69 1 _ _ _
    have hc := cZ_le (fun j => j ≠ k ∧ rel a k j) n
    have hw := wS_lt (rel a) n k (by omega)
    rw [b_69_1, hm.2.1, if_neg (by rw [t_le, iI_to (by omega) (by omega), iI_to (by omega) (by omega)]; omega), g_67 M L n a hm k hkc (by omega), b_69_2, iI_lit 0]
    by_cases q : 0 < cZ (fun j => j ≠ k ∧ rel a k j) n
    · rw [if_neg (by rw [t_le, iI_to (by omega) (by omega), show (iI (OfNat.ofNat 0)).toInt = 0 from rfl]; omega), b_69_3, iN_shl (by omega), iN_or (by omega) (by rw [Nat.one_shiftLeft]; exact Nat.pow_lt_pow_right (by omega) (by omega)), iI_lit, iI_add, show wS (rel a) n (k + 1) = wS (rel a) n k ||| (1 <<< k) from if_pos q]
      rfl
    · rw [if_pos (by rw [t_le, iI_to (by omega) (by omega), show (iI (OfNat.ofNat 0)).toInt = 0 from rfl]; omega), b_69_3, iI_lit, iI_add, show wS (rel a) n (k + 1) = wS (rel a) n k from if_neg q]
      rfl)
  refine hl.trans ?_
  show zz_X (zz_call_ d) tb_69 1 _ _ _ = _
  rw [b_69_1, hm.2.1, if_pos (by rw [t_le]; omega), b_69_4]
theorem g_69 (n : Nat) (a : Nat → Nat) (hm : Ms 36 n a M L) {d N : Nat} {xs : Nat → Int32} {tb_ : List zz_B} {t_ : Nat} {ls_ : zz_L} {rest_ : List Value} (hd_ : 4 ≤ d) : (zz_o (zz_call_ d 69 [.ref 36] (zm N xs M L)) fun r => zz_X (zz_call_ d) tb_ t_ ls_ (r.1.toList ++ rest_) r.2) = zz_X (zz_call_ d) tb_ t_ ls_ ((.int (iI (wS (rel a) n n))) :: rest_) (zm N xs M L) := (s_69 M L n a hm).go hd_
theorem l_70i {d : Nat} (hd : 2 ≤ d) (N : Nat) (xs : Nat → Int32) (n : Nat) (a : Nat → Nat) (hm : Ms 36 n a M L) (i : Nat) (hi : i < n) : ∀ c j : Nat, j + c = n → zz_X (zz_call_ d) tb_70 2 [some (.ref 36), some (.int (iI i)), some (.int (iI j))] [] (zm N xs M L) = match lin (rel a) i c j with
    | some v => some (some (.int (iI v)), zm N xs M L)
    | none => zz_X (zz_call_ d) tb_70 1 [some (.ref 36), some (.int (iI ((i + 1 : Nat) : Int))), some (.int (iI n))] [] (zm N xs M L)
  | 0, j, hc => by
    have hn := hm.1
    rw [b_70_2, hm.2.1, if_pos (by rw [t_le, iI_to (by omega) (by omega), iI_to (by omega) (by omega)]; omega), b_70_5, iI_lit, iI_add, show j = n by omega]
    rfl
  | c + 1, j, hc => by
    have hn := hm.1
    rw [b_70_2, hm.2.1, if_neg (by rw [t_le, iI_to (by omega) (by omega), iI_to (by omega) (by omega)]; omega), g_63 M L n a hm i j hi (by omega) (by omega), b_70_3]
    unfold lin
    by_cases q : rel a i j
    · rw [b2_t q, iI_lit 0, if_neg iI10, if_pos q, iI_lit, iI_mul, iI_add]
      rfl
    · rw [b2_f q, iI_lit 0, if_pos rfl, if_neg q, b_70_4, iI_lit, iI_add]
      exact l_70i hd N xs n a hm i hi c (j + 1) (by omega)
theorem l_70 {d : Nat} (hd : 2 ≤ d) (N : Nat) (xs : Nat → Int32) (n : Nat) (a : Nat → Nat) (hm : Ms 36 n a M L) : ∀ (c i : Nat) (o : Option Value), i + c = n → zz_X (zz_call_ d) tb_70 1 [some (.ref 36), some (.int (iI i)), o] [] (zm N xs M L) = some (some (.int (iI (oI (lout (rel a) n c i)))), zm N xs M L)
  | 0, i, o, hc => by
    have hn := hm.1
    rw [b_70_1, hm.2.1, if_pos (by rw [t_le, iI_to (by omega) (by omega), iI_to (by omega) (by omega)]; omega), b_70_6]
    rfl
  | c + 1, i, o, hc => by
    have hn := hm.1
    have e := l_70i M L hd N xs n a hm i (by omega) (n - (i + 1)) (i + 1) (by omega)
    rw [b_70_1, hm.2.1, if_neg (by rw [t_le, iI_to (by omega) (by omega), iI_to (by omega) (by omega)]; omega), iI_lit, iI_add, show (i : Int) + 1 = ((i + 1 : Nat) : Int) by omega, e]
    unfold lout
    cases q : lin (rel a) i (n - (i + 1)) (i + 1) with
    | some v => rfl
    | none => exact l_70 hd N xs n a hm c (i + 1) _ (by omega)
theorem s_70 (n : Nat) (a : Nat → Nat) (hm : Ms 36 n a M L) : zc 3 70 [.ref 36] M L (some (.int (iI (oI (lout (rel a) n n 0))))) M L := by
  refine zc_of (n := 2) (ls := [some (.ref 36), none, none]) mk_70 rfl rfl rfl rfl (fun d hd N xs => ?_)
  rw [b_70_0]
  exact l_70 M L hd N xs n a hm n 0 none (by omega)
theorem g_70 (n : Nat) (a : Nat → Nat) (hm : Ms 36 n a M L) {d N : Nat} {xs : Nat → Int32} {tb_ : List zz_B} {t_ : Nat} {ls_ : zz_L} {rest_ : List Value} (hd_ : 3 ≤ d) : (zz_o (zz_call_ d 70 [.ref 36] (zm N xs M L)) fun r => zz_X (zz_call_ d) tb_ t_ ls_ (r.1.toList ++ rest_) r.2) = zz_X (zz_call_ d) tb_ t_ ls_ ((.int (iI (oI (lout (rel a) n n 0)))) :: rest_) (zm N xs M L) := (s_70 M L n a hm).go hd_
theorem s_199 (V : Vw) (hk : Vk V) (hr : Rv V (M 53) 0) (n : Nat) (h : n ≤ 420) : zc 5 199 [.ref 52, .int (iI n)] M L none (sI M 61 (fun i => iI (V.minAt i n)) V.n) L := by
  refine zc_of (n := 4) (ls := [some (.ref 52), some (.int (iI n)), none]) mk_199 rfl rfl rfl rfl (fun d hd N xs => ?_)
  have hn := hk.n
  rw [b_199_0]
  have hl := upto (fun k : Nat => zz_X (zz_call_ d) tb_199 1 [some (.ref 52), some (.int (iI n)), some (.int (iI k))] [] (zm N xs (sI M 61 (fun i => iI (V.minAt i n)) k) L)) V.n (fun k hkc => by
    show zz_X (zz_call_ d) tb_199 1 _ _ _ = zz_X (zz_call_ d) tb_199 1 _ _ _
    have hr2 : Rv V (sI M 61 (fun i => iI (V.minAt i n)) k 53) 0 := by rw [sI_ne (by omega)]; exact hr
    have e0 : sI M 61 (fun i => iI (V.minAt i n)) k 53 0 = iI V.n := hr2.n
    rw [b_199_1, e0, if_neg (by rw [t_le, iI_to (by omega) (by omega), iI_to (by omega) (by omega)]; omega), g_190 _ L V hk hr2 k n hkc (by omega) (by omega), b_199_2, ix_nat (by omega) (by omega), o_some, iI_lit, iI_add, sI_s M 61 (fun i => iI (V.minAt i n)) k]
    rfl)
  simp only [sI_0] at hl
  refine hl.trans ?_
  have e0 : sI M 61 (fun i => iI (V.minAt i n)) V.n 53 0 = iI V.n := by rw [sI_ne (by omega)]; exact hr.n
  rw [b_199_1, e0, if_pos (by rw [t_le]; omega), b_199_3]
theorem g_199 (V : Vw) (hk : Vk V) (hr : Rv V (M 53) 0) (n : Nat) (h : n ≤ 420) {d N : Nat} {xs : Nat → Int32} {tb_ : List zz_B} {t_ : Nat} {ls_ : zz_L} {rest_ : List Value} (hd_ : 5 ≤ d) : (zz_o (zz_call_ d 199 [.ref 52, .int (iI n)] (zm N xs M L)) fun r => zz_X (zz_call_ d) tb_ t_ ls_ (r.1.toList ++ rest_) r.2) = zz_X (zz_call_ d) tb_ t_ ls_ rest_ (zm N xs (sI M 61 (fun i => iI (V.minAt i n)) V.n) L) := (s_199 M L V hk hr n h).gov hd_
theorem l_200i {d : Nat} (hd : 3 ≤ d) (N : Nat) (xs : Nat → Int32) (V : Vw) (hk : Vk V) (hr : Rv V (M 53) 0) (a : Nat → Int) (ha : ∀ i, 0 ≤ a i ∧ a i < 60) (h61 : ∀ i, i < V.n → M 61 i = iI (a i)) (i : Nat) (hi : i < V.n) : ∀ (c j : Nat) (s : Nat × Nat × Int), j + c = V.n → s.2.1 < 2 ^ 6 → s.1 + c ≤ 1000 → zz_X (zz_call_ d) tb_200 2 [some (.ref 52), some (.int (iI s.1)), some (.int (iI i)), some (.int (iI j))] [] (zm N xs (m3 M s) L) = zz_X (zz_call_ d) tb_200 1 [some (.ref 52), some (.int (iI (pin (fun i j => met (a i) (span (V.kind i)) (a j) (span (V.kind j))) i c j s).1)), some (.int (iI ((i + 1 : Nat) : Int))), some (.int (iI V.n))] [] (zm N xs (m3 M (pin (fun i j => met (a i) (span (V.kind i)) (a j) (span (V.kind j))) i c j s)) L)
  | 0, j, s, hc, hs, hb => by
    have hn := hk.n
    have e0 : m3 M s 53 0 = iI V.n := by rw [m3_ne _ _ (by omega)]; exact hr.n
    rw [b_200_2, e0, if_pos (by rw [t_le, iI_to (by omega) (by omega), iI_to (by omega) (by omega)]; omega), b_200_7, iI_lit, iI_add, show j = V.n by omega]
    rfl
  | c + 1, j, s, hc, hs, hb => by
    have hn := hk.n
    have hr2 : Rv V (m3 M s 53) 0 := by rw [m3_ne _ _ (by omega)]; exact hr
    have e0 : m3 M s 53 0 = iI V.n := hr2.n
    have h1 := ha i
    have h2 := ha j
    have hsb := stp_b (fun i j => met (a i) (span (V.kind i)) (a j) (span (V.kind j))) (i := i) (j := j) (by omega) (by omega) hs
    have hsc := stp_c (fun i j => met (a i) (span (V.kind i)) (a j) (span (V.kind j))) i j s
    rw [b_200_2, e0, if_neg (by rw [t_le, iI_to (by omega) (by omega), iI_to (by omega) (by omega)]; omega), ix_nat (by omega) (by omega), o_some, ix_nat (by omega) (by omega), o_some, m3_ne M s (by omega : (61 : Nat) ≠ 52), h61 i hi, h61 j (by omega), g_192 _ L V hk hr2 i j _ _ hi (by omega) (by omega) (by omega) (by omega) (by omega) (by omega), b_200_3]
    have ih := l_200i hd N xs V hk hr a ha h61 i hi c (j + 1) (stp (fun i j => met (a i) (span (V.kind i)) (a j) (span (V.kind j))) i j s) (by omega) hsb (by omega)
    by_cases q : met (a i) (span (V.kind i)) (a j) (span (V.kind j))
    · have es : stp (fun i j => met (a i) (span (V.kind i)) (a j) (span (V.kind j))) i j s = (s.1 + 1, s.2.1 ||| ((1 <<< i) ||| (1 <<< j)), if s.1 = 0 then ((6 * i + j : Nat) : Int) else s.2.2) := if_pos q
      have l5 : ∀ v : Int, zz_X (zz_call_ d) tb_200 5 [some (.ref 52), some (.int (iI s.1)), some (.int (iI i)), some (.int (iI j))] [.int (iI v), .ref 52] (zm N xs (m3 M s) L) = zz_X (zz_call_ d) tb_200 2 [some (.ref 52), some (.int (iI ((s.1 + 1 : Nat) : Int))), some (.int (iI i)), some (.int (iI ((j + 1 : Nat) : Int)))] [] (zm N xs (m3 M (s.1 + 1, s.2.1 ||| ((1 <<< i) ||| (1 <<< j)), v)) L) := by
        intro v
        have eb : ∀ k, k < 6 → (1 <<< k : Nat) < 2 ^ 6 := fun k hk => by rw [Nat.one_shiftLeft]; exact Nat.pow_lt_pow_right (by omega) hk
        have b1 := eb i (by omega)
        have b2 := eb j (by omega)
        have b3 : (1 <<< i ||| 1 <<< j : Nat) < 2 ^ 6 := Nat.or_lt_two_pow b1 b2
        rw [b_200_5, w_nk (by omega : (15 : Nat) ≠ 16), m3_15, iN_shl (by omega), iN_shl (by omega), iN_or (by omega) (by omega), iN_or (by omega) (by omega), m3_m3 M s (s.1 + 1), b_200_6, iI_lit, iI_add, iI_add]
        rfl
      rw [es] at ih
      rw [b2_t q, iI_lit 0, if_neg iI10]
      unfold pin
      rw [es]
      by_cases q0 : s.1 = 0
      · rw [if_pos (by rw [q0]; rfl), iI_lit, iI_mul, iI_add, l5]
        rw [if_pos q0] at ih ⊢
        exact ih
      · rw [if_neg (by rw [t_eq, iI_to (by omega) (by omega), show (iI (OfNat.ofNat 0)).toInt = 0 from rfl]; omega), b_200_4, m3_16, l5]
        rw [if_neg q0] at ih ⊢
        exact ih
    · have es : stp (fun i j => met (a i) (span (V.kind i)) (a j) (span (V.kind j))) i j s = s := if_neg q
      rw [es] at ih
      rw [b2_f q, iI_lit 0, if_pos rfl, b_200_6, iI_lit, iI_add]
      unfold pin
      rw [es]
      exact ih
theorem l_200 {d : Nat} (hd : 3 ≤ d) (N : Nat) (xs : Nat → Int32) (V : Vw) (hk : Vk V) (hr : Rv V (M 53) 0) (a : Nat → Int) (ha : ∀ i, 0 ≤ a i ∧ a i < 60) (h61 : ∀ i, i < V.n → M 61 i = iI (a i)) : ∀ (c i : Nat) (s : Nat × Nat × Int) (o : Option Value), i + c = V.n → s.2.1 < 2 ^ 6 → s.1 + 6 * c ≤ 900 → zz_X (zz_call_ d) tb_200 1 [some (.ref 52), some (.int (iI s.1)), some (.int (iI i)), o] [] (zm N xs (m3 M s) L) = some (some (.int (iI (pout (fun i j => met (a i) (span (V.kind i)) (a j) (span (V.kind j))) V.n c i s).1)), zm N xs (m3 M (pout (fun i j => met (a i) (span (V.kind i)) (a j) (span (V.kind j))) V.n c i s)) L)
  | 0, i, s, o, hc, hs, hb => by
    have hn := hk.n
    have e0 : m3 M s 53 0 = iI V.n := by rw [m3_ne _ _ (by omega)]; exact hr.n
    rw [b_200_1, e0, if_pos (by rw [t_le, iI_to (by omega) (by omega), iI_to (by omega) (by omega)]; omega), b_200_8]
    rfl
  | c + 1, i, s, o, hc, hs, hb => by
    have hn := hk.n
    have e0 : m3 M s 53 0 = iI V.n := by rw [m3_ne _ _ (by omega)]; exact hr.n
    have e := l_200i M L hd N xs V hk hr a ha h61 i (by omega) (V.n - (i + 1)) (i + 1) s (by omega) hs (by omega)
    have hpb := pin_b (fun i j => met (a i) (span (V.kind i)) (a j) (span (V.kind j))) (i := i) (by omega) (V.n - (i + 1)) (i + 1) s (by omega) hs
    have hpc := pin_c (fun i j => met (a i) (span (V.kind i)) (a j) (span (V.kind j))) i (V.n - (i + 1)) (i + 1) s
    rw [b_200_1, e0, if_neg (by rw [t_le, iI_to (by omega) (by omega), iI_to (by omega) (by omega)]; omega), iI_lit, iI_add, show (i : Int) + 1 = ((i + 1 : Nat) : Int) by omega, e]
    exact l_200 hd N xs V hk hr a ha h61 c (i + 1) _ _ (by omega) hpb (by omega)
theorem s_200 (V : Vw) (hk : Vk V) (hr : Rv V (M 53) 0) (a : Nat → Int) (ha : ∀ i, 0 ≤ a i ∧ a i < 60) (h61 : ∀ i, i < V.n → M 61 i = iI (a i)) : zc 4 200 [.ref 52] M L (some (.int (iI (pout (fun i j => met (a i) (span (V.kind i)) (a j) (span (V.kind j))) V.n V.n 0 (0, 0, -9)).1))) (m3 M (pout (fun i j => met (a i) (span (V.kind i)) (a j) (span (V.kind j))) V.n V.n 0 (0, 0, -9))) L := by
  refine zc_of (n := 3) (ls := [some (.ref 52), none, none, none]) mk_200 rfl rfl rfl rfl (fun d hd N xs => ?_)
  have hn := hk.n
  rw [b_200_0]
  exact l_200 M L hd N xs V hk hr a ha h61 V.n 0 (0, 0, -9) none (by omega) (by show 0 < 2 ^ 6; omega) (by show 0 + 6 * V.n ≤ 900; omega)
theorem g_200 (V : Vw) (hk : Vk V) (hr : Rv V (M 53) 0) (a : Nat → Int) (ha : ∀ i, 0 ≤ a i ∧ a i < 60) (h61 : ∀ i, i < V.n → M 61 i = iI (a i)) {d N : Nat} {xs : Nat → Int32} {tb_ : List zz_B} {t_ : Nat} {ls_ : zz_L} {rest_ : List Value} (hd_ : 4 ≤ d) : (zz_o (zz_call_ d 200 [.ref 52] (zm N xs M L)) fun r => zz_X (zz_call_ d) tb_ t_ ls_ (r.1.toList ++ rest_) r.2) = zz_X (zz_call_ d) tb_ t_ ls_ ((.int (iI (pout (fun i j => met (a i) (span (V.kind i)) (a j) (span (V.kind j))) V.n V.n 0 (0, 0, -9)).1)) :: rest_) (zm N xs (m3 M (pout (fun i j => met (a i) (span (V.kind i)) (a j) (span (V.kind j))) V.n V.n 0 (0, 0, -9))) L) := (s_200 M L V hk hr a ha h61).go hd_
theorem s_201 (V : Vw) (hk : Vk V) (hr : Rv V (M 53) 0) : zc 6 201 [.ref 52] M L (some (.int (iI (pout (fun i j => V.mt i j 0) V.n V.n 0 (0, 0, -9)).1))) (m3 (sI M 61 (fun i => iI (V.minAt i 0)) V.n) (pout (fun i j => V.mt i j 0) V.n V.n 0 (0, 0, -9))) L := by
  refine zc_of (n := 5) (ls := [some (.ref 52)]) mk_201 rfl rfl rfl rfl (fun d hd N xs => ?_)
  rw [b_201_0, iI_lit, show (OfNat.ofNat 0 : Int) = ((0 : Nat) : Int) from rfl, g_199 M L V hk hr 0 (by omega) (by omega), b_201_1, g_200 _ L V hk (by rw [sI_ne (by omega)]; exact hr) (fun i => V.minAt i 0) (fun i => minAt_b V i 0) (fun i hi => by rw [sI_in hi]) (by omega), b_201_2]
theorem g_201 (V : Vw) (hk : Vk V) (hr : Rv V (M 53) 0) {d N : Nat} {xs : Nat → Int32} {tb_ : List zz_B} {t_ : Nat} {ls_ : zz_L} {rest_ : List Value} (hd_ : 6 ≤ d) : (zz_o (zz_call_ d 201 [.ref 52] (zm N xs M L)) fun r => zz_X (zz_call_ d) tb_ t_ ls_ (r.1.toList ++ rest_) r.2) = zz_X (zz_call_ d) tb_ t_ ls_ ((.int (iI (pout (fun i j => V.mt i j 0) V.n V.n 0 (0, 0, -9)).1)) :: rest_) (zm N xs (m3 (sI M 61 (fun i => iI (V.minAt i 0)) V.n) (pout (fun i j => V.mt i j 0) V.n V.n 0 (0, 0, -9))) L) := (s_201 M L V hk hr).go hd_
theorem Ms_see (c : Nat) (V : Vw) (hk : Vk V) (n : Nat) : Ms c V.n (fun i => rg (V.minAt i n).toNat (span (V.kind i))) (zz_wI M c 1 (iI V.n)) (sL L (c + 1) (fun i => lI (rg (V.minAt i n).toNat (span (V.kind i)))) V.n) := ⟨hk.n, w_at, fun i => tn_lt _ _, fun i hi => by rw [sL_in hi]⟩
theorem rel_mt (V : Vw) (n i j : Nat) : rel (fun i => rg (V.minAt i n).toNat (span (V.kind i))) i j ↔ V.mt i j n := by
  have h1 := minAt_b V i n
  have h2 := minAt_b V j n
  have h3 := span_b (V.kind i)
  have h4 := span_b (V.kind j)
  have := met_bits (a := (V.minAt i n).toNat) (b := (V.minAt j n).toNat) (s := span (V.kind i)) (t := span (V.kind j)) (by omega) (by omega) (by omega) (by omega)
  rw [show (((V.minAt i n).toNat : Nat) : Int) = V.minAt i n by omega, show (((V.minAt j n).toNat : Nat) : Int) = V.minAt j n by omega] at this
  exact this
theorem s_147 (V : Vw) (hk : Vk V) (hv : Hv V M) : zc 5 147 [.ref 0] M L (some (.int (iI (sN (cmp (rel (fun i => rg (V.minAt i 0).toNat (span (V.kind i)))) V.n) V.n / 2 : Nat)))) (zz_wI M 36 1 (iI V.n)) (sL L 37 (fun i => lI (rg (V.minAt i 0).toNat (span (V.kind i)))) V.n) := by
  refine zc_of (n := 4) (ls := [some (.ref 0)]) mk_147 rfl rfl rfl rfl (fun d hd N xs => ?_)
  have e := g_62a (d := d) (N := N) (xs := xs) (tb_ := tb_147) (t_ := 1) (ls_ := [some (.ref 0)]) (rest_ := []) M L V hk hv 0 (by omega) (by omega)
  rw [b_147_0]
  refine Eq.trans e ?_
  rw [b_147_1, g_68 _ _ V.n _ (Ms_see M L 36 V hk 0) (by omega), b_147_2]
theorem g_147 (V : Vw) (hk : Vk V) (hv : Hv V M) {d N : Nat} {xs : Nat → Int32} {tb_ : List zz_B} {t_ : Nat} {ls_ : zz_L} {rest_ : List Value} (hd_ : 5 ≤ d) : (zz_o (zz_call_ d 147 [.ref 0] (zm N xs M L)) fun r => zz_X (zz_call_ d) tb_ t_ ls_ (r.1.toList ++ rest_) r.2) = zz_X (zz_call_ d) tb_ t_ ls_ ((.int (iI (sN (cmp (rel (fun i => rg (V.minAt i 0).toNat (span (V.kind i)))) V.n) V.n / 2 : Nat))) :: rest_) (zm N xs (zz_wI M 36 1 (iI V.n)) (sL L 37 (fun i => lI (rg (V.minAt i 0).toNat (span (V.kind i)))) V.n)) := (s_147 M L V hk hv).go hd_
end ZR

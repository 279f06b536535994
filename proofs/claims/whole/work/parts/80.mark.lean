/-! mark, of both. -/
def bS (p : Nat → Prop) [DecidablePred p] : Nat → Nat
  | 0 => 0
  | k + 1 => if p k then bS p k ||| (1 <<< k) else bS p k
theorem bS_bit (p : Nat → Prop) [DecidablePred p] (m : Nat) : ∀ n, (bS p n).testBit m = true ↔ m < n ∧ p m
  | 0 => by
    show (0 : Nat).testBit m = true ↔ _
    rw [Nat.zero_testBit]
    constructor
    · intro h; cases h
    · rintro ⟨h, _⟩; omega
  | n + 1 => by
    have e : bS p (n + 1) = if p n then bS p n ||| (1 <<< n) else bS p n := rfl
    rw [e]
    by_cases q : p n
    · rw [if_pos q, Nat.testBit_or, Bool.or_eq_true, bS_bit p m n, one_bit]
      constructor
      · rintro (h | h)
        · exact ⟨by omega, h.2⟩
        · subst h; exact ⟨by omega, q⟩
      · rintro ⟨h1, h2⟩
        by_cases e : m = n
        · exact Or.inr e
        · exact Or.inl ⟨by omega, h2⟩
    · rw [if_neg q, bS_bit p m n]
      constructor
      · rintro ⟨h1, h2⟩; exact ⟨by omega, h2⟩
      · rintro ⟨h1, h2⟩
        by_cases e : m = n
        · subst e; exact absurd h2 q
        · exact ⟨by omega, h2⟩
theorem bS_lt (p : Nat → Prop) [DecidablePred p] : ∀ n, bS p n < 2 ^ n
  | 0 => by show 0 < 1; omega
  | n + 1 => by
    have h := bS_lt p n
    have h2 : (2 : Nat) ^ n < 2 ^ (n + 1) := Nat.pow_lt_pow_right (by omega) (by omega)
    show (if p n then bS p n ||| (1 <<< n) else bS p n) < _
    split
    · apply Nat.or_lt_two_pow (by omega)
      rw [Nat.one_shiftLeft]
      exact h2
    · omega
theorem bS_64 (p : Nat → Prop) [DecidablePred p] {n : Nat} (h : n ≤ 6) : bS p n < 64 := Nat.lt_of_lt_of_le (bS_lt p n) (Nat.pow_le_pow_right (by omega) h)
theorem bS_cg {p q : Nat → Prop} [DecidablePred p] [DecidablePred q] : ∀ {n : Nat}, (∀ k, k < n → (p k ↔ q k)) → bS p n = bS q n
  | 0, _ => rfl
  | n + 1, h => by
    show (if p n then bS p n ||| (1 <<< n) else bS p n) = (if q n then bS q n ||| (1 <<< n) else bS q n)
    rw [bS_cg (fun k hk => h k (by omega))]
    by_cases e : p n
    · rw [if_pos e, if_pos ((h n (by omega)).1 e)]
    · rw [if_neg e, if_neg (fun a => e ((h n (by omega)).2 a))]
theorem bS_cnt (p : Nat → Prop) [DecidablePred p] {n : Nat} (h : n ≤ 6) : cZ (fun k => (bS p n).testBit k = true) 6 = cZ p n := by
  rw [show (6 : Nat) = n + (6 - n) by omega, cZ_add]
  have e1 : cZ (fun k => (bS p n).testBit k = true) n = cZ p n := cZ_cg (fun k hk => by rw [bS_bit]; exact ⟨fun a => a.2, fun a => ⟨hk, a⟩⟩)
  have e2 : ¬ 0 < cZ (fun k => (bS p n).testBit (n + k) = true) (6 - n) := by
    rw [cZ_pos]
    rintro ⟨k, _, hk⟩
    rw [bS_bit] at hk
    omega
  omega
theorem sh_lt {j : Nat} (h : j < 6) : (1 <<< j : Nat) < 64 := by rw [Nat.one_shiftLeft]; exact Nat.pow_lt_pow_right (a := 2) (n := 6) (by omega) h
abbrev vq (V : Vw) (i j d : Nat) : Prop := 0 < cZ (fun k => V.minAt j k = V.minute i) d
def vx (V : Vw) (i d j : Nat) : Nat := bS (fun a => a ≠ i ∧ (vq V i a d ∨ (a < j ∧ V.minAt a d = V.minute i))) V.n
theorem vx_s {V : Vw} {i d j : Nat} (hj : j < V.n) (h : j ≠ i ∧ V.minAt j d = V.minute i) : vx V i d j ||| (1 <<< j) = vx V i d (j + 1) := by
  apply Nat.eq_of_testBit_eq
  intro m
  unfold vx
  rw [Bool.eq_iff_iff, Nat.testBit_or, Bool.or_eq_true, one_bit, bS_bit, bS_bit]
  constructor
  · rintro (⟨a, b, c⟩ | rfl)
    · exact ⟨a, b, c.imp id (fun e => ⟨by omega, e.2⟩)⟩
    · exact ⟨hj, h.1, Or.inr ⟨by omega, h.2⟩⟩
  · rintro ⟨a, b, c⟩
    by_cases e : m = j
    · exact Or.inr e
    · exact Or.inl ⟨a, b, c.imp id (fun e => ⟨by omega, e.2⟩)⟩
theorem vx_n {V : Vw} {i d j : Nat} (h : ¬ (j ≠ i ∧ V.minAt j d = V.minute i)) : vx V i d j = vx V i d (j + 1) := bS_cg (fun k hk => by
  constructor
  · rintro ⟨a, b⟩; exact ⟨a, b.imp id (fun e => ⟨by omega, e.2⟩)⟩
  · rintro ⟨a, b⟩
    refine ⟨a, b.imp id (fun e => ⟨?_, e.2⟩)⟩
    by_cases q : k = j
    · subst q; exact absurd ⟨a, e.2⟩ h
    · omega)
theorem vx_d (V : Vw) (i d : Nat) : vx V i d V.n = vx V i (d + 1) 0 := bS_cg (fun k hk => by
  have e : vq V i k (d + 1) ↔ vq V i k d ∨ V.minAt k d = V.minute i := by
    by_cases q : V.minAt k d = V.minute i
    · show 0 < cZ (fun a => V.minAt k a = V.minute i) (d + 1) ↔ _
      rw [cZ_t (p := fun a => V.minAt k a = V.minute i) q]
      exact ⟨fun _ => Or.inr q, fun _ => by omega⟩
    · show 0 < cZ (fun a => V.minAt k a = V.minute i) (d + 1) ↔ _
      rw [cZ_f (p := fun a => V.minAt k a = V.minute i) q]
      exact ⟨Or.inl, fun a => a.resolve_right q⟩
  rw [e]
  constructor
  · rintro ⟨a, b⟩; exact ⟨a, Or.inl (b.imp id (fun e => e.2))⟩
  · rintro ⟨a, b⟩
    refine ⟨a, ?_⟩
    rcases b with (b | b) | b
    · exact Or.inl b
    · exact Or.inr ⟨hk, b⟩
    · omega)
theorem vx_0 (V : Vw) (i : Nat) : vx V i 0 0 = 0 := by
  apply Nat.eq_of_testBit_eq
  intro m
  unfold vx
  rw [Bool.eq_iff_iff, bS_bit, Nat.zero_testBit]
  constructor
  · rintro ⟨_, _, a | a⟩
    · exact absurd a (Nat.lt_irrefl 0)
    · omega
  · intro h; cases h
theorem vx_c (V : Vw) (hk : Vk V) (i d : Nat) : cZ (fun k => (vx V i d 0).testBit k = true) 6 = cZ (fun j => j ≠ i ∧ vq V i j d) V.n := by
  unfold vx
  rw [bS_cnt _ hk.n]
  exact cZ_cg (fun k _ => by
    constructor
    · rintro ⟨a, b⟩; exact ⟨a, b.resolve_right (by omega)⟩
    · rintro ⟨a, b⟩; exact ⟨a, Or.inl b⟩)
section ZR
variable (M : Nat → Nat → Int32) (L : Nat → Nat → Int64)
theorem s_47 (V : Vw) (hk : Vk V) (hv : Hv V M) (i : Nat) (hi : i < V.n) : zc 3 47 [.ref 23, .int (iI i)] M L (some (.int (iI ((V.minute i + span (V.kind i) - 1) % 60)))) M L := by
  refine zc_of (n := 2) (ls := [some (.ref 23), some (.int (iI i))]) mk_47 rfl rfl rfl rfl (fun d hd N xs => ?_)
  have hm := hk.minute i
  have hs := span_b (V.kind i)
  rw [b_47_0, show (0 : Int32) = iI 0 from rfl, g_44 M L V hk hv i 0 0 hi (by omega) (by omega) (by omega) (by omega) (by omega), b_47_1, g_37 M L V hk hv i hi (by omega), b_47_2, gn_0, Int.add_zero, mod60 hm.1 hm.2, show (1 : Int32) = iI 1 from rfl, iI_add, iI_sub, g_153 M L _ (by omega) (by omega) (by omega), b_47_3]
theorem g_47 (V : Vw) (hk : Vk V) (hv : Hv V M) (i : Nat) (hi : i < V.n) {d N : Nat} {xs : Nat → Int32} {tb_ : List zz_B} {t_ : Nat} {ls_ : zz_L} {rest_ : List Value} (hd_ : 3 ≤ d) : (zz_o (zz_call_ d 47 [.ref 23, .int (iI i)] (zm N xs M L)) fun r => zz_X (zz_call_ d) tb_ t_ ls_ (r.1.toList ++ rest_) r.2) = zz_X (zz_call_ d) tb_ t_ ls_ ((.int (iI ((V.minute i + span (V.kind i) - 1) % 60))) :: rest_) (zm N xs M L) := (s_47 M L V hk hv i hi).go hd_
theorem s_48 (V : Vw) (hk : Vk V) (hv : Hv V M) (i : Nat) (hi : i < V.n) : zc 3 48 [.ref 23, .int (iI i)] M L (some (.int (iI (gn (V.kind i) (V.rate i) 1 (V.heatAt V.day))))) M L := by
  refine zc_of (n := 2) (ls := [some (.ref 23), some (.int (iI i))]) mk_48 rfl rfl rfl rfl (fun d hd N xs => ?_)
  rw [b_48_0, g_34 M L V hk hv i hi (by omega), b_48_1, g_35 M L V hk hv i hi (by omega), b_48_2, show (0 : Int32) = iI ((0 : Nat) : Int) from rfl, g_42 M L V hk hv 0 (by omega) (by omega), b_48_3, show (1 : Int32) = iI 1 from rfl, g_156 M L _ _ _ _ (hk.kind i) (by omega), b_48_4]
  rfl
theorem g_48 (V : Vw) (hk : Vk V) (hv : Hv V M) (i : Nat) (hi : i < V.n) {d N : Nat} {xs : Nat → Int32} {tb_ : List zz_B} {t_ : Nat} {ls_ : zz_L} {rest_ : List Value} (hd_ : 3 ≤ d) : (zz_o (zz_call_ d 48 [.ref 23, .int (iI i)] (zm N xs M L)) fun r => zz_X (zz_call_ d) tb_ t_ ls_ (r.1.toList ++ rest_) r.2) = zz_X (zz_call_ d) tb_ t_ ls_ ((.int (iI (gn (V.kind i) (V.rate i) 1 (V.heatAt V.day)))) :: rest_) (zm N xs M L) := (s_48 M L V hk hv i hi).go hd_
theorem s_49 (V : Vw) (hk : Vk V) (hv : Hv V M) (i : Nat) (hi : i < V.n) : zc 3 49 [.ref 23, .int (iI i)] M L (some (.int (iI (cZ (fun k => gn (V.kind i) (V.rate i) 1 (V.heatAt (V.day + k)) = 0) 7)))) M L := by
  refine zc_of (n := 2) (ls := [some (.ref 23), some (.int (iI i)), none, none]) mk_49 rfl rfl rfl rfl (fun d hd N xs => ?_)
  rw [b_49_0]
  have hl := upto (fun k : Nat => zz_X (zz_call_ d) tb_49 1 [some (.ref 23), some (.int (iI i)), some (.int (iI (cZ (fun k => gn (V.kind i) (V.rate i) 1 (V.heatAt (V.day + k)) = 0) k))), some (.int (iI k))] [] (zm N xs M L)) 7 (fun k hkc => by
    show zz_X (zz_call_ d) tb_49 1 _ _ _ = zz_X (zz_call_ d) tb_49 1 _ _ _
    have hg := gn1_b hk i (V.day + k)
    rw [b_49_1, if_neg (by rw [t_le, show (7 : Int32).toInt = 7 from rfl, iI_to (by omega) (by omega)]; omega), g_34 M L V hk hv i hi (by omega), b_49_2, g_35 M L V hk hv i hi (by omega), b_49_3, g_42 M L V hk hv k (by omega) (by omega), b_49_4, show (1 : Int32) = iI 1 from rfl, g_156 M L _ _ _ _ (hk.kind i) (by omega), b_49_5]
    by_cases q : gn (V.kind i) (V.rate i) 1 (V.heatAt (V.day + k)) = 0
    · rw [if_pos (by rw [q]; rfl), b_49_6, cZ_t (p := fun k => gn (V.kind i) (V.rate i) 1 (V.heatAt (V.day + k)) = 0) q, show (1 : Int32) = iI 1 from rfl, iI_add, iI_add]
      rfl
    · rw [if_neg (by rw [t_eq, iI_to (by omega) (by omega), show (0 : Int32).toInt = 0 from rfl]; exact q), b_49_6, cZ_f (p := fun k => gn (V.kind i) (V.rate i) 1 (V.heatAt (V.day + k)) = 0) q, show (1 : Int32) = iI 1 from rfl, iI_add]
      rfl)
  refine Eq.trans hl ?_
  show zz_X (zz_call_ d) tb_49 1 _ _ _ = _
  rw [b_49_1, if_pos (by rw [t_le, show (7 : Int32).toInt = 7 from rfl, iI_to (by omega) (by omega)]; omega), b_49_7]
theorem g_49 (V : Vw) (hk : Vk V) (hv : Hv V M) (i : Nat) (hi : i < V.n) {d N : Nat} {xs : Nat → Int32} {tb_ : List zz_B} {t_ : Nat} {ls_ : zz_L} {rest_ : List Value} (hd_ : 3 ≤ d) : (zz_o (zz_call_ d 49 [.ref 23, .int (iI i)] (zm N xs M L)) fun r => zz_X (zz_call_ d) tb_ t_ ls_ (r.1.toList ++ rest_) r.2) = zz_X (zz_call_ d) tb_ t_ ls_ ((.int (iI (cZ (fun k => gn (V.kind i) (V.rate i) 1 (V.heatAt (V.day + k)) = 0) 7))) :: rest_) (zm N xs M L) := (s_49 M L V hk hv i hi).go hd_
theorem l_50 {d : Nat} (hd : 3 ≤ d) (N : Nat) (xs : Nat → Int32) (V : Vw) (hk : Vk V) (hv : Hv V M) (i : Nat) (hi : i < V.n) : ∀ (c e : Nat) (o : Option Value), e + c = 60 → zz_X (zz_call_ d) tb_50 1 [some (.ref 23), some (.int (iI i)), some (.int (iI (vx V i e 0))), some (.int (iI (V.warm e))), some (.int (iI e)), o] [] (zm N xs M L) = some (some (.int (iI (cZ (fun j => j ≠ i ∧ vq V i j 60) V.n))), zm N xs M L)
  | 0, e, o, hc => by
    rw [b_50_1, if_pos (by rw [t_le, show (60 : Int32).toInt = 60 from rfl, iI_to (by omega) (by omega)]; omega), b_50_8, g_9 M L (vx V i e 0) (bS_64 _ hk.n) (by omega), b_50_9, vx_c V hk, show e = 60 by omega]
  | c + 1, e, o, hc => by
    have hn := hk.n
    have hm := hk.minute i
    rw [b_50_1, if_neg (by rw [t_le, show (60 : Int32).toInt = 60 from rfl, iI_to (by omega) (by omega)]; omega)]
    have hl := upto (fun j : Nat => zz_X (zz_call_ d) tb_50 2 [some (.ref 23), some (.int (iI i)), some (.int (iI (vx V i e j))), some (.int (iI (V.warm e))), some (.int (iI e)), some (.int (iI j))] [] (zm N xs M L)) V.n (fun j hj => by
      show zz_X (zz_call_ d) tb_50 2 _ _ _ = zz_X (zz_call_ d) tb_50 2 _ _ _
      have hma := minAt_b V j e
      have hx : vx V i e j < 64 := bS_64 _ hn
      have hsl := sh_lt (j := j) (by omega)
      rw [b_50_2, hv.n, if_neg (by rw [t_le, iI_to (by omega) (by omega), iI_to (by omega) (by omega)]; omega)]
      by_cases q : j = i
      · rw [if_pos (by rw [q]), b_50_5, vx_n (fun h => h.1 q), show (1 : Int32) = iI 1 from rfl, iI_add]
        rfl
      · rw [if_neg (by rw [t_eq, iI_to (by omega) (by omega), iI_to (by omega) (by omega)]; omega), g_44V M L V hk hv j e hj (by omega) (by omega), b_50_3, show (0 : Int32) = iI 0 from rfl, g_44 M L V hk hv i 0 0 hi (by omega) (by omega) (by omega) (by omega) (by omega), b_50_4, gn_0, Int.add_zero, mod60 hm.1 hm.2]
        by_cases q2 : V.minAt j e = V.minute i
        · rw [if_pos (by rw [q2]), b_50_5, iN_shl (by omega), iN_or (by omega) (by omega), vx_s hj ⟨q, q2⟩, show (1 : Int32) = iI 1 from rfl, iI_add]
          rfl
        · rw [if_neg (by rw [t_eq, iI_to (by omega) (by omega), iI_to (by omega) (by omega)]; exact q2), b_50_5, vx_n (fun h => q2 h.2), show (1 : Int32) = iI 1 from rfl, iI_add]
          rfl)
    refine Eq.trans hl ?_
    show zz_X (zz_call_ d) tb_50 2 _ _ _ = _
    rw [b_50_2, hv.n, if_pos (by rw [t_le]; omega), b_50_6, g_42 M L V hk hv e (by omega) (by omega), b_50_7, vx_d, show (1 : Int32) = iI 1 from rfl, iI_add, iI_add]
    exact l_50 hd N xs V hk hv i hi c (e + 1) _ (by omega)
theorem s_50 (V : Vw) (hk : Vk V) (hv : Hv V M) (i : Nat) (hi : i < V.n) : zc 4 50 [.ref 23, .int (iI i)] M L (some (.int (iI (cZ (fun j => j ≠ i ∧ vq V i j 60) V.n)))) M L := by
  refine zc_of (n := 3) (ls := [some (.ref 23), some (.int (iI i)), none, none, none, none]) mk_50 rfl rfl rfl rfl (fun d hd N xs => ?_)
  have hl := l_50 M L hd N xs V hk hv i hi 60 0 none (by omega)
  rw [vx_0] at hl
  rw [b_50_0]
  exact hl
theorem g_50 (V : Vw) (hk : Vk V) (hv : Hv V M) (i : Nat) (hi : i < V.n) {d N : Nat} {xs : Nat → Int32} {tb_ : List zz_B} {t_ : Nat} {ls_ : zz_L} {rest_ : List Value} (hd_ : 4 ≤ d) : (zz_o (zz_call_ d 50 [.ref 23, .int (iI i)] (zm N xs M L)) fun r => zz_X (zz_call_ d) tb_ t_ ls_ (r.1.toList ++ rest_) r.2) = zz_X (zz_call_ d) tb_ t_ ls_ ((.int (iI (cZ (fun j => j ≠ i ∧ vq V i j 60) V.n))) :: rest_) (zm N xs M L) := (s_50 M L V hk hv i hi).go hd_
theorem s_106B (V : Vw) (hk : Vk V) (hv : Hv V M) (z y : Int) (h1 : -2147483648 ≤ z) (h2 : z ≤ 2147483647) (h3 : -2147483648 ≤ y) (h4 : y ≤ 2147483647) (h : ¬ ((0 ≤ z ∧ z < V.n) ∧ 1 ≤ y ∧ y ≤ 5)) : zc 6 106 [.ref 0, .int (iI z), .int (iI y)] M L (some (.int (iI (-1)))) M L := by
  refine zc_of (n := 5) (ls := [some (.ref 0), some (.int (iI z)), some (.int (iI y))]) mk_106 rfl rfl rfl rfl (fun d hd N xs => ?_)
  simp (disch := first | omega | assumption) only [b_106_0, b_106_1, b_106_2, g_31 M L V hk hv, iI_lit, iI_neg, iI_add, iI_sub, iI_mul, t_lt, t_le, t_eq, iI_to, b2_to, if_10, if_11, nor_em, Decidable.not_not, Int.reduceEq, Int.reduceLT, Int.reduceLE, Int.reduceAdd, Int.reduceSub, Int.reduceMul, Int.reduceNeg, reduceIte, or_true, true_or, or_false, false_or, o_some]
  repeat' split
  all_goals first | rfl | (exfalso; omega)
theorem g_106B (V : Vw) (hk : Vk V) (hv : Hv V M) (z y : Int) (h1 : -2147483648 ≤ z) (h2 : z ≤ 2147483647) (h3 : -2147483648 ≤ y) (h4 : y ≤ 2147483647) (h : ¬ ((0 ≤ z ∧ z < V.n) ∧ 1 ≤ y ∧ y ≤ 5)) {d N : Nat} {xs : Nat → Int32} {tb_ : List zz_B} {t_ : Nat} {ls_ : zz_L} {rest_ : List Value} (hd_ : 6 ≤ d) : (zz_o (zz_call_ d 106 [.ref 0, .int (iI z), .int (iI y)] (zm N xs M L)) fun r => zz_X (zz_call_ d) tb_ t_ ls_ (r.1.toList ++ rest_) r.2) = zz_X (zz_call_ d) tb_ t_ ls_ ((.int (iI (-1))) :: rest_) (zm N xs M L) := (s_106B M L V hk hv z y h1 h2 h3 h4 h).go hd_
theorem s_106U (V : Vw) (hk : Vk V) (hv : Hv V M) (i k : Nat) (hi : i < V.n) (h1 : 1 ≤ k ∧ k ≤ 5) (hu : ¬ isKd (V.kind i) k) : zc 6 106 [.ref 0, .int (iI i), .int (iI k)] M L (some (.int (iI (-3)))) (fnd M 3) L := by
  refine zc_of (n := 5) (ls := [some (.ref 0), some (.int (iI i)), some (.int (iI k))]) mk_106 rfl rfl rfl rfl (fun d hd N xs => ?_)
  have hn := hk.n
  rw [b_106_0, g_31 M L V hk hv i (by omega) (by omega) (by omega), b2_t (by omega), b_106_1, iI_lit 0, if_neg iI10, iI_lit, if_neg (by rw [t_lt, iI_to (by omega) (by omega), iI_to (by omega) (by omega)]; omega), iI_lit, if_pos (by rw [t_lt, iI_to (by omega) (by omega), iI_to (by omega) (by omega)]; omega), b_106_3, g_33 M L V hk hv i k hi (by omega) (by omega), b2_f hu, b_106_4, if_pos (show iI 0 = (0 : Int32) from rfl), show (3 : Int32) = iI ((3 : Nat) : Int) from rfl, g_141 M L 3 (by omega) (by omega) (by omega), b_106_5]
theorem g_106U (V : Vw) (hk : Vk V) (hv : Hv V M) (i k : Nat) (hi : i < V.n) (h1 : 1 ≤ k ∧ k ≤ 5) (hu : ¬ isKd (V.kind i) k) {d N : Nat} {xs : Nat → Int32} {tb_ : List zz_B} {t_ : Nat} {ls_ : zz_L} {rest_ : List Value} (hd_ : 6 ≤ d) : (zz_o (zz_call_ d 106 [.ref 0, .int (iI i), .int (iI k)] (zm N xs M L)) fun r => zz_X (zz_call_ d) tb_ t_ ls_ (r.1.toList ++ rest_) r.2) = zz_X (zz_call_ d) tb_ t_ ls_ ((.int (iI (-3))) :: rest_) (zm N xs (fnd M 3) L) := (s_106U M L V hk hv i k hi h1 hu).go hd_
theorem h_106 {d : Nat} (hd : 5 ≤ d) (N : Nat) (xs : Nat → Int32) (V : Vw) (hk : Vk V) (hv : Hv V M) (i k : Nat) (hi : i < V.n) (h1 : 1 ≤ k ∧ k ≤ 5) (hu : isKd (V.kind i) k) : zz_X (zz_call_ d) tb_106 0 [some (.ref 0), some (.int (iI i)), some (.int (iI k))] [] (zm N xs M L) = zz_X (zz_call_ d) tb_106 6 [some (.ref 0), some (.int (iI i)), some (.int (iI k))] [] (zm N xs M L) := by
  have hn := hk.n
  rw [b_106_0, g_31 M L V hk hv i (by omega) (by omega) (by omega), b2_t (by omega), b_106_1, iI_lit 0, if_neg iI10, iI_lit, if_neg (by rw [t_lt, iI_to (by omega) (by omega), iI_to (by omega) (by omega)]; omega), iI_lit, if_pos (by rw [t_lt, iI_to (by omega) (by omega), iI_to (by omega) (by omega)]; omega), b_106_3, g_33 M L V hk hv i k hi (by omega) (by omega), b2_t hu, b_106_4, if_neg (show ¬ iI 1 = (0 : Int32) from iI10)]
theorem s_106C (V : Vw) (hk : Vk V) (hv : Hv V M) (i k : Nat) (hi : i < V.n) (h1 : k = 1) (hu : isKd (V.kind i) k) : zc 6 106 [.ref 0, .int (iI i), .int (iI k)] M L (some (.int (iI ((V.minute i + span (V.kind i) - 1) % 60)))) M L := by
  refine zc_of (n := 5) (ls := [some (.ref 0), some (.int (iI i)), some (.int (iI k))]) mk_106 rfl rfl rfl rfl (fun d hd N xs => ?_)
  rw [h_106 M L hd N xs V hk hv i k hi (by omega) hu, b_106_6, h1]
  show zz_X (zz_call_ d) tb_106 7 _ _ _ = _
  rw [b_106_7, g_47 M L V hk hv i hi (by omega), b_106_8]
theorem g_106C (V : Vw) (hk : Vk V) (hv : Hv V M) (i k : Nat) (hi : i < V.n) (h1 : k = 1) (hu : isKd (V.kind i) k) {d N : Nat} {xs : Nat → Int32} {tb_ : List zz_B} {t_ : Nat} {ls_ : zz_L} {rest_ : List Value} (hd_ : 6 ≤ d) : (zz_o (zz_call_ d 106 [.ref 0, .int (iI i), .int (iI k)] (zm N xs M L)) fun r => zz_X (zz_call_ d) tb_ t_ ls_ (r.1.toList ++ rest_) r.2) = zz_X (zz_call_ d) tb_ t_ ls_ ((.int (iI ((V.minute i + span (V.kind i) - 1) % 60))) :: rest_) (zm N xs M L) := (s_106C M L V hk hv i k hi h1 hu).go hd_
theorem s_106D (V : Vw) (hk : Vk V) (hv : Hv V M) (i k : Nat) (hi : i < V.n) (h1 : k = 2) (hu : isKd (V.kind i) k) : zc 6 106 [.ref 0, .int (iI i), .int (iI k)] M L (some (.int (iI (gn (V.kind i) (V.rate i) 1 (V.heatAt V.day))))) M L := by
  refine zc_of (n := 5) (ls := [some (.ref 0), some (.int (iI i)), some (.int (iI k))]) mk_106 rfl rfl rfl rfl (fun d hd N xs => ?_)
  rw [h_106 M L hd N xs V hk hv i k hi (by omega) hu, b_106_6, h1]
  show zz_X (zz_call_ d) tb_106 9 _ _ _ = _
  rw [b_106_9, g_48 M L V hk hv i hi (by omega), b_106_10]
theorem g_106D (V : Vw) (hk : Vk V) (hv : Hv V M) (i k : Nat) (hi : i < V.n) (h1 : k = 2) (hu : isKd (V.kind i) k) {d N : Nat} {xs : Nat → Int32} {tb_ : List zz_B} {t_ : Nat} {ls_ : zz_L} {rest_ : List Value} (hd_ : 6 ≤ d) : (zz_o (zz_call_ d 106 [.ref 0, .int (iI i), .int (iI k)] (zm N xs M L)) fun r => zz_X (zz_call_ d) tb_ t_ ls_ (r.1.toList ++ rest_) r.2) = zz_X (zz_call_ d) tb_ t_ ls_ ((.int (iI (gn (V.kind i) (V.rate i) 1 (V.heatAt V.day)))) :: rest_) (zm N xs M L) := (s_106D M L V hk hv i k hi h1 hu).go hd_
theorem s_106E (V : Vw) (hk : Vk V) (hv : Hv V M) (i k : Nat) (hi : i < V.n) (h1 : k = 3) (hu : isKd (V.kind i) k) : zc 6 106 [.ref 0, .int (iI i), .int (iI k)] M L (some (.int (iI (cZ (fun j => j ≠ i ∧ vq V i j 60) V.n)))) M L := by
  refine zc_of (n := 5) (ls := [some (.ref 0), some (.int (iI i)), some (.int (iI k))]) mk_106 rfl rfl rfl rfl (fun d hd N xs => ?_)
  rw [h_106 M L hd N xs V hk hv i k hi (by omega) hu, b_106_6, h1]
  show zz_X (zz_call_ d) tb_106 11 _ _ _ = _
  rw [b_106_11, g_50 M L V hk hv i hi (by omega), b_106_12]
theorem g_106E (V : Vw) (hk : Vk V) (hv : Hv V M) (i k : Nat) (hi : i < V.n) (h1 : k = 3) (hu : isKd (V.kind i) k) {d N : Nat} {xs : Nat → Int32} {tb_ : List zz_B} {t_ : Nat} {ls_ : zz_L} {rest_ : List Value} (hd_ : 6 ≤ d) : (zz_o (zz_call_ d 106 [.ref 0, .int (iI i), .int (iI k)] (zm N xs M L)) fun r => zz_X (zz_call_ d) tb_ t_ ls_ (r.1.toList ++ rest_) r.2) = zz_X (zz_call_ d) tb_ t_ ls_ ((.int (iI (cZ (fun j => j ≠ i ∧ vq V i j 60) V.n))) :: rest_) (zm N xs M L) := (s_106E M L V hk hv i k hi h1 hu).go hd_
theorem s_106F (V : Vw) (hk : Vk V) (hv : Hv V M) (i k : Nat) (hi : i < V.n) (h1 : k = 4) (hu : isKd (V.kind i) k) : zc 6 106 [.ref 0, .int (iI i), .int (iI k)] M L (some (.int (iI (cZ (fun j => j ≠ i ∧ rel (bt V 0) i j) V.n)))) (zz_wI M 36 1 (iI V.n)) (sL L 37 (fun i => lI (bt V 0 i)) V.n) := by
  refine zc_of (n := 5) (ls := [some (.ref 0), some (.int (iI i)), some (.int (iI k))]) mk_106 rfl rfl rfl rfl (fun d hd N xs => ?_)
  have e := g_62a (d := d) (N := N) (xs := xs) (tb_ := tb_106) (t_ := 14) (ls_ := [some (.ref 0), some (.int (iI i)), some (.int (iI ((4 : Nat) : Int)))]) (rest_ := []) M L V hk hv 0 (by omega) (by omega)
  rw [h_106 M L hd N xs V hk hv i k hi (by omega) hu, b_106_6, h1]
  show zz_X (zz_call_ d) tb_106 13 _ _ _ = _
  rw [b_106_13]
  refine Eq.trans e ?_
  rw [b_106_14, g_67 _ _ V.n _ (Ms_see M L 36 V hk 0) i hi (by omega), b_106_15]
theorem g_106F (V : Vw) (hk : Vk V) (hv : Hv V M) (i k : Nat) (hi : i < V.n) (h1 : k = 4) (hu : isKd (V.kind i) k) {d N : Nat} {xs : Nat → Int32} {tb_ : List zz_B} {t_ : Nat} {ls_ : zz_L} {rest_ : List Value} (hd_ : 6 ≤ d) : (zz_o (zz_call_ d 106 [.ref 0, .int (iI i), .int (iI k)] (zm N xs M L)) fun r => zz_X (zz_call_ d) tb_ t_ ls_ (r.1.toList ++ rest_) r.2) = zz_X (zz_call_ d) tb_ t_ ls_ ((.int (iI (cZ (fun j => j ≠ i ∧ rel (bt V 0) i j) V.n))) :: rest_) (zm N xs (zz_wI M 36 1 (iI V.n)) (sL L 37 (fun i => lI (bt V 0 i)) V.n)) := (s_106F M L V hk hv i k hi h1 hu).go hd_
theorem s_106G (V : Vw) (hk : Vk V) (hv : Hv V M) (i k : Nat) (hi : i < V.n) (h1 : k = 5) (hu : isKd (V.kind i) k) : zc 6 106 [.ref 0, .int (iI i), .int (iI k)] M L (some (.int (iI (cZ (fun k => gn (V.kind i) (V.rate i) 1 (V.heatAt (V.day + k)) = 0) 7)))) M L := by
  refine zc_of (n := 5) (ls := [some (.ref 0), some (.int (iI i)), some (.int (iI k))]) mk_106 rfl rfl rfl rfl (fun d hd N xs => ?_)
  rw [h_106 M L hd N xs V hk hv i k hi (by omega) hu, b_106_6, h1]
  show zz_X (zz_call_ d) tb_106 16 _ _ _ = _
  rw [b_106_16, g_49 M L V hk hv i hi (by omega), b_106_17]
theorem g_106G (V : Vw) (hk : Vk V) (hv : Hv V M) (i k : Nat) (hi : i < V.n) (h1 : k = 5) (hu : isKd (V.kind i) k) {d N : Nat} {xs : Nat → Int32} {tb_ : List zz_B} {t_ : Nat} {ls_ : zz_L} {rest_ : List Value} (hd_ : 6 ≤ d) : (zz_o (zz_call_ d 106 [.ref 0, .int (iI i), .int (iI k)] (zm N xs M L)) fun r => zz_X (zz_call_ d) tb_ t_ ls_ (r.1.toList ++ rest_) r.2) = zz_X (zz_call_ d) tb_ t_ ls_ ((.int (iI (cZ (fun k => gn (V.kind i) (V.rate i) 1 (V.heatAt (V.day + k)) = 0) 7))) :: rest_) (zm N xs M L) := (s_106G M L V hk hv i k hi h1 hu).go hd_
theorem s_195C (V : Vw) (hk : Vk V) (hr : Rv V (M 53) 0) (i k : Nat) (hi : i < V.n) (h1 : k = 1) : zc 6 195 [.ref 52, .int (iI i), .int (iI k)] M L (some (.int (iI ((V.minute i + span (V.kind i) - 1) % 60)))) M L := by
  refine zc_of (n := 5) (ls := [some (.ref 52), some (.int (iI i)), some (.int (iI k)), none, none, none, none]) mk_195 rfl rfl rfl rfl (fun d hd N xs => ?_)
  have hn := hk.n
  have hm := hk.minute i
  have hs := span_b (V.kind i)
  rw [b_195_0, h1]
  show zz_X (zz_call_ d) tb_195 1 _ _ _ = _
  rw [b_195_1]
  simp only [iI_lit, iI_add]
  rw [show (28 : Int) + (i : Int) = ((0 + (28 + i) : Nat) : Int) by omega, show (10 : Int) + (i : Int) = ((0 + (10 + i) : Nat) : Int) by omega, ix_nat (by omega) (by omega), o_some, ix_nat (by omega) (by omega), o_some, hr.kind i hi, hr.minute i hi, g_186 M L _ (hk.kind i) (by omega), b_195_2, show (1 : Int32) = iI 1 from rfl, iI_add, iI_sub, g_160 M L _ (by omega) (by omega) (by omega), b_195_3]
theorem g_195C (V : Vw) (hk : Vk V) (hr : Rv V (M 53) 0) (i k : Nat) (hi : i < V.n) (h1 : k = 1) {d N : Nat} {xs : Nat → Int32} {tb_ : List zz_B} {t_ : Nat} {ls_ : zz_L} {rest_ : List Value} (hd_ : 6 ≤ d) : (zz_o (zz_call_ d 195 [.ref 52, .int (iI i), .int (iI k)] (zm N xs M L)) fun r => zz_X (zz_call_ d) tb_ t_ ls_ (r.1.toList ++ rest_) r.2) = zz_X (zz_call_ d) tb_ t_ ls_ ((.int (iI ((V.minute i + span (V.kind i) - 1) % 60))) :: rest_) (zm N xs M L) := (s_195C M L V hk hr i k hi h1).go hd_
theorem s_195D (V : Vw) (hk : Vk V) (hr : Rv V (M 53) 0) (i k : Nat) (hi : i < V.n) (h1 : k = 2) : zc 6 195 [.ref 52, .int (iI i), .int (iI k)] M L (some (.int (iI (gn (V.kind i) (V.rate i) 1 (V.heatAt V.day))))) M L := by
  refine zc_of (n := 5) (ls := [some (.ref 52), some (.int (iI i)), some (.int (iI k)), none, none, none, none]) mk_195 rfl rfl rfl rfl (fun d hd N xs => ?_)
  have hn := hk.n
  have hday := hk.day
  have e1 : M 53 1 = iI V.day := hr.day
  rw [b_195_0, h1]
  show zz_X (zz_call_ d) tb_195 4 _ _ _ = _
  rw [b_195_4]
  simp only [iI_lit, iI_add]
  rw [show (16 : Int) + (i : Int) = ((0 + (16 + i) : Nat) : Int) by omega, show (10 : Int) + (i : Int) = ((0 + (10 + i) : Nat) : Int) by omega, ix_nat (by omega) (by omega), o_some, ix_nat (by omega) (by omega), o_some, hr.kind i hi, hr.rate i hi, e1, g_188 M L V hk hr (hk.hc0 (by omega)) _ _ V.day (hk.kind i) (by omega) (by omega), b_195_5]
theorem g_195D (V : Vw) (hk : Vk V) (hr : Rv V (M 53) 0) (i k : Nat) (hi : i < V.n) (h1 : k = 2) {d N : Nat} {xs : Nat → Int32} {tb_ : List zz_B} {t_ : Nat} {ls_ : zz_L} {rest_ : List Value} (hd_ : 6 ≤ d) : (zz_o (zz_call_ d 195 [.ref 52, .int (iI i), .int (iI k)] (zm N xs M L)) fun r => zz_X (zz_call_ d) tb_ t_ ls_ (r.1.toList ++ rest_) r.2) = zz_X (zz_call_ d) tb_ t_ ls_ ((.int (iI (gn (V.kind i) (V.rate i) 1 (V.heatAt V.day)))) :: rest_) (zm N xs M L) := (s_195D M L V hk hr i k hi h1).go hd_
theorem l_195E {d : Nat} (hd : 4 ≤ d) (N : Nat) (xs : Nat → Int32) (V : Vw) (hk : Vk V) (hr : Rv V (M 53) 0) (i : Nat) (hi : i < V.n) (k0 : Int32) : ∀ (c j : Nat) (o5 o6 : Option Value), j + c = V.n → zz_X (zz_call_ d) tb_195 7 [some (.ref 52), some (.int (iI i)), some (.int k0), some (.int (iI (cZ (fun j => j ≠ i ∧ vq V i j 60) j))), some (.int (iI j)), o5, o6] [] (zm N xs M L) = some (some (.int (iI (cZ (fun j => j ≠ i ∧ vq V i j 60) V.n))), zm N xs M L)
  | 0, j, o5, o6, hc => by
    have hn := hk.n
    have e0 : M 53 0 = iI V.n := hr.n
    rw [b_195_7, e0, if_pos (by rw [t_le, iI_to (by omega) (by omega), iI_to (by omega) (by omega)]; omega), b_195_16, show j = V.n by omega]
  | c + 1, j, o5, o6, hc => by
    have hn := hk.n
    have hmi := hk.minute i
    have e0 : M 53 0 = iI V.n := hr.n
    have em : M 53 (28 + i) = iI (V.minute i) := by have := hr.minute i hi; rwa [Nat.zero_add] at this
    have ih := fun o5 o6 => l_195E hd N xs V hk hr i hi k0 c (j + 1) o5 o6 (by omega)
    have l13 : ∀ k : Int32, zz_X (zz_call_ d) tb_195 13 [some (.ref 52), some (.int (iI i)), some (.int k0), some (.int (iI (cZ (fun j => j ≠ i ∧ vq V i j 60) j))), some (.int (iI j)), some (.int (b2 (j ≠ i ∧ vq V i j 60))), some (.int k)] [] (zm N xs M L) = some (some (.int (iI (cZ (fun j => j ≠ i ∧ vq V i j 60) V.n))), zm N xs M L) := by
      intro k
      by_cases q : j ≠ i ∧ vq V i j 60
      · rw [cZ_t (p := fun j => j ≠ i ∧ vq V i j 60) q] at ih
        rw [b2_t q, b_195_13, if_neg (show ¬ iI 1 = (0 : Int32) from iI10), b_195_15, show (1 : Int32) = iI 1 from rfl, iI_add, iI_add]
        exact ih _ _
      · rw [cZ_f (p := fun j => j ≠ i ∧ vq V i j 60) q] at ih
        rw [b2_f q, b_195_13, if_pos (show iI 0 = (0 : Int32) from rfl), b_195_14, b_195_15, show (1 : Int32) = iI 1 from rfl, show (0 : Int32) = iI 0 from rfl, iI_add, iI_add, Int.add_zero]
        exact ih _ _
    rw [b_195_7, e0, if_neg (by rw [t_le, iI_to (by omega) (by omega), iI_to (by omega) (by omega)]; omega)]
    by_cases q : j = i
    · rw [b2_f (fun h => h.1 q)] at l13
      rw [b_195_8, if_neg (by decide), if_pos (by rw [q])]
      exact l13 _
    · have hl := upto (fun k : Nat => zz_X (zz_call_ d) tb_195 8 [some (.ref 52), some (.int (iI i)), some (.int k0), some (.int (iI (cZ (fun j => j ≠ i ∧ vq V i j 60) j))), some (.int (iI j)), some (.int (b2 (j ≠ i ∧ vq V i j k))), some (.int (iI k))] [] (zm N xs M L)) 60 (fun k hkc => by
        show zz_X (zz_call_ d) tb_195 8 _ _ _ = zz_X (zz_call_ d) tb_195 8 _ _ _
        have hma := minAt_b V j k
        rw [b_195_8, if_neg (by rw [t_le, show (60 : Int32).toInt = 60 from rfl, iI_to (by omega) (by omega)]; omega), if_neg (by rw [t_eq, iI_to (by omega) (by omega), iI_to (by omega) (by omega)]; omega)]
        have hmo := cZ_mono (fun k => V.minAt j k = V.minute i) (Nat.le_succ k)
        by_cases q1 : vq V i j k
        · have q2 : vq V i j (k + 1) := Nat.lt_of_lt_of_le q1 hmo
          rw [b2_t ⟨q, q1⟩, if_neg (show ¬ iI 1 = (0 : Int32) from iI10), b_195_10, b_195_12, b2_t ⟨q, q2⟩, show (1 : Int32) = iI 1 from rfl, iI_add]
          rfl
        · rw [b2_f (fun h => q1 h.2), if_pos (show iI 0 = (0 : Int32) from rfl), g_190 M L V hk hr j k (by omega) (by omega) (by omega), b_195_9, show (28 : Int32) = iI 28 from rfl, iI_add, show (28 : Int) + (i : Int) = ((28 + i : Nat) : Int) by omega, ix_nat (by omega) (by omega), o_some, em]
          by_cases q3 : V.minAt j k = V.minute i
          · have q2 : vq V i j (k + 1) := by show 0 < cZ (fun k => V.minAt j k = V.minute i) (k + 1); rw [cZ_t (p := fun k => V.minAt j k = V.minute i) q3]; omega
            rw [if_pos (by rw [q3]), b_195_10, b_195_12, b2_t ⟨q, q2⟩, show (1 : Int32) = iI 1 from rfl, iI_add]
            rfl
          · have q2 : ¬ vq V i j (k + 1) := by show ¬ 0 < cZ (fun k => V.minAt j k = V.minute i) (k + 1); rw [cZ_f (p := fun k => V.minAt j k = V.minute i) q3]; exact q1
            rw [if_neg (by rw [t_eq, iI_to (by omega) (by omega), iI_to (by omega) (by omega)]; exact q3), b_195_11, b_195_12, b2_f (fun h => q2 h.2), show (1 : Int32) = iI 1 from rfl, iI_add]
            rfl)
      have e1 : ¬ (j ≠ i ∧ vq V i j 0) := fun h => absurd h.2 (Nat.lt_irrefl 0)
      rw [b2_f e1] at hl
      refine Eq.trans hl ?_
      show zz_X (zz_call_ d) tb_195 8 _ _ _ = _
      rw [b_195_8, if_pos (by rw [t_le, show (60 : Int32).toInt = 60 from rfl, iI_to (by omega) (by omega)]; omega)]
      exact l13 _
theorem s_195E (V : Vw) (hk : Vk V) (hr : Rv V (M 53) 0) (i k : Nat) (hi : i < V.n) (h1 : k = 3) : zc 6 195 [.ref 52, .int (iI i), .int (iI k)] M L (some (.int (iI (cZ (fun j => j ≠ i ∧ vq V i j 60) V.n)))) M L := by
  refine zc_of (n := 5) (ls := [some (.ref 52), some (.int (iI i)), some (.int (iI k)), none, none, none, none]) mk_195 rfl rfl rfl rfl (fun d hd N xs => ?_)
  rw [b_195_0, h1]
  show zz_X (zz_call_ d) tb_195 6 _ _ _ = _
  rw [b_195_6]
  exact l_195E M L (by omega) N xs V hk hr i hi _ V.n 0 none none (by omega)
theorem g_195E (V : Vw) (hk : Vk V) (hr : Rv V (M 53) 0) (i k : Nat) (hi : i < V.n) (h1 : k = 3) {d N : Nat} {xs : Nat → Int32} {tb_ : List zz_B} {t_ : Nat} {ls_ : zz_L} {rest_ : List Value} (hd_ : 6 ≤ d) : (zz_o (zz_call_ d 195 [.ref 52, .int (iI i), .int (iI k)] (zm N xs M L)) fun r => zz_X (zz_call_ d) tb_ t_ ls_ (r.1.toList ++ rest_) r.2) = zz_X (zz_call_ d) tb_ t_ ls_ ((.int (iI (cZ (fun j => j ≠ i ∧ vq V i j 60) V.n))) :: rest_) (zm N xs M L) := (s_195E M L V hk hr i k hi h1).go hd_
theorem s_195F (V : Vw) (hk : Vk V) (hr : Rv V (M 53) 0) (i k : Nat) (hi : i < V.n) (h1 : k = 4) : zc 6 195 [.ref 52, .int (iI i), .int (iI k)] M L (some (.int (iI (cZ (fun j => j ≠ i ∧ rel (bt V 0) i j) V.n)))) M L := by
  refine zc_of (n := 5) (ls := [some (.ref 52), some (.int (iI i)), some (.int (iI k)), none, none, none, none]) mk_195 rfl rfl rfl rfl (fun d hd N xs => ?_)
  have hn := hk.n
  have hmi := hk.minute i
  have e0 : M 53 0 = iI V.n := hr.n
  have em : ∀ j, j < V.n → M 53 (28 + j) = iI (V.minute j) := fun j hj => by have := hr.minute j hj; rwa [Nat.zero_add] at this
  have ec : ∀ j, rel (bt V 0) i j ↔ met (V.minute i) (span (V.kind i)) (V.minute j) (span (V.kind j)) := fun j => by
    rw [rel_mt]
    show met (V.minAt i 0) (span (V.kind i)) (V.minAt j 0) (span (V.kind j)) ↔ _
    rw [minAt_0 hk, minAt_0 hk]
  rw [b_195_0, h1]
  show zz_X (zz_call_ d) tb_195 17 _ _ _ = _
  rw [b_195_17]
  have hl := upto (fun j : Nat => zz_X (zz_call_ d) tb_195 18 [some (.ref 52), some (.int (iI i)), some (.int (iI ((4 : Nat) : Int))), some (.int (iI (cZ (fun j => j ≠ i ∧ rel (bt V 0) i j) j))), some (.int (iI j)), none, none] [] (zm N xs M L)) V.n (fun j hj => by
    show zz_X (zz_call_ d) tb_195 18 _ _ _ = zz_X (zz_call_ d) tb_195 18 _ _ _
    have hmj := hk.minute j
    rw [b_195_18, e0, if_neg (by rw [t_le, iI_to (by omega) (by omega), iI_to (by omega) (by omega)]; omega)]
    by_cases q : j = i
    · rw [if_pos (by rw [q]), b_195_20, b_195_21, cZ_f (p := fun j => j ≠ i ∧ rel (bt V 0) i j) (fun h => h.1 q), show (1 : Int32) = iI 1 from rfl, show (0 : Int32) = iI 0 from rfl, iI_add, iI_add, Int.add_zero]
      rfl
    · rw [if_neg (by rw [t_eq, iI_to (by omega) (by omega), iI_to (by omega) (by omega)]; omega), show (28 : Int32) = iI 28 from rfl, iI_add, iI_add, show (28 : Int) + (i : Int) = ((28 + i : Nat) : Int) by omega, show (28 : Int) + (j : Int) = ((28 + j : Nat) : Int) by omega, ix_nat (by omega) (by omega), o_some, ix_nat (by omega) (by omega), o_some, em i hi, em j hj, g_192 M L V hk hr i j _ _ hi hj (by omega) (by omega) (by omega) (by omega) (by omega), b_195_19]
      by_cases q2 : met (V.minute i) (span (V.kind i)) (V.minute j) (span (V.kind j))
      · rw [b2_t q2, if_neg (show ¬ iI 1 = (0 : Int32) from iI10), b_195_21, cZ_t (p := fun j => j ≠ i ∧ rel (bt V 0) i j) ⟨q, (ec j).2 q2⟩, show (1 : Int32) = iI 1 from rfl, iI_add, iI_add]
        rfl
      · rw [b2_f q2, if_pos (show iI 0 = (0 : Int32) from rfl), b_195_20, b_195_21, cZ_f (p := fun j => j ≠ i ∧ rel (bt V 0) i j) (fun h => q2 ((ec j).1 h.2)), show (1 : Int32) = iI 1 from rfl, show (0 : Int32) = iI 0 from rfl, iI_add, iI_add, Int.add_zero]
        rfl)
  refine Eq.trans hl ?_
  show zz_X (zz_call_ d) tb_195 18 _ _ _ = _
  rw [b_195_18, e0, if_pos (by rw [t_le]; omega), b_195_22]
theorem g_195F (V : Vw) (hk : Vk V) (hr : Rv V (M 53) 0) (i k : Nat) (hi : i < V.n) (h1 : k = 4) {d N : Nat} {xs : Nat → Int32} {tb_ : List zz_B} {t_ : Nat} {ls_ : zz_L} {rest_ : List Value} (hd_ : 6 ≤ d) : (zz_o (zz_call_ d 195 [.ref 52, .int (iI i), .int (iI k)] (zm N xs M L)) fun r => zz_X (zz_call_ d) tb_ t_ ls_ (r.1.toList ++ rest_) r.2) = zz_X (zz_call_ d) tb_ t_ ls_ ((.int (iI (cZ (fun j => j ≠ i ∧ rel (bt V 0) i j) V.n))) :: rest_) (zm N xs M L) := (s_195F M L V hk hr i k hi h1).go hd_
theorem s_195G (V : Vw) (hk : Vk V) (hr : Rv V (M 53) 0) (i k : Nat) (hi : i < V.n) (h1 : k = 5) (h5 : V.kind i = 5) : zc 6 195 [.ref 52, .int (iI i), .int (iI k)] M L (some (.int (iI (cZ (fun k => gn (V.kind i) (V.rate i) 1 (V.heatAt (V.day + k)) = 0) 7)))) M L := by
  refine zc_of (n := 5) (ls := [some (.ref 52), some (.int (iI i)), some (.int (iI k)), none, none, none, none]) mk_195 rfl rfl rfl rfl (fun d hd N xs => ?_)
  have hn := hk.n
  have hday := hk.day
  have e1 : M 53 1 = iI V.day := hr.day
  have er : M 53 (16 + i) = iI (V.rate i) := by have := hr.rate i hi; rwa [Nat.zero_add] at this
  rw [b_195_0, h1]
  show zz_X (zz_call_ d) tb_195 23 _ _ _ = _
  rw [b_195_23]
  have hl := upto (fun k : Nat => zz_X (zz_call_ d) tb_195 24 [some (.ref 52), some (.int (iI i)), some (.int (iI ((5 : Nat) : Int))), some (.int (iI (cZ (fun k => gn (V.kind i) (V.rate i) 1 (V.heatAt (V.day + k)) = 0) k))), some (.int (iI k)), none, none] [] (zm N xs M L)) 7 (fun k hkc => by
    show zz_X (zz_call_ d) tb_195 24 _ _ _ = zz_X (zz_call_ d) tb_195 24 _ _ _
    have hg := gn1_b hk i (V.day + k)
    rw [b_195_24, if_neg (by rw [t_le, show (7 : Int32).toInt = 7 from rfl, iI_to (by omega) (by omega)]; omega), show (16 : Int32) = iI 16 from rfl, iI_add, show (16 : Int) + (i : Int) = ((16 + i : Nat) : Int) by omega, ix_nat (by omega) (by omega), o_some, er, e1, iI_add, show (V.day : Int) + (k : Int) = ((V.day + k : Nat) : Int) by omega, show (5 : Int32) = iI ((5 : Nat) : Int) from rfl, g_188 M L V hk hr (hk.hc0 (by omega)) 5 _ (V.day + k) (by omega) (by omega) (by omega), ← h5, b_195_25]
    by_cases q : gn (V.kind i) (V.rate i) 1 (V.heatAt (V.day + k)) = 0
    · rw [if_pos (by rw [q]; rfl), b_195_27, cZ_t (p := fun k => gn (V.kind i) (V.rate i) 1 (V.heatAt (V.day + k)) = 0) q, show (1 : Int32) = iI 1 from rfl, iI_add, iI_add]
      rfl
    · rw [if_neg (by rw [t_eq, iI_to (by omega) (by omega), show (0 : Int32).toInt = 0 from rfl]; exact q), b_195_26, b_195_27, cZ_f (p := fun k => gn (V.kind i) (V.rate i) 1 (V.heatAt (V.day + k)) = 0) q, show (1 : Int32) = iI 1 from rfl, show (0 : Int32) = iI 0 from rfl, iI_add, iI_add, Int.add_zero]
      rfl)
  refine Eq.trans hl ?_
  show zz_X (zz_call_ d) tb_195 24 _ _ _ = _
  rw [b_195_24, if_pos (by rw [t_le, show (7 : Int32).toInt = 7 from rfl, iI_to (by omega) (by omega)]; omega), b_195_28]
theorem g_195G (V : Vw) (hk : Vk V) (hr : Rv V (M 53) 0) (i k : Nat) (hi : i < V.n) (h1 : k = 5) (h5 : V.kind i = 5) {d N : Nat} {xs : Nat → Int32} {tb_ : List zz_B} {t_ : Nat} {ls_ : zz_L} {rest_ : List Value} (hd_ : 6 ≤ d) : (zz_o (zz_call_ d 195 [.ref 52, .int (iI i), .int (iI k)] (zm N xs M L)) fun r => zz_X (zz_call_ d) tb_ t_ ls_ (r.1.toList ++ rest_) r.2) = zz_X (zz_call_ d) tb_ t_ ls_ ((.int (iI (cZ (fun k => gn (V.kind i) (V.rate i) 1 (V.heatAt (V.day + k)) = 0) 7))) :: rest_) (zm N xs M L) := (s_195G M L V hk hr i k hi h1 h5).go hd_
theorem s_196B (V : Vw) (hk : Vk V) (hr : Rv V (M 53) 0) (z y : Int) (h1 : -2147483648 ≤ z) (h2 : z ≤ 2147483647) (h3 : -2147483648 ≤ y) (h4 : y ≤ 2147483647) (h : ¬ ((0 ≤ z ∧ z < V.n) ∧ 1 ≤ y ∧ y ≤ 5)) : zc 7 196 [.ref 52, .int (iI z), .int (iI y)] M L (some (.int (iI (-1)))) M L := by
  refine zc_of (n := 6) (ls := [some (.ref 52), some (.int (iI z)), some (.int (iI y)), none, none]) mk_196 rfl rfl rfl rfl (fun d hd N xs => ?_)
  rw [b_196_0, g_185 M L V hk hr z h1 h2 (by omega), b_196_1]
  by_cases q : 0 ≤ z ∧ z < V.n
  · rw [b2_t q, if_neg (show ¬ iI 1 = (0 : Int32) from iI10), iI_long h3 h4, lI_lit, lI_lit, g_157 M L y 1 5 (by omega) (by omega) (by omega) (by omega) (by omega) (by omega) (by omega), b2_f (by omega), b_196_2, if_pos (show iI 0 = (0 : Int32) from rfl), b_196_3]
    rfl
  · rw [b2_f q, if_pos (show iI 0 = (0 : Int32) from rfl), b_196_3]
    rfl
theorem g_196B (V : Vw) (hk : Vk V) (hr : Rv V (M 53) 0) (z y : Int) (h1 : -2147483648 ≤ z) (h2 : z ≤ 2147483647) (h3 : -2147483648 ≤ y) (h4 : y ≤ 2147483647) (h : ¬ ((0 ≤ z ∧ z < V.n) ∧ 1 ≤ y ∧ y ≤ 5)) {d N : Nat} {xs : Nat → Int32} {tb_ : List zz_B} {t_ : Nat} {ls_ : zz_L} {rest_ : List Value} (hd_ : 7 ≤ d) : (zz_o (zz_call_ d 196 [.ref 52, .int (iI z), .int (iI y)] (zm N xs M L)) fun r => zz_X (zz_call_ d) tb_ t_ ls_ (r.1.toList ++ rest_) r.2) = zz_X (zz_call_ d) tb_ t_ ls_ ((.int (iI (-1))) :: rest_) (zm N xs M L) := (s_196B M L V hk hr z y h1 h2 h3 h4 h).go hd_
theorem h_196 {d : Nat} (hd : 6 ≤ d) (N : Nat) (xs : Nat → Int32) (V : Vw) (hk : Vk V) (hr : Rv V (M 53) 0) (i k : Nat) (hi : i < V.n) (h1 : 1 ≤ k ∧ k ≤ 5) : zz_X (zz_call_ d) tb_196 0 [some (.ref 52), some (.int (iI i)), some (.int (iI k)), none, none] [] (zm N xs M L) = zz_X (zz_call_ d) tb_196 8 [some (.ref 52), some (.int (iI i)), some (.int (iI k)), some (.int (iI (V.kind i))), none] [.int (b2 (isKd (V.kind i) k))] (zm N xs M L) := by
  have hn := hk.n
  have hki := hk.kind i
  have e1 : M 53 (10 + i) = iI (V.kind i) := by have := hr.kind i hi; rwa [Nat.zero_add] at this
  rw [b_196_0, g_185 M L V hk hr i (by omega) (by omega) (by omega), b_196_1, b2_t (by omega), if_neg (show ¬ iI 1 = (0 : Int32) from iI10), iI_long (by omega) (by omega), lI_lit, lI_lit, g_157 M L k 1 5 (by omega) (by omega) (by omega) (by omega) (by omega) (by omega) (by omega), b2_t (by omega), b_196_2, if_neg (show ¬ iI 1 = (0 : Int32) from iI10), b_196_4, show (10 : Int32) = iI 10 from rfl, iI_add, show (10 : Int) + (i : Int) = ((10 + i : Nat) : Int) by omega, ix_nat (by omega) (by omega), o_some, e1]
  simp only [t_eq]
  rw [iI_to (by omega) (by omega), iI_to (by omega) (by omega), show (1 : Int32).toInt = 1 from rfl, show (4 : Int32).toInt = 4 from rfl]
  have l5 : zz_X (zz_call_ d) tb_196 5 [some (.ref 52), some (.int (iI i)), some (.int (iI k)), some (.int (iI (V.kind i))), none] [] (zm N xs M L) = if k = 2 ∧ V.kind i = 5 then zz_X (zz_call_ d) tb_196 8 [some (.ref 52), some (.int (iI i)), some (.int (iI k)), some (.int (iI (V.kind i))), none] [.int (iI 1)] (zm N xs M L) else zz_X (zz_call_ d) tb_196 8 [some (.ref 52), some (.int (iI i)), some (.int (iI k)), some (.int (iI (V.kind i))), none] [.int (iI 0)] (zm N xs M L) := by
    rw [b_196_5]
    simp only [t_eq]
    rw [iI_to (by omega) (by omega), iI_to (by omega) (by omega), show (2 : Int32).toInt = 2 from rfl, show (5 : Int32).toInt = 5 from rfl, b_196_6, b_196_7]
    by_cases q1 : k = 2
    · rw [if_pos (by omega)]
      by_cases q2 : V.kind i = 5
      · rw [if_pos (by omega), if_pos ⟨q1, q2⟩]; rfl
      · rw [if_neg (by omega), if_neg (fun h => q2 h.2)]; rfl
    · rw [if_neg (by omega), if_neg (fun h => q1 h.1)]; rfl
  by_cases q : V.kind i = k
  · rw [if_pos (by omega), b_196_6, b2_t (Or.inl q)]
    rfl
  · rw [if_neg (by omega)]
    by_cases q1 : k = 1
    · rw [if_pos (by omega)]
      by_cases q2 : V.kind i = 4
      · rw [if_pos (by omega), b_196_6, b2_t (by omega)]
        rfl
      · rw [if_neg (by omega), l5, if_neg (by omega), b2_f (by omega)]
    · rw [if_neg (by omega), l5]
      by_cases q2 : k = 2 ∧ V.kind i = 5
      · rw [if_pos q2, b2_t (by omega)]
      · rw [if_neg q2, b2_f (by omega)]
theorem s_196U (V : Vw) (hk : Vk V) (hr : Rv V (M 53) 0) (i k : Nat) (hi : i < V.n) (h1 : 1 ≤ k ∧ k ≤ 5) (hu : ¬ isKd (V.kind i) k) : zc 7 196 [.ref 52, .int (iI i), .int (iI k)] M L (some (.int (iI (-3)))) (fndR M 3) L := by
  refine zc_of (n := 6) (ls := [some (.ref 52), some (.int (iI i)), some (.int (iI k)), none, none]) mk_196 rfl rfl rfl rfl (fun d hd N xs => ?_)
  rw [h_196 M L hd N xs V hk hr i k hi h1, b2_f hu, b_196_8, if_pos (show iI 0 = (0 : Int32) from rfl), b_196_10, show (3 : Int32) = iI ((3 : Nat) : Int) from rfl, g_161 M L 3 (by omega) (by omega) (by omega), b_196_11]
theorem g_196U (V : Vw) (hk : Vk V) (hr : Rv V (M 53) 0) (i k : Nat) (hi : i < V.n) (h1 : 1 ≤ k ∧ k ≤ 5) (hu : ¬ isKd (V.kind i) k) {d N : Nat} {xs : Nat → Int32} {tb_ : List zz_B} {t_ : Nat} {ls_ : zz_L} {rest_ : List Value} (hd_ : 7 ≤ d) : (zz_o (zz_call_ d 196 [.ref 52, .int (iI i), .int (iI k)] (zm N xs M L)) fun r => zz_X (zz_call_ d) tb_ t_ ls_ (r.1.toList ++ rest_) r.2) = zz_X (zz_call_ d) tb_ t_ ls_ ((.int (iI (-3))) :: rest_) (zm N xs (fndR M 3) L) := (s_196U M L V hk hr i k hi h1 hu).go hd_
theorem s_196C (V : Vw) (hk : Vk V) (hr : Rv V (M 53) 0) (i k : Nat) (hi : i < V.n) (h1 : k = 1) (hu : isKd (V.kind i) k) : zc 7 196 [.ref 52, .int (iI i), .int (iI k)] M L (some (.int (iI ((V.minute i + span (V.kind i) - 1) % 60)))) M L := by
  refine zc_of (n := 6) (ls := [some (.ref 52), some (.int (iI i)), some (.int (iI k)), none, none]) mk_196 rfl rfl rfl rfl (fun d hd N xs => ?_)
  rw [h_196 M L hd N xs V hk hr i k hi (by omega), b2_t hu, b_196_8, if_neg (show ¬ iI 1 = (0 : Int32) from iI10), g_195C M L V hk hr i k hi h1 (by omega), b_196_9, b_196_11]
theorem g_196C (V : Vw) (hk : Vk V) (hr : Rv V (M 53) 0) (i k : Nat) (hi : i < V.n) (h1 : k = 1) (hu : isKd (V.kind i) k) {d N : Nat} {xs : Nat → Int32} {tb_ : List zz_B} {t_ : Nat} {ls_ : zz_L} {rest_ : List Value} (hd_ : 7 ≤ d) : (zz_o (zz_call_ d 196 [.ref 52, .int (iI i), .int (iI k)] (zm N xs M L)) fun r => zz_X (zz_call_ d) tb_ t_ ls_ (r.1.toList ++ rest_) r.2) = zz_X (zz_call_ d) tb_ t_ ls_ ((.int (iI ((V.minute i + span (V.kind i) - 1) % 60))) :: rest_) (zm N xs M L) := (s_196C M L V hk hr i k hi h1 hu).go hd_
theorem s_196D (V : Vw) (hk : Vk V) (hr : Rv V (M 53) 0) (i k : Nat) (hi : i < V.n) (h1 : k = 2) (hu : isKd (V.kind i) k) : zc 7 196 [.ref 52, .int (iI i), .int (iI k)] M L (some (.int (iI (gn (V.kind i) (V.rate i) 1 (V.heatAt V.day))))) M L := by
  refine zc_of (n := 6) (ls := [some (.ref 52), some (.int (iI i)), some (.int (iI k)), none, none]) mk_196 rfl rfl rfl rfl (fun d hd N xs => ?_)
  rw [h_196 M L hd N xs V hk hr i k hi (by omega), b2_t hu, b_196_8, if_neg (show ¬ iI 1 = (0 : Int32) from iI10), g_195D M L V hk hr i k hi h1 (by omega), b_196_9, b_196_11]
theorem g_196D (V : Vw) (hk : Vk V) (hr : Rv V (M 53) 0) (i k : Nat) (hi : i < V.n) (h1 : k = 2) (hu : isKd (V.kind i) k) {d N : Nat} {xs : Nat → Int32} {tb_ : List zz_B} {t_ : Nat} {ls_ : zz_L} {rest_ : List Value} (hd_ : 7 ≤ d) : (zz_o (zz_call_ d 196 [.ref 52, .int (iI i), .int (iI k)] (zm N xs M L)) fun r => zz_X (zz_call_ d) tb_ t_ ls_ (r.1.toList ++ rest_) r.2) = zz_X (zz_call_ d) tb_ t_ ls_ ((.int (iI (gn (V.kind i) (V.rate i) 1 (V.heatAt V.day)))) :: rest_) (zm N xs M L) := (s_196D M L V hk hr i k hi h1 hu).go hd_
theorem s_196E (V : Vw) (hk : Vk V) (hr : Rv V (M 53) 0) (i k : Nat) (hi : i < V.n) (h1 : k = 3) (hu : isKd (V.kind i) k) : zc 7 196 [.ref 52, .int (iI i), .int (iI k)] M L (some (.int (iI (cZ (fun j => j ≠ i ∧ vq V i j 60) V.n)))) M L := by
  refine zc_of (n := 6) (ls := [some (.ref 52), some (.int (iI i)), some (.int (iI k)), none, none]) mk_196 rfl rfl rfl rfl (fun d hd N xs => ?_)
  rw [h_196 M L hd N xs V hk hr i k hi (by omega), b2_t hu, b_196_8, if_neg (show ¬ iI 1 = (0 : Int32) from iI10), g_195E M L V hk hr i k hi h1 (by omega), b_196_9, b_196_11]
theorem g_196E (V : Vw) (hk : Vk V) (hr : Rv V (M 53) 0) (i k : Nat) (hi : i < V.n) (h1 : k = 3) (hu : isKd (V.kind i) k) {d N : Nat} {xs : Nat → Int32} {tb_ : List zz_B} {t_ : Nat} {ls_ : zz_L} {rest_ : List Value} (hd_ : 7 ≤ d) : (zz_o (zz_call_ d 196 [.ref 52, .int (iI i), .int (iI k)] (zm N xs M L)) fun r => zz_X (zz_call_ d) tb_ t_ ls_ (r.1.toList ++ rest_) r.2) = zz_X (zz_call_ d) tb_ t_ ls_ ((.int (iI (cZ (fun j => j ≠ i ∧ vq V i j 60) V.n))) :: rest_) (zm N xs M L) := (s_196E M L V hk hr i k hi h1 hu).go hd_
theorem s_196F (V : Vw) (hk : Vk V) (hr : Rv V (M 53) 0) (i k : Nat) (hi : i < V.n) (h1 : k = 4) (hu : isKd (V.kind i) k) : zc 7 196 [.ref 52, .int (iI i), .int (iI k)] M L (some (.int (iI (cZ (fun j => j ≠ i ∧ rel (bt V 0) i j) V.n)))) M L := by
  refine zc_of (n := 6) (ls := [some (.ref 52), some (.int (iI i)), some (.int (iI k)), none, none]) mk_196 rfl rfl rfl rfl (fun d hd N xs => ?_)
  rw [h_196 M L hd N xs V hk hr i k hi (by omega), b2_t hu, b_196_8, if_neg (show ¬ iI 1 = (0 : Int32) from iI10), g_195F M L V hk hr i k hi h1 (by omega), b_196_9, b_196_11]
theorem g_196F (V : Vw) (hk : Vk V) (hr : Rv V (M 53) 0) (i k : Nat) (hi : i < V.n) (h1 : k = 4) (hu : isKd (V.kind i) k) {d N : Nat} {xs : Nat → Int32} {tb_ : List zz_B} {t_ : Nat} {ls_ : zz_L} {rest_ : List Value} (hd_ : 7 ≤ d) : (zz_o (zz_call_ d 196 [.ref 52, .int (iI i), .int (iI k)] (zm N xs M L)) fun r => zz_X (zz_call_ d) tb_ t_ ls_ (r.1.toList ++ rest_) r.2) = zz_X (zz_call_ d) tb_ t_ ls_ ((.int (iI (cZ (fun j => j ≠ i ∧ rel (bt V 0) i j) V.n))) :: rest_) (zm N xs M L) := (s_196F M L V hk hr i k hi h1 hu).go hd_
theorem s_196G (V : Vw) (hk : Vk V) (hr : Rv V (M 53) 0) (i k : Nat) (hi : i < V.n) (h1 : k = 5) (hu : isKd (V.kind i) k) : zc 7 196 [.ref 52, .int (iI i), .int (iI k)] M L (some (.int (iI (cZ (fun k => gn (V.kind i) (V.rate i) 1 (V.heatAt (V.day + k)) = 0) 7)))) M L := by
  refine zc_of (n := 6) (ls := [some (.ref 52), some (.int (iI i)), some (.int (iI k)), none, none]) mk_196 rfl rfl rfl rfl (fun d hd N xs => ?_)
  rw [h_196 M L hd N xs V hk hr i k hi (by omega), b2_t hu, b_196_8, if_neg (show ¬ iI 1 = (0 : Int32) from iI10), g_195G M L V hk hr i k hi h1 (by omega) (by omega), b_196_9, b_196_11]
theorem g_196G (V : Vw) (hk : Vk V) (hr : Rv V (M 53) 0) (i k : Nat) (hi : i < V.n) (h1 : k = 5) (hu : isKd (V.kind i) k) {d N : Nat} {xs : Nat → Int32} {tb_ : List zz_B} {t_ : Nat} {ls_ : zz_L} {rest_ : List Value} (hd_ : 7 ≤ d) : (zz_o (zz_call_ d 196 [.ref 52, .int (iI i), .int (iI k)] (zm N xs M L)) fun r => zz_X (zz_call_ d) tb_ t_ ls_ (r.1.toList ++ rest_) r.2) = zz_X (zz_call_ d) tb_ t_ ls_ ((.int (iI (cZ (fun k => gn (V.kind i) (V.rate i) 1 (V.heatAt (V.day + k)) = 0) 7))) :: rest_) (zm N xs M L) := (s_196G M L V hk hr i k hi h1 hu).go hd_
end ZR
theorem o_mark {M : Nat → Nat → Int32} {L : Nat → Nat → Int64} (a b : Int32) (hI : Inv M L) : Ok 106 196 [.int a, .int b] M L := by
  obtain ⟨z, h1, h2, rfl⟩ := iI_of a
  obtain ⟨y, h3, h4, rfl⟩ := iI_of b
  obtain ⟨V, hk, hv, hr⟩ := hI.view
  by_cases q : (0 ≤ z ∧ z < V.n) ∧ 1 ≤ y ∧ y ≤ 5
  · obtain ⟨i, rfl⟩ : ∃ x : Nat, z = x := ⟨z.toNat, by omega⟩
    obtain ⟨k, rfl⟩ : ∃ x : Nat, y = x := ⟨y.toNat, by omega⟩
    have hi : i < V.n := by omega
    by_cases hu : isKd (V.kind i) k
    · rcases (by omega : k = 1 ∨ k = 2 ∨ k = 3 ∨ k = 4 ∨ k = 5) with e | e | e | e | e
      · exact Ok.same hI (s_106C M L V hk hv i k hi e hu) (s_196C M L V hk hr i k hi e hu) (by omega) (by omega)
      · exact Ok.same hI (s_106D M L V hk hv i k hi e hu) (s_196D M L V hk hr i k hi e hu) (by omega) (by omega)
      · exact Ok.same hI (s_106E M L V hk hv i k hi e hu) (s_196E M L V hk hr i k hi e hu) (by omega) (by omega)
      · refine ⟨_, _, _, _, _, (s_106F M L V hk hv i k hi e hu).mono (by omega), (s_196F _ _ V hk (by rw [w_ne (by omega)]; exact hr) i k hi e hu).mono (by omega), hI.cg ?_ (sL_SL _ _ _ _ (by omega) (by omega))⟩
        exact eqs.rf.w (by unfold pA pR pT pD pF pH; omega)
      · exact Ok.same hI (s_106G M L V hk hv i k hi e hu) (s_196G M L V hk hr i k hi e hu) (by omega) (by omega)
    · exact Ok.fd hI (s_106U M L V hk hv i k hi (by omega) hu) (s_196U (fnd M 3) L V hk (by rw [fnd_ne (by omega) (by omega)]; exact hr) i k hi (by omega) hu) (by omega) (by omega)
  · exact Ok.same hI (s_106B M L V hk hv z y h1 h2 h3 h4 q) (s_196B M L V hk hr z y h1 h2 h3 h4 q) (by omega) (by omega)

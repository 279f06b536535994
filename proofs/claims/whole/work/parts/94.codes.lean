/-! the reference's codes; findTouches. -/
abbrev clc (V : Vw) (i j N c : Nat) : Prop := clq V i j (((c % 5 : Nat) : Int) - 2 - (((c / 5 : Nat) : Int) - 2)) N
def p63 (c k : Nat) : Prop := c ≠ 63 ∧ p2 c k
def CT (V : Vw) (N b : Nat) (M : Nat → Nat → Int32) : Prop := ∀ i j, i < j → j < V.n → 6 * i + j < b → ∀ c, c < 25 → M 63 (25 * (6 * i + j) + c) = b2 (clc V i j N c)
theorem p63_53 {M M' : Nat → Nat → Int32} (h : eqs M M' p63) : M' 53 = M 53 := h.col 53 (fun k => ⟨by omega, Or.inl (by omega)⟩)
theorem p2_63 {M M' : Nat → Nat → Int32} (h : eqs M M' p2) : M' 63 = M 63 := h.col 63 (fun k => Or.inl (by omega))
section ZL
variable (L : Nat → Nat → Int64) {V : Vw}
theorem l_224c (hk : Vk V) (n : Nat) (hn : n ≤ 60) (i j : Nat) (hij : i < j) (hj : j < V.n) : ∀ (c k : Nat) (M : Nat → Nat → Int32), k + c = 25 → Rv V (M 53) 0 → CT V (n + 1) (6 * i + j) M → (∀ x, x < k → M 63 (25 * (6 * i + j) + x) = b2 (clc V i j (n + 1) x)) → ∃ M', eqs M M' p63 ∧ CT V (n + 1) (6 * i + j + 1) M' ∧ ∀ d, 4 ≤ d → ∀ N xs, zz_X (zz_call_ d) tb_224 3 [some (.ref 52), some (.int (iI n)), some (.int (iI i)), some (.int (iI j)), some (.int (iI k))] [] (zm N xs M L) = zz_X (zz_call_ d) tb_224 5 [some (.ref 52), some (.int (iI n)), some (.int (iI i)), some (.int (iI j)), some (.int (iI ((25 : Nat) : Int)))] [] (zm N xs M' L)
  | 0, k, M, hc, hr, hct, hx => by
    have h6 := hk.n
    refine ⟨M, eqs.rf, fun a b hab hb hlt c hc2 => ?_, fun d hd N xs => ?_⟩
    · by_cases e : 6 * a + b = 6 * i + j
      · have e1 : a = i := by omega
        have e2 : b = j := by omega
        subst e1 e2
        exact hx c (by omega)
      · exact hct a b hab hb (by omega) c hc2
    · rw [b_224_3, if_pos (by rw [t_le, show (25 : Int32).toInt = 25 from rfl, iI_to (by omega) (by omega)]; omega), show k = 25 by omega]
  | c + 1, k, M, hc, hr, hct, hx => by
    have h6 := hk.n
    obtain ⟨M1, r1, r2⟩ := x_223 L M hk hr i j (by omega) hj (((k / 5 : Nat) : Int) - 2) (((k % 5 : Nat) : Int) - 2) (by omega) (by omega) n hn
    have e63 := p2_63 r1
    obtain ⟨M', p1, p4, p3⟩ := l_224c hk n hn i j hij hj c (k + 1) (zz_wI M1 63 (25 * (6 * i + j) + k) (b2 (clc V i j (n + 1) k))) (by omega) (by rw [w_ne (by omega), p2_53 r1]; exact hr) (fun a b hab hb hlt c2 hc2 => by rw [w_nk (by omega), e63]; exact hct a b hab hb hlt c2 hc2) (fun x hx2 => by
      by_cases e : x = k
      · rw [e, w_at]
      · rw [w_nk (by omega), e63]; exact hx x (by omega))
    refine ⟨M', ((r1.im (fun c k h => h.2)).w (by unfold p63; omega)).tr p1, p4, fun d hd N xs => ?_⟩
    rw [b_224_3, if_neg (by rw [t_le, show (25 : Int32).toInt = 25 from rfl, iI_to (by omega) (by omega)]; omega), show (5 : Int32) = iI 5 from rfl, show (2 : Int32) = iI 2 from rfl, show (25 : Int32) = iI 25 from rfl, show (6 : Int32) = iI 6 from rfl, iI_rem (by omega) (by omega) (by omega) (by omega), iI_div (by omega) (by omega) (by omega) (by omega), show (k : Int).tmod 5 = ((k % 5 : Nat) : Int) from rfl, show (k : Int).tdiv 5 = ((k / 5 : Nat) : Int) from rfl, iI_sub, iI_sub, iI_mul, iI_add, iI_mul, iI_add, show (25 : Int) * (6 * (i : Int) + (j : Int)) + (k : Int) = ((25 * (6 * i + j) + k : Nat) : Int) by omega, r2.go (by omega), b_224_4, ix_nat (by omega) (by omega), o_some, if_pos (b2_zo _), show (1 : Int32) = iI 1 from rfl, iI_add]
    exact p3 d hd N xs
theorem l_224j (hk : Vk V) (n : Nat) (hn : n ≤ 60) (i : Nat) : ∀ (c j : Nat) (M : Nat → Nat → Int32) (o : Option Value), j + c = V.n → i < j → Rv V (M 53) 0 → CT V (n + 1) (6 * i + j) M → ∃ M' o', eqs M M' p63 ∧ CT V (n + 1) (6 * i + V.n) M' ∧ ∀ d, 4 ≤ d → ∀ N xs, zz_X (zz_call_ d) tb_224 2 [some (.ref 52), some (.int (iI n)), some (.int (iI i)), some (.int (iI j)), o] [] (zm N xs M L) = zz_X (zz_call_ d) tb_224 1 [some (.ref 52), some (.int (iI n)), some (.int (iI ((i + 1 : Nat) : Int))), some (.int (iI V.n)), o'] [] (zm N xs M' L)
  | 0, j, M, o, hc, hij, hr, hct => by
    have hn6 := hk.n
    have e0 : M 53 0 = iI V.n := hr.n
    refine ⟨M, o, eqs.rf, fun a b h1 h2 h3 => hct a b h1 h2 (by omega), fun d hd N xs => ?_⟩
    rw [b_224_2, e0, if_pos (by rw [t_le, iI_to (by omega) (by omega), iI_to (by omega) (by omega)]; omega), b_224_6, show (1 : Int32) = iI 1 from rfl, iI_add, show j = V.n by omega]
    rfl
  | c + 1, j, M, o, hc, hij, hr, hct => by
    have hn6 := hk.n
    have e0 : M 53 0 = iI V.n := hr.n
    obtain ⟨M1, r1, r4, r2⟩ := l_224c L hk n hn i j hij (by omega) 25 0 M (by omega) hr hct (fun x hx => by omega)
    obtain ⟨M', o', p1, p4, p3⟩ := l_224j hk n hn i c (j + 1) M1 (some (.int (iI ((25 : Nat) : Int)))) (by omega) (by omega) (by rw [p63_53 r1]; exact hr) r4
    refine ⟨M', o', r1.tr p1, p4, fun d hd N xs => ?_⟩
    rw [b_224_2, e0, if_neg (by rw [t_le, iI_to (by omega) (by omega), iI_to (by omega) (by omega)]; omega)]
    refine Eq.trans (r2 d hd N xs) ?_
    rw [b_224_5, show (1 : Int32) = iI 1 from rfl, iI_add]
    exact p3 d hd N xs
theorem l_224 (hk : Vk V) (n : Nat) (hn : n ≤ 60) : ∀ (c i : Nat) (M : Nat → Nat → Int32) (o3 o4 : Option Value), i + c = V.n → Rv V (M 53) 0 → CT V (n + 1) (7 * i + 1) M → ∃ M', eqs M M' p63 ∧ CT V (n + 1) 36 M' ∧ ∀ d, 4 ≤ d → ∀ N xs, zz_X (zz_call_ d) tb_224 1 [some (.ref 52), some (.int (iI n)), some (.int (iI i)), o3, o4] [] (zm N xs M L) = some (none, zm N xs M' L)
  | 0, i, M, o3, o4, hc, hr, hct => by
    have hn6 := hk.n
    have e0 : M 53 0 = iI V.n := hr.n
    refine ⟨M, eqs.rf, fun a b h1 h2 h3 => hct a b h1 h2 (by omega), fun d hd N xs => ?_⟩
    rw [b_224_1, e0, if_pos (by rw [t_le, iI_to (by omega) (by omega), iI_to (by omega) (by omega)]; omega), b_224_7]
  | c + 1, i, M, o3, o4, hc, hr, hct => by
    have hn6 := hk.n
    have e0 : M 53 0 = iI V.n := hr.n
    obtain ⟨M1, o41, r1, r4, r2⟩ := l_224j L hk n hn i (V.n - (i + 1)) (i + 1) M o4 (by omega) (by omega) hr (by rw [show 6 * i + (i + 1) = 7 * i + 1 by omega]; exact hct)
    obtain ⟨M', p1, p4, p3⟩ := l_224 hk n hn c (i + 1) M1 (some (.int (iI V.n))) o41 (by omega) (by rw [p63_53 r1]; exact hr) (fun a b h1 h2 h3 => r4 a b h1 h2 (by omega))
    refine ⟨M', r1.tr p1, p4, fun d hd N xs => ?_⟩
    rw [b_224_1, e0, if_neg (by rw [t_le, iI_to (by omega) (by omega), iI_to (by omega) (by omega)]; omega), show (1 : Int32) = iI 1 from rfl, iI_add]
    exact (r2 d hd N xs).trans (p3 d hd N xs)
theorem x_224 (M : Nat → Nat → Int32) (hk : Vk V) (hr : Rv V (M 53) 0) (n : Nat) (hn : n ≤ 60) : ∃ M', eqs M M' p63 ∧ CT V (n + 1) 36 M' ∧ zc 5 224 [.ref 52, .int (iI n)] M L none M' L := by
  obtain ⟨M', p1, p4, p3⟩ := l_224 L hk n hn V.n 0 M none none (by omega) hr (fun a b h1 h2 h3 => by omega)
  refine ⟨M', p1, p4, zc_of (n := 4) (ls := [some (.ref 52), some (.int (iI n)), none, none, none]) mk_224 rfl rfl rfl rfl (fun d hd N xs => ?_)⟩
  rw [b_224_0]
  exact p3 d hd N xs
end ZL
theorem bd_no {V : Vw} {N x : Nat} {t : Nat → Nat} (h : ¬ pr V.n x) : ¬ bd V N t x := fun e => h e.1
theorem bd_ij {V : Vw} {N i j : Nat} {t : Nat → Nat} (hij : i < j) (hj : j < V.n) (hk : Vk V) : bd V N t (6 * i + j) ↔ clq V i j ((t j : Int) - (t i : Int)) N := by
  have := hk.n
  show pr V.n (6 * i + j) ∧ clq V ((6 * i + j) / 6) ((6 * i + j) % 6) ((t ((6 * i + j) % 6) : Int) - (t ((6 * i + j) / 6) : Int)) N ↔ _
  rw [show (6 * i + j) / 6 = i by omega, show (6 * i + j) % 6 = j by omega]
  constructor
  · exact fun e => e.2
  · exact fun e => ⟨by show (6 * i + j) / 6 < (6 * i + j) % 6 ∧ (6 * i + j) % 6 < V.n; omega, e⟩
def p64 (c k : Nat) : Prop := c ≠ 64 ∧ (c ≠ 52 ∨ k ≠ 22)
section ZR
variable (M : Nat → Nat → Int32) (L : Nat → Nat → Int64)
theorem l_225j {d : Nat} (N : Nat) (xs : Nat → Int32) (V : Vw) (hk : Vk V) (hr : Rv V (M 53) 0) (N9 : Nat) (hct : CT V N9 36 M) (t : Nat → Nat) (ht : ∀ j, t j < 5) (h64 : ∀ j, j < V.n → M 64 j = iI (t j)) (v1 v2 : Int32) (i : Nat) (hi : i < V.n) : ∀ c j : Nat, j + c = V.n → i < j → zz_X (zz_call_ d) tb_225 6 [some (.ref 52), some (.int v1), some (.int v2), some (.int (b2 (cZ (bd V N9 t) (6 * i + j) = 0))), some (.int (iI i)), some (.int (iI j))] [] (zm N xs M L) = zz_X (zz_call_ d) tb_225 5 [some (.ref 52), some (.int v1), some (.int v2), some (.int (b2 (cZ (bd V N9 t) (6 * i + V.n) = 0))), some (.int (iI ((i + 1 : Nat) : Int))), some (.int (iI V.n))] [] (zm N xs M L)
  | 0, j, hc, hij => by
    have hn := hk.n
    have e0 : M 53 0 = iI V.n := hr.n
    rw [b_225_6, e0, if_pos (by rw [t_le, iI_to (by omega) (by omega), iI_to (by omega) (by omega)]; omega), b_225_9, show (1 : Int32) = iI 1 from rfl, iI_add, show j = V.n by omega]
    rfl
  | c + 1, j, hc, hij => by
    have hn := hk.n
    have e0 : M 53 0 = iI V.n := hr.n
    have h5i := ht i
    have h5j := ht j
    have hb := bd_ij (N := N9) (t := t) hij (show j < V.n by omega) hk
    have ih := l_225j (d := d) N xs V hk hr N9 hct t ht h64 v1 v2 i hi c (j + 1) (by omega) (by omega)
    have l8 : ∀ v w : Int32, b2 (cZ (bd V N9 t) (6 * i + (j + 1)) = 0) = v → zz_X (zz_call_ d) tb_225 8 [some (.ref 52), some (.int v1), some (.int v2), some (.int w), some (.int (iI i)), some (.int (iI j))] [.int v] (zm N xs M L) = zz_X (zz_call_ d) tb_225 5 [some (.ref 52), some (.int v1), some (.int v2), some (.int (b2 (cZ (bd V N9 t) (6 * i + V.n) = 0))), some (.int (iI ((i + 1 : Nat) : Int))), some (.int (iI V.n))] [] (zm N xs M L) := by
      intro v w hv
      rw [b_225_8, ← hv, show (1 : Int32) = iI 1 from rfl, iI_add]
      exact ih
    rw [b_225_6, e0, if_neg (by rw [t_le, iI_to (by omega) (by omega), iI_to (by omega) (by omega)]; omega)]
    by_cases q : cZ (bd V N9 t) (6 * i + j) = 0
    · have ec := hct i j hij (by omega) (by omega) (5 * t i + t j) (by omega)
      rw [if_neg (by rw [b2_t q]; exact iI10), ix_nat (by omega) (by omega), o_some, ix_nat (by omega) (by omega), o_some, h64 i hi, h64 j (by omega), show (25 : Int32) = iI 25 from rfl, show (6 : Int32) = iI 6 from rfl, show (5 : Int32) = iI 5 from rfl, iI_mul, iI_add, iI_mul, iI_mul, iI_add, iI_add, show (25 : Int) * (6 * (i : Int) + (j : Int)) + 5 * (t i : Int) + (t j : Int) = ((25 * (6 * i + j) + (5 * t i + t j) : Nat) : Int) by omega, ix_nat (by omega) (by omega), o_some, ec]
      have ecl : clc V i j N9 (5 * t i + t j) ↔ bd V N9 t (6 * i + j) := by
        rw [hb]
        show clq V i j ((((5 * t i + t j) % 5 : Nat) : Int) - 2 - ((((5 * t i + t j) / 5 : Nat) : Int) - 2)) N9 ↔ _
        rw [show ((((5 * t i + t j) % 5 : Nat) : Int) - 2 - ((((5 * t i + t j) / 5 : Nat) : Int) - 2)) = (t j : Int) - (t i : Int) by omega]
      by_cases q2 : clc V i j N9 (5 * t i + t j)
      · rw [b2_t q2, if_neg (show ¬ iI 1 = (0 : Int32) from iI10), b_225_7]
        exact l8 _ _ (by rw [show 6 * i + (j + 1) = 6 * i + j + 1 by omega, cZ_t (p := bd V N9 t) (ecl.1 q2), b2_f (by omega)]; rfl)
      · rw [b2_f q2, if_pos (show iI 0 = (0 : Int32) from rfl)]
        exact l8 _ _ (by rw [show 6 * i + (j + 1) = 6 * i + j + 1 by omega, cZ_f (p := bd V N9 t) (fun e => q2 (ecl.2 e)), b2_t q]; rfl)
    · have hmo := cZ_mono (bd V N9 t) (show 6 * i + j ≤ 6 * i + (j + 1) by omega)
      rw [if_pos (by rw [b2_f q]; rfl), b_225_7]
      exact l8 _ _ (by rw [b2_f (by omega)]; rfl)
theorem l_225 {d : Nat} (N : Nat) (xs : Nat → Int32) (V : Vw) (hk : Vk V) (hr : Rv V (M 53) 0) (N9 : Nat) (hct : CT V N9 36 M) (t : Nat → Nat) (ht : ∀ j, t j < 5) (h64 : ∀ j, j < V.n → M 64 j = iI (t j)) (v1 v2 : Int32) : ∀ (c i : Nat) (o : Option Value), i + c = V.n → zz_X (zz_call_ d) tb_225 5 [some (.ref 52), some (.int v1), some (.int v2), some (.int (b2 (cZ (bd V N9 t) (7 * i + 1) = 0))), some (.int (iI i)), o] [] (zm N xs M L) = some (some (.int (b2 (feT V N9 t))), zm N xs M L)
  | 0, i, o, hc => by
    have hn := hk.n
    have e0 : M 53 0 = iI V.n := hr.n
    have ec : cZ (bd V N9 t) (7 * i + 1) = cZ (bd V N9 t) 36 := cZ_eq (fun x hx => bd_no (fun h => by have h1 := h.1; have h2 := h.2; omega))
    rw [b_225_5, e0, if_pos (by rw [t_le, iI_to (by omega) (by omega), iI_to (by omega) (by omega)]; omega), b_225_10, if_pos (b2_zo _), ec]
  | c + 1, i, o, hc => by
    have hn := hk.n
    have e0 : M 53 0 = iI V.n := hr.n
    have ec : cZ (bd V N9 t) (6 * i + V.n) = cZ (bd V N9 t) (7 * (i + 1) + 1) := cZ_eq (fun x hx => bd_no (fun h => by have h1 := h.1; have h2 := h.2; omega))
    rw [b_225_5, e0, if_neg (by rw [t_le, iI_to (by omega) (by omega), iI_to (by omega) (by omega)]; omega)]
    by_cases q : cZ (bd V N9 t) (7 * i + 1) = 0
    · have hj := l_225j M L (d := d) N xs V hk hr N9 hct t ht h64 v1 v2 i (by omega) (V.n - (i + 1)) (i + 1) (by omega) (by omega)
      rw [show 6 * i + (i + 1) = 7 * i + 1 by omega, ec] at hj
      rw [if_neg (by rw [b2_t q]; exact iI10), show (1 : Int32) = iI 1 from rfl, iI_add]
      refine Eq.trans hj ?_
      exact l_225 N xs V hk hr N9 hct t ht h64 v1 v2 c (i + 1) _ (by omega)
    · have hmo := cZ_mono (bd V N9 t) (show 7 * i + 1 ≤ 36 by omega)
      rw [if_pos (by rw [b2_f q]; rfl), b_225_10, if_pos (b2_zo _), b2_f q, b2_f (show ¬ cZ (bd V N9 t) 36 = 0 by omega)]
end ZR
section ZL
variable (L : Nat → Nat → Int64) {V : Vw}
theorem l_225a (hk : Vk V) (k : Nat) (hk5 : k < 1000000) : ∀ (c : Nat) (M : Nat → Nat → Int32), c ≤ V.n → Rv V (M 53) 0 → (∀ j, c ≤ j → j < V.n → M 64 j = iI (dg V.n k j)) → M 52 22 = iI (bS (fun j => c ≤ j ∧ dg V.n k j ≠ 2) V.n) → ∃ M' v, eqs M M' p64 ∧ (∀ j, j < V.n → M' 64 j = iI (dg V.n k j)) ∧ M' 52 22 = iI (tS (dg V.n k) V.n) ∧ ∀ (d N : Nat) (xs : Nat → Int32), zz_X (zz_call_ d) tb_225 1 [some (.ref 52), some (.int (iI k)), some (.int (iI ((k / 5 ^ (V.n - c) : Nat) : Int))), some (.int (iI ((c : Int) - 1))), none, none] [] (zm N xs M L) = zz_X (zz_call_ d) tb_225 4 [some (.ref 52), some (.int (iI k)), some (.int v), some (.int (iI (-1))), none, none] [] (zm N xs M' L)
  | 0, M, hc, hr, h64, h22 => by
    refine ⟨M, iI ((k / 5 ^ (V.n - 0) : Nat) : Int), eqs.rf, fun j hj => h64 j (by omega) hj, ?_, fun d N xs => ?_⟩
    · rw [h22, bS_cg (q := fun j => dg V.n k j ≠ 2) (fun j hj => ⟨fun e => e.2, fun e => ⟨by omega, e⟩⟩)]
    · rw [b_225_1, if_pos (by decide)]
      rfl
  | c + 1, M, hc, hr, h64, h22 => by
    have hn := hk.n
    have hdl := dg_lt V.n k c
    have hle : k / 5 ^ (V.n - (c + 1)) ≤ k := Nat.div_le_self _ _
    have e1 : k / 5 ^ (V.n - (c + 1)) % 5 = dg V.n k c := by unfold dg; rw [show V.n - (c + 1) = V.n - 1 - c by omega]
    have e2 : k / 5 ^ (V.n - (c + 1)) / 5 = k / 5 ^ (V.n - c) := by rw [Nat.div_div_eq_div_mul, show V.n - c = (V.n - (c + 1)) + 1 by omega, Nat.pow_succ]
    generalize hw : k / 5 ^ (V.n - (c + 1)) = w at hle e1 e2 ⊢
    have hb := bS_64 (fun j => c + 1 ≤ j ∧ dg V.n k j ≠ 2) hn
    have hs := sh_lt (j := c) (by omega)
    have eset : (if dg V.n k c = 2 then bS (fun j => c + 1 ≤ j ∧ dg V.n k j ≠ 2) V.n else bS (fun j => c + 1 ≤ j ∧ dg V.n k j ≠ 2) V.n ||| (1 <<< c)) = bS (fun j => c ≤ j ∧ dg V.n k j ≠ 2) V.n := by
      by_cases q : dg V.n k c = 2
      · rw [if_pos q]
        exact bS_cg (fun j hj => by
          constructor
          · exact fun e => ⟨by omega, e.2⟩
          · refine fun e => ⟨?_, e.2⟩
            by_cases q2 : j = c
            · subst q2; exact absurd q e.2
            · omega)
      · rw [if_neg q]
        apply Nat.eq_of_testBit_eq
        intro m
        rw [Bool.eq_iff_iff, Nat.testBit_or, Bool.or_eq_true, one_bit, bS_bit, bS_bit]
        constructor
        · rintro (a | a)
          · exact ⟨a.1, by omega, a.2.2⟩
          · subst a; exact ⟨by omega, by omega, q⟩
        · rintro ⟨a, b, e⟩
          by_cases q2 : m = c
          · exact Or.inr q2
          · exact Or.inl ⟨a, by omega, e⟩
    obtain ⟨M', v, p1, p2', p4, p3⟩ := l_225a hk k hk5 c (zz_wI (zz_wI M 64 c (iI (dg V.n k c))) 52 22 (iI (bS (fun j => c ≤ j ∧ dg V.n k j ≠ 2) V.n))) (by omega) (by rw [w_ne (by omega), w_ne (by omega)]; exact hr) (fun j h1 h2 => by
      rw [w_ne (by omega)]
      by_cases e : j = c
      · rw [e, w_at]
      · rw [w_nk e]; exact h64 j (by omega) h2) w_at
    refine ⟨M', v, ((eqs.rf.w (by unfold p64; omega)).w (by unfold p64; omega)).tr p1, p2', p4, fun d N xs => ?_⟩
    rw [show ((c + 1 : Nat) : Int) - 1 = (c : Int) by omega, b_225_1, if_neg (by rw [t_lt, show (0 : Int32).toInt = 0 from rfl, iI_to (by omega) (by omega)]; omega), ix_nat (by omega) (by omega), o_some, o_some, show (5 : Int32) = iI 5 from rfl, iI_rem (by omega) (by omega) (by omega) (by omega), iI_div (by omega) (by omega) (by omega) (by omega), show (w : Int).tmod 5 = ((w % 5 : Nat) : Int) from rfl, show (w : Int).tdiv 5 = ((w / 5 : Nat) : Int) from rfl, e1, e2, w_at, w_ne (by omega : (52 : Nat) ≠ 64), h22]
    by_cases q : dg V.n k c = 2
    · rw [if_pos q] at eset
      rw [if_pos (by rw [q]; rfl), b_225_3, show (0 : Int32) = iI ((0 : Nat) : Int) from rfl, iN_or (by omega) (by omega), Nat.or_zero, eset, show (-1 : Int32) = iI (-1) from rfl, iI_add]
      exact p3 d N xs
    · rw [if_neg q] at eset
      rw [if_neg (by rw [t_eq, show (2 : Int32).toInt = 2 from rfl, iI_to (by omega) (by omega)]; omega), b_225_2, b_225_3, iN_shl (by omega), iN_or (by omega) (by omega), eset, show (-1 : Int32) = iI (-1) from rfl, iI_add]
      exact p3 d N xs
theorem x_225 (M : Nat → Nat → Int32) (hk : Vk V) (hr : Rv V (M 53) 0) (N9 : Nat) (hct : CT V N9 36 M) (k : Nat) (hk5 : k < 1000000) : ∃ M', eqs M M' p64 ∧ M' 52 22 = iI (tS (dg V.n k) V.n) ∧ zc 2 225 [.ref 52, .int (iI k)] M L (some (.int (b2 (feK V N9 k)))) M' L := by
  have hn := hk.n
  have hz : bS (fun j => V.n ≤ j ∧ dg V.n k j ≠ 2) V.n = 0 := by
    apply Nat.eq_of_testBit_eq
    intro m
    rw [Bool.eq_iff_iff, bS_bit, Nat.zero_testBit]
    constructor
    · rintro ⟨a, b, _⟩; omega
    · intro h; cases h
  have e0 : M 53 0 = iI V.n := hr.n
  obtain ⟨M', v, p1, p2', p4, p3⟩ := l_225a L hk k hk5 V.n (zz_wI M 52 22 (iI 0)) (Nat.le_refl _) (by rw [w_ne (by omega)]; exact hr) (fun j h1 h2 => by omega) (by rw [w_at, hz]; rfl)
  have e1 : eqs M M' p64 := (eqs.rf.w (by unfold p64; omega)).tr p1
  have e53 : M' 53 = M 53 := e1.col 53 (fun k => ⟨by omega, Or.inl (by omega)⟩)
  have e63 : M' 63 = M 63 := e1.col 63 (fun k => ⟨by omega, Or.inl (by omega)⟩)
  refine ⟨M', e1, p4, zc_of (n := 1) (ls := [some (.ref 52), some (.int (iI k)), none, none, none, none]) mk_225 rfl rfl rfl rfl (fun d hd N xs => ?_)⟩
  have h := p3 d N xs
  rw [Nat.sub_self, Nat.pow_zero, Nat.div_one] at h
  have hl := l_225 M' L (d := d) N xs V hk (by rw [e53]; exact hr) N9 (fun a b h1 h2 h3 c hc => by rw [e63]; exact hct a b h1 h2 h3 c hc) (dg V.n k) (dg_lt V.n k) p2' (iI k) v V.n 0 none (by omega)
  have hz1 : cZ (bd V N9 (dg V.n k)) (7 * 0 + 1) = 0 := cZ_eq (e := 0) (fun x hx => bd_no (fun h => by have h1 := h.1; have h2 := h.2; omega))
  rw [b2_t hz1] at hl
  rw [b_225_0, w_ne (by omega : (53 : Nat) ≠ 52), e0, show (1 : Int32) = iI 1 from rfl, iI_sub]
  refine Eq.trans h ?_
  rw [b_225_4]
  exact hl
end ZL
section ZR
variable (M : Nat → Nat → Int32) (L : Nat → Nat → Int64)
theorem s_226 (V : Vw) (hk : Vk V) (hr : Rv V (M 53) 0) : zc 1 226 [.ref 52] M L (some (.int (iI ((5 ^ V.n : Nat) : Int)))) M L := by
  refine zc_of (n := 0) (ls := [some (.ref 52), none, none]) mk_226 rfl rfl rfl rfl (fun d hd N xs => ?_)
  have hn := hk.n
  have e0 : M 53 0 = iI V.n := hr.n
  rw [b_226_0]
  have hl := upto (fun k : Nat => zz_X (zz_call_ d) tb_226 1 [some (.ref 52), some (.int (iI ((5 ^ k : Nat) : Int))), some (.int (iI k))] [] (zm N xs M L)) V.n (fun k hk6 => by
    show zz_X (zz_call_ d) tb_226 1 _ _ _ = zz_X (zz_call_ d) tb_226 1 _ _ _
    rw [b_226_1, e0, if_neg (by rw [t_le, iI_to (by omega) (by omega), iI_to (by omega) (by omega)]; omega), show (5 : Int32) = iI 5 from rfl, show (1 : Int32) = iI 1 from rfl, iI_mul, iI_add, show ((5 ^ k : Nat) : Int) * 5 = ((5 ^ (k + 1) : Nat) : Int) by rw [Nat.pow_succ]; omega]
    rfl)
  refine Eq.trans hl ?_
  show zz_X (zz_call_ d) tb_226 1 _ _ _ = _
  rw [b_226_1, e0, if_pos (by rw [t_le]; omega), b_226_2]
theorem g_226 (V : Vw) (hk : Vk V) (hr : Rv V (M 53) 0) {d N : Nat} {xs : Nat → Int32} {tb_ : List zz_B} {t_ : Nat} {ls_ : zz_L} {rest_ : List Value} (hd_ : 1 ≤ d) : (zz_o (zz_call_ d 226 [.ref 52] (zm N xs M L)) fun r => zz_X (zz_call_ d) tb_ t_ ls_ (r.1.toList ++ rest_) r.2) = zz_X (zz_call_ d) tb_ t_ ls_ ((.int (iI ((5 ^ V.n : Nat) : Int))) :: rest_) (zm N xs M L) := (s_226 M L V hk hr).go hd_
end ZR
def p80 (c k : Nat) : Prop := c ≠ 43 ∧ c ≠ 44 ∧ (c ≠ 38 ∨ (k ≠ 7 ∧ k ≠ 8))
theorem x_80 {V : Vw} {M : Nat → Nat → Int32} (L : Nat → Nat → Int64) (hk : Vk V) (N9 f : Nat) (hf : f < 2) (hp : Kp V N9 M) : ∃ M', eqs M M' p80 ∧ M' 38 8 = iI (bc (coK V f) (fo (feK V N9) (coK V f) (5 ^ V.n) 0 none)) ∧ (∀ k, fo (feK V N9) (coK V f) (5 ^ V.n) 0 none = some k → ∀ j, j < V.n → M' 44 j = iI ((dg V.n k j : Int) - 2)) ∧ zc 12 80 [.ref 38, .int (iI f)] M L (some (.int (b2 (fo (feK V N9) (coK V f) (5 ^ V.n) 0 none ≠ none)))) M' L := by
  have hn := hk.n
  have e1 : eqs M (zz_wI (zz_wI M 38 7 (iI f)) 38 8 (iI 1073741824)) p80 := (eqs.rf.w (by unfold p80; omega)).w (by unfold p80; omega)
  have hp1 : Kp V N9 (zz_wI (zz_wI M 38 7 (iI f)) 38 8 (iI 1073741824)) := by
    obtain ⟨h1, h2, h3⟩ := hp
    exact ⟨by rw [w_nk (by omega), w_nk (by omega)]; exact h1, fun x hx => by rw [w_ne (by omega), w_ne (by omega)]; exact h2 x hx, fun i hi => by rw [w_ne (by omega), w_ne (by omega)]; exact h3 i hi⟩
  have fin : ∀ (M' : Nat → Nat → Int32) (o : Option Nat), M' 38 8 = iI (bc (coK V f) o) → ∀ (d N : Nat) (xs : Nat → Int32), zz_X (zz_call_ d) tb_80 2 [some (.ref 38), some (.int (iI f))] [] (zm N xs M' L) = some (some (.int (b2 (o ≠ none))), zm N xs M' L) := by
    intro M' o h8 d N xs
    rw [b_80_2, h8]
    cases o with
    | none =>
      rw [if_pos (show iI ((bc (coK V f) none : Nat) : Int) = (1073741824 : Int32) from rfl), b_80_3, b_80_4, if_pos (Or.inl rfl), b2_f (fun e => e rfl)]
      rfl
    | some k =>
      have hc := cs_lt hk hf (dg V.n k) hn
      have hc2 : bc (coK V f) (some k) < 10000 := hc
      rw [if_neg (by rw [t_eq, show (1073741824 : Int32).toInt = 1073741824 from rfl, iI_to (by omega) (by omega)]; omega), b_80_4, if_pos (Or.inr rfl), b2_t (fun e => by cases e)]
      rfl
  have hcb := cZ_le (dmP V N9) 36
  by_cases q : cZ (dmP V N9) 36 = 0
  · obtain ⟨M', r1, r2, r3, r4⟩ := x_81 L hk N9 f hf V.n 0 (fun _ => 0) none (zz_wI (zz_wI M 38 7 (iI f)) 38 8 (iI 1073741824)) (by omega) (fun _ => by omega) ⟨hp1, by rw [w_nk (by omega), w_at], w_at, fun j hj => by omega, fun k hk => by cases hk⟩ (fun a b h1 h2 => by omega)
    rw [show cd (fun _ => 0) 0 * 5 ^ V.n = 0 from Nat.zero_mul _] at r2 r3
    refine ⟨M', e1.tr (r1.im (fun c k h => by unfold p80 at h; unfold pS; omega)), r2, r3, zc_of (n := 11) (ls := [some (.ref 38), some (.int (iI f))]) mk_80 rfl rfl rfl rfl (fun d hd N xs => ?_)⟩
    rw [b_80_0, if_pos (by rcases (by omega : f = 0 ∨ f = 1) with e | e <;> rw [e]; exact Or.inl rfl; exact Or.inr rfl), show (1073741824 : Int32) = iI 1073741824 from rfl, g_76 _ L V N9 hp1 (by omega), q, b_80_1, if_pos (show iI ((0 : Nat) : Int) = (0 : Int32) from rfl)]
    refine Eq.trans (r4.gov (by omega)) ?_
    exact fin M' _ r2 d N xs
  · have ez : fo (feK V N9) (coK V f) (5 ^ V.n) 0 none = none := fo_no _ _ (fun x _ _ he => by
      obtain ⟨y, hy, hd⟩ := (cZ_pos (p := dmP V N9) (n := 36)).1 (by omega)
      have hd' : bX V N9 y = 511 := hd
      unfold bX at hd'
      by_cases qp : pr V.n y
      · rw [if_pos qp, br_511] at hd'
        have h5a := dg_lt V.n x (y % 6)
        have h5b := dg_lt V.n x (y / 6)
        have := hd' (dg V.n x (y % 6) + 4 - dg V.n x (y / 6)) (by omega)
        rw [show ((dg V.n x (y % 6) + 4 - dg V.n x (y / 6) : Nat) : Int) - 4 = (dg V.n x (y % 6) : Int) - (dg V.n x (y / 6) : Int) by omega] at this
        exact absurd he.1 (bd_x hk qp.1 qp.2 this)
      · rw [if_neg qp] at hd'; omega)
    rw [ez]
    refine ⟨zz_wI (zz_wI M 38 7 (iI f)) 38 8 (iI 1073741824), e1, w_at, (fun k hk => by cases hk), zc_of (n := 11) (ls := [some (.ref 38), some (.int (iI f))]) mk_80 rfl rfl rfl rfl (fun d hd N xs => ?_)⟩
    rw [b_80_0, if_pos (by rcases (by omega : f = 0 ∨ f = 1) with e | e <;> rw [e]; exact Or.inl rfl; exact Or.inr rfl), show (1073741824 : Int32) = iI 1073741824 from rfl, g_76 _ L V N9 hp1 (by omega), b_80_1, if_neg (by rw [t_eq, show (0 : Int32).toInt = 0 from rfl, iI_to (by omega) (by omega)]; omega)]
    exact fin _ none w_at d N xs

/-! Keeper: who meets whom by which shift. -/
abbrev mS (s t : Nat) (g : Int) : Prop := g % 60 < s ∨ 60 - g % 60 < t
theorem mS_met {a b g : Int} {s t : Nat} (h : (b - a) % 60 = g % 60) : met a s b t ↔ mS s t g := by
  unfold met mS
  rw [h]
abbrev cq (V : Vw) (i j : Nat) (sh : Int) (k : Nat) : Prop := mS (span (V.kind i)) (span (V.kind j)) (V.minAt j k - V.minAt i k + sh)
abbrev clq (V : Vw) (i j : Nat) (sh : Int) (N : Nat) : Prop := 0 < cZ (cq V i j sh) N
def gp (V : Vw) (i j k : Nat) : Nat := ((V.minAt j k - V.minAt i k) % 60).toNat
def gB (V : Vw) (i j : Nat) : Nat → Nat
  | 0 => 0
  | k + 1 => gB V i j k ||| (1 <<< gp V i j k)
theorem gp_lt (V : Vw) (i j k : Nat) : gp V i j k < 60 := by unfold gp; omega
theorem gB_lt (V : Vw) (i j : Nat) : ∀ k, gB V i j k < 2 ^ 60
  | 0 => by show 0 < 2 ^ 60; omega
  | k + 1 => by
    apply Nat.or_lt_two_pow (gB_lt V i j k)
    rw [Nat.one_shiftLeft]
    exact Nat.pow_lt_pow_right (by omega) (gp_lt V i j k)
theorem gB_bit (V : Vw) (i j m : Nat) : ∀ N, (gB V i j N).testBit m = true ↔ ∃ k, k < N ∧ gp V i j k = m
  | 0 => by
    show (0 : Nat).testBit m = true ↔ _
    rw [Nat.zero_testBit]
    constructor
    · intro h; cases h
    · rintro ⟨k, hk, _⟩; omega
  | N + 1 => by
    show (gB V i j N ||| (1 <<< gp V i j N)).testBit m = true ↔ _
    rw [Nat.testBit_or, Bool.or_eq_true, gB_bit V i j m N, one_bit]
    constructor
    · rintro (⟨k, hk, h⟩ | h)
      · exact ⟨k, by omega, h⟩
      · exact ⟨N, by omega, h.symm⟩
    · rintro ⟨k, hk, h⟩
      by_cases e : k = N
      · subst e; exact Or.inr h.symm
      · exact Or.inl ⟨k, by omega, h⟩
def br (V : Vw) (i j N : Nat) : Nat := bS (fun x : Nat => clq V i j ((x : Int) - 4) N) 9
theorem bar_iff {V : Vw} {i j N x : Nat} (hx : x < 9) : tn (gB V i j N) ((((x : Int) - 4) % 60).toNat) &&& rg (((1 - (span (V.kind j) : Int)) % 60).toNat) (span (V.kind i) + span (V.kind j) - 1) ≠ 0 ↔ clq V i j ((x : Int) - 4) N := by
  have h1 := span_b (V.kind i)
  have h2 := span_b (V.kind j)
  have hs : (((x : Int) - 4) % 60).toNat < 60 := by omega
  rw [and_ne]
  show _ ↔ 0 < cZ (cq V i j ((x : Int) - 4)) N
  rw [cZ_pos]
  constructor
  · rintro ⟨m, b1, b2⟩
    rw [tn_bit (gB_lt V i j N) hs, Bool.and_eq_true, decide_eq_true_eq, gB_bit] at b1
    rw [rg_bit (by omega) (by omega), Bool.and_eq_true, decide_eq_true_eq, decide_eq_true_eq] at b2
    obtain ⟨k, hk, hg⟩ := b1.2
    refine ⟨k, hk, ?_⟩
    unfold gp at hg
    show (V.minAt j k - V.minAt i k + ((x : Int) - 4)) % 60 < span (V.kind i) ∨ 60 - (V.minAt j k - V.minAt i k + ((x : Int) - 4)) % 60 < span (V.kind j)
    generalize V.minAt j k - V.minAt i k = w at *
    generalize span (V.kind i) = s at *
    generalize span (V.kind j) = t at *
    omega
  · rintro ⟨k, hk, hm⟩
    have hm' : (V.minAt j k - V.minAt i k + ((x : Int) - 4)) % 60 < span (V.kind i) ∨ 60 - (V.minAt j k - V.minAt i k + ((x : Int) - 4)) % 60 < span (V.kind j) := hm
    refine ⟨((V.minAt j k - V.minAt i k + ((x : Int) - 4)) % 60).toNat, ?_, ?_⟩
    · rw [tn_bit (gB_lt V i j N) hs, Bool.and_eq_true, decide_eq_true_eq, gB_bit]
      refine ⟨by omega, k, hk, ?_⟩
      unfold gp
      omega
    · rw [rg_bit (by omega) (by omega), Bool.and_eq_true, decide_eq_true_eq, decide_eq_true_eq]
      generalize V.minAt j k - V.minAt i k = w at *
      generalize span (V.kind i) = s at *
      generalize span (V.kind j) = t at *
      omega
abbrev pr (n x : Nat) : Prop := x / 6 < x % 6 ∧ x % 6 < n
def gX (V : Vw) (k b : Nat) : Nat → Int64 := fun x => if pr V.n x then lI (gB V (x / 6) (x % 6) (if x < b then k + 1 else k)) else lI 0
theorem gX_in {V : Vw} {k i j : Nat} (hij : i < j) (hj : j < V.n) (h6 : V.n ≤ 6) : gX V k (6 * i + j) (6 * i + j) = lI (gB V i j k) := by
  unfold gX
  rw [if_pos (by show (6 * i + j) / 6 < (6 * i + j) % 6 ∧ (6 * i + j) % 6 < V.n; omega), if_neg (Nat.lt_irrefl _), show (6 * i + j) / 6 = i by omega, show (6 * i + j) % 6 = j by omega]
theorem sL_u {L : Nat → Nat → Int64} {c n x : Nat} {f g : Nat → Int64} {v : Int64} (hx : x < n) (h : ∀ y, y < n → g y = if y = x then v else f y) : zz_wL (sL L c f n) c x v = sL L c g n := by
  funext b j
  unfold zz_wL sL zz_rL vp_updL
  by_cases q : b = c
  · subst q
    simp only [if_true]
    by_cases q2 : j = x
    · subst q2; rw [if_pos rfl, if_pos hx, h j hx, if_pos rfl]
    · rw [if_neg q2]
      by_cases q3 : j < n
      · rw [if_pos q3, if_pos q3, h j q3, if_neg q2]
      · rw [if_neg q3, if_neg q3]
  · simp [q]
theorem sL_cg {L : Nat → Nat → Int64} {c n : Nat} {f g : Nat → Int64} (h : ∀ y, y < n → f y = g y) : sL L c f n = sL L c g n := by
  unfold sL
  congr 1
  funext j
  by_cases q : j < n
  · rw [if_pos q, if_pos q, h j q]
  · rw [if_neg q, if_neg q]
theorem sI_cg {M : Nat → Nat → Int32} {c n : Nat} {f g : Nat → Int32} (h : ∀ y, y < n → f y = g y) : sI M c f n = sI M c g n := by
  unfold sI
  congr 1
  funext j
  by_cases q : j < n
  · rw [if_pos q, if_pos q, h j q]
  · rw [if_neg q, if_neg q]
theorem sI_u {M : Nat → Nat → Int32} {c n x : Nat} {f g : Nat → Int32} {v : Int32} (hx : x < n) (h : ∀ y, y < n → g y = if y = x then v else f y) : zz_wI (sI M c f n) c x v = sI M c g n := by
  funext b j
  rw [w_val]
  unfold sI
  rw [rr_val, rr_val]
  by_cases q : b = c
  · subst q
    rw [if_pos rfl, if_pos rfl]
    by_cases q2 : j = x
    · subst q2; rw [if_pos ⟨rfl, rfl⟩, if_pos hx, h j hx, if_pos rfl]
    · rw [if_neg (by omega)]
      by_cases q3 : j < n
      · rw [if_pos q3, if_pos q3, h j q3, if_neg q2]
      · rw [if_neg q3, if_neg q3]
  · rw [if_neg (by omega), if_neg q, if_neg q]
theorem gX_cg {V : Vw} {k b b' x : Nat} (h : pr V.n x → (x < b ↔ x < b')) : gX V k b x = gX V k b' x := by
  unfold gX
  by_cases q : pr V.n x
  · rw [if_pos q, if_pos q]
    have := h q
    by_cases e : x < b
    · rw [if_pos e, if_pos (this.1 e)]
    · rw [if_neg e, if_neg (fun a => e (this.2 a))]
  · rw [if_neg q, if_neg q]
def p39 (c _k : Nat) : Prop := c < 38 ∨ 44 < c
section ZR
variable (M : Nat → Nat → Int32) (L : Nat → Nat → Int64)
theorem l_73j {d : Nat} (hd : 1 ≤ d) (N : Nat) (xs : Nat → Int32) (V : Vw) (hk : Vk V) (k : Nat) (w2 w3 : Int32) (h6 : M 38 6 = iI V.n) (h39 : ∀ i, i < V.n → M 39 i = iI (V.minAt i k)) (i : Nat) : ∀ c j : Nat, j + c = V.n → i < j → zz_X (zz_call_ d) tb_73 5 [some (.ref 38), some (.ref 23), some (.int w2), some (.int w3), some (.int (iI i)), some (.int (iI j))] [] (zm N xs M (sL L 41 (gX V k (6 * i + j)) 36)) = zz_X (zz_call_ d) tb_73 4 [some (.ref 38), some (.ref 23), some (.int w2), some (.int w3), some (.int (iI ((i + 1 : Nat) : Int))), some (.int (iI V.n))] [] (zm N xs M (sL L 41 (gX V k (6 * i + V.n)) 36))
  | 0, j, hc, hij => by
    have hn := hk.n
    rw [b_73_5, h6, if_pos (by rw [t_le, iI_to (by omega) (by omega), iI_to (by omega) (by omega)]; omega), b_73_7, show (1 : Int32) = iI 1 from rfl, iI_add, show j = V.n by omega]
    rfl
  | c + 1, j, hc, hij => by
    have hn := hk.n
    have hi := minAt_b V i k
    have hj := minAt_b V j k
    have hg := gp_lt V i j k
    have hl := gB_lt V i j k
    have e1 : (((V.minAt j k - V.minAt i k) % 60 : Int)) = ((gp V i j k : Nat) : Int) := by unfold gp; omega
    have hsh : (1 <<< gp V i j k : Nat) < 2 ^ 60 := by rw [Nat.one_shiftLeft]; exact Nat.pow_lt_pow_right (by omega) hg
    have eu : zz_wL (sL L 41 (gX V k (6 * i + j)) 36) 41 (6 * i + j) (lI (gB V i j k ||| (1 <<< gp V i j k) : Nat)) = sL L 41 (gX V k (6 * i + (j + 1))) 36 := sL_u (by omega) (fun y hy => by
      by_cases q : y = 6 * i + j
      · rw [if_pos q, q]
        unfold gX
        rw [if_pos (by show (6 * i + j) / 6 < (6 * i + j) % 6 ∧ (6 * i + j) % 6 < V.n; omega), if_pos (by omega), show (6 * i + j) / 6 = i by omega, show (6 * i + j) % 6 = j by omega]
        rfl
      · rw [if_neg q]
        exact gX_cg (fun _ => by omega))
    rw [b_73_5, h6, if_neg (by rw [t_le, iI_to (by omega) (by omega), iI_to (by omega) (by omega)]; omega), show (6 : Int32) = iI 6 from rfl, iI_mul, iI_add, show (6 : Int) * (i : Int) + (j : Int) = ((6 * i + j : Nat) : Int) by omega, ix_nat (by omega) (by omega), o_some, ix_nat (by omega) (by omega), o_some, ix_nat (by omega) (by omega), o_some, h39 j (by omega), h39 i (by omega), iI_sub, g_153 _ _ _ (by omega) (by omega) (by omega), e1, b_73_6, ix_nat (by omega) (by omega), o_some, sL_in (by omega), gX_in hij (by omega) hn, k63 _ (by omega), lN_shl1 (by omega), lN_or (by omega) (by omega), eu, show (1 : Int32) = iI 1 from rfl, iI_add]
    exact l_73j hd N xs V hk k w2 w3 h6 h39 i c (j + 1) (by omega) (by omega)
theorem l_73 {d : Nat} (hd : 1 ≤ d) (N : Nat) (xs : Nat → Int32) (V : Vw) (hk : Vk V) (k : Nat) (w2 w3 : Int32) (h6 : M 38 6 = iI V.n) (h39 : ∀ i, i < V.n → M 39 i = iI (V.minAt i k)) : ∀ (c i : Nat) (o : Option Value), i + c = V.n → zz_X (zz_call_ d) tb_73 4 [some (.ref 38), some (.ref 23), some (.int w2), some (.int w3), some (.int (iI i)), o] [] (zm N xs M (sL L 41 (gX V k (7 * i + 1)) 36)) = some (none, zm N xs M (sL L 41 (gX V k 36) 36))
  | 0, i, o, hc => by
    have hn := hk.n
    rw [b_73_4, h6, if_pos (by rw [t_le, iI_to (by omega) (by omega), iI_to (by omega) (by omega)]; omega), b_73_8, sL_cg (f := gX V k (7 * i + 1)) (g := gX V k 36) (fun y hy => gX_cg (fun h => by have h1 := h.1; have h2 := h.2; omega))]
  | c + 1, i, o, hc => by
    have hn := hk.n
    have hj := l_73j M L hd N xs V hk k w2 w3 h6 h39 i (V.n - (i + 1)) (i + 1) (by omega) (by omega)
    rw [show 6 * i + (i + 1) = 7 * i + 1 by omega] at hj
    rw [b_73_4, h6, if_neg (by rw [t_le, iI_to (by omega) (by omega), iI_to (by omega) (by omega)]; omega), show (1 : Int32) = iI 1 from rfl, iI_add]
    refine Eq.trans hj ?_
    rw [sL_cg (f := gX V k (6 * i + V.n)) (g := gX V k (7 * (i + 1) + 1)) (fun y hy => gX_cg (fun h => by have h1 := h.1; have h2 := h.2; omega))]
    exact l_73 hd N xs V hk k w2 w3 h6 h39 c (i + 1) _ (by omega)
theorem s_73 (V : Vw) (hk : Vk V) (hv : Hv V M) (k : Nat) (hk4 : k ≤ 420) (h6 : M 38 6 = iI V.n) (G : Nat → Nat → Int64) (hG : L = sL G 41 (gX V k 0) 36) : zc 4 73 [.ref 38, .ref 23, .int (iI k), .int (iI (V.warm k))] M L none (sI M 39 (fun i => iI (V.minAt i k)) V.n) (sL G 41 (gX V (k + 1) 0) 36) := by
  refine zc_of (n := 3) (ls := [some (.ref 38), some (.ref 23), some (.int (iI k)), some (.int (iI (V.warm k))), none, none]) mk_73 rfl rfl rfl rfl (fun d hd N xs => ?_)
  have hn := hk.n
  rw [b_73_0]
  have hl := upto (fun i : Nat => zz_X (zz_call_ d) tb_73 1 [some (.ref 38), some (.ref 23), some (.int (iI k)), some (.int (iI (V.warm k))), some (.int (iI i)), none] [] (zm N xs (sI M 39 (fun i => iI (V.minAt i k)) i) L)) V.n (fun i hi => by
    show zz_X (zz_call_ d) tb_73 1 _ _ _ = zz_X (zz_call_ d) tb_73 1 _ _ _
    have hv2 : Hv V (sI M 39 (fun i => iI (V.minAt i k)) i) := hv.cg (eqs.rf.r (by unfold pH; omega))
    rw [b_73_1, sI_ne (by omega : (38 : Nat) ≠ 39), h6, if_neg (by rw [t_le, iI_to (by omega) (by omega), iI_to (by omega) (by omega)]; omega), g_44V _ L V hk hv2 i k hi (by omega) (by omega), b_73_2, ix_nat (by omega) (by omega), o_some, sI_s M 39 (fun i => iI (V.minAt i k)) i, show (1 : Int32) = iI 1 from rfl, iI_add]
    rfl)
  simp only [sI_0] at hl
  refine Eq.trans hl ?_
  rw [b_73_1, sI_ne (by omega : (38 : Nat) ≠ 39), h6, if_pos (by rw [t_le]; omega), b_73_3]
  have hm := l_73 (sI M 39 (fun i => iI (V.minAt i k)) V.n) G (d := d) (by omega) N xs V hk k (iI k) (iI (V.warm k)) (by rw [sI_ne (by omega)]; exact h6) (fun i hi => sI_in hi) V.n 0 none (by omega)
  rw [sL_cg (f := gX V k (7 * 0 + 1)) (g := gX V k 0) (fun y hy => gX_cg (fun h => by have h1 := h.1; have h2 := h.2; omega)), ← hG, sL_cg (f := gX V k 36) (g := gX V (k + 1) 0) (fun y hy => by
    unfold gX
    by_cases q : pr V.n y
    · rw [if_pos q, if_pos q, if_pos hy, if_neg (by omega)]
    · rw [if_neg q, if_neg q])] at hm
  exact hm
theorem g_73 (V : Vw) (hk : Vk V) (hv : Hv V M) (k : Nat) (hk4 : k ≤ 420) (h6 : M 38 6 = iI V.n) (G : Nat → Nat → Int64) (hG : L = sL G 41 (gX V k 0) 36) {d N : Nat} {xs : Nat → Int32} {tb_ : List zz_B} {t_ : Nat} {ls_ : zz_L} {rest_ : List Value} (hd_ : 4 ≤ d) : (zz_o (zz_call_ d 73 [.ref 38, .ref 23, .int (iI k), .int (iI (V.warm k))] (zm N xs M L)) fun r => zz_X (zz_call_ d) tb_ t_ ls_ (r.1.toList ++ rest_) r.2) = zz_X (zz_call_ d) tb_ t_ ls_ rest_ (zm N xs (sI M 39 (fun i => iI (V.minAt i k)) V.n) (sL G 41 (gX V (k + 1) 0) 36)) := (s_73 M L V hk hv k hk4 h6 G hG).gov hd_
theorem s_74 (V : Vw) (i j N9 : Nat) : zc 3 74 [.long (lI (gB V i j N9)), .int (iI (span (V.kind i))), .int (iI (span (V.kind j)))] M L (some (.int (iI (br V i j N9)))) M L := by
  refine zc_of (n := 2) (ls := [some (.long (lI (gB V i j N9))), none, some (.int (iI (span (V.kind i)))), some (.int (iI (span (V.kind j)))), none, none, none, none]) mk_74 rfl rfl rfl rfl (fun d hd N xs => ?_)
  have h1 := span_b (V.kind i)
  have h2 := span_b (V.kind j)
  have hgl := gB_lt V i j N9
  obtain ⟨u, hu⟩ : ∃ u : Nat, (1 - (span (V.kind j) : Int)) % 60 = u := ⟨((1 - (span (V.kind j) : Int)) % 60).toNat, by omega⟩
  rw [b_74_0, show (1 : Int32) = iI 1 from rfl, iI_sub, g_153 M L _ (by omega) (by omega) (by omega), hu, b_74_1, show (1 : Int32) = iI 1 from rfl, iI_add, iI_sub, show (span (V.kind i) : Int) + (span (V.kind j) : Int) - 1 = ((span (V.kind i) + span (V.kind j) - 1 : Nat) : Int) by omega, g_154 M L u _ (by omega) (by omega) (by omega), b_74_2]
  have hml := tn_lt (2 ^ (span (V.kind i) + span (V.kind j) - 1) - 1) u
  have hl := upto (fun x : Nat => zz_X (zz_call_ d) tb_74 3 [some (.long (lI (gB V i j N9))), none, some (.int (iI (span (V.kind i)))), some (.int (iI (span (V.kind j)))), some (.long (lI (rg u (span (V.kind i) + span (V.kind j) - 1)))), none, some (.int (iI (bS (fun x : Nat => clq V i j ((x : Int) - 4) N9) x))), some (.int (iI ((x : Int) - 4)))] [] (zm N xs M L)) 9 (fun x hx => by
    show zz_X (zz_call_ d) tb_74 3 _ _ _ = zz_X (zz_call_ d) tb_74 3 _ _ _
    obtain ⟨r, hr⟩ : ∃ r : Nat, ((x : Int) - 4) % 60 = r := ⟨(((x : Int) - 4) % 60).toNat, by omega⟩
    have hb1 := bS_l10 (fun x : Nat => clq V i j ((x : Int) - 4) N9) (n := x) (by omega)
    have hs := sh_l10 (j := x) (by omega)
    have es : bS (fun x : Nat => clq V i j ((x : Int) - 4) N9) (x + 1) = if clq V i j ((x : Int) - 4) N9 then bS (fun x : Nat => clq V i j ((x : Int) - 4) N9) x ||| (1 <<< x) else bS (fun x : Nat => clq V i j ((x : Int) - 4) N9) x := rfl
    have hz := lgz (a := tn (gB V i j N9) r) (b := rg u (span (V.kind i) + span (V.kind j) - 1)) (tn_lt _ _) hml
    have hbi := bar_iff (V := V) (i := i) (j := j) (N := N9) hx
    rw [hr, hu, Int.toNat_natCast, Int.toNat_natCast] at hbi
    rw [b_74_3, if_neg (by rw [t_lt, show (4 : Int32).toInt = 4 from rfl, iI_to (by omega) (by omega)]; omega), g_153 M L _ (by omega) (by omega) (by omega), hr, b_74_4, g_155 M L _ r hgl (by omega) (by omega), b_74_5]
    by_cases q : clq V i j ((x : Int) - 4) N9
    · rw [if_neg (fun e => hz.1 e (hbi.2 q)), show (4 : Int32) = iI 4 from rfl, iI_add, show (x : Int) - 4 + 4 = ((x : Nat) : Int) by omega, iN_shl (by omega), iN_or (by omega) (by omega), b_74_6, es, if_pos q, show (1 : Int32) = iI 1 from rfl, iI_add, show (x : Int) - 4 + 1 = ((x + 1 : Nat) : Int) - 4 by omega]
    · rw [if_pos (hz.2 (fun e => q (hbi.1 e))), b_74_6, es, if_neg q, show (1 : Int32) = iI 1 from rfl, iI_add, show (x : Int) - 4 + 1 = ((x + 1 : Nat) : Int) - 4 by omega])
  refine Eq.trans hl ?_
  show zz_X (zz_call_ d) tb_74 3 _ _ _ = _
  rw [b_74_3, if_pos (by rw [t_lt, show (4 : Int32).toInt = 4 from rfl, iI_to (by omega) (by omega)]; omega), b_74_7]
  rfl
theorem g_74 (V : Vw) (i j N9 : Nat) {d N : Nat} {xs : Nat → Int32} {tb_ : List zz_B} {t_ : Nat} {ls_ : zz_L} {rest_ : List Value} (hd_ : 3 ≤ d) : (zz_o (zz_call_ d 74 [.long (lI (gB V i j N9)), .int (iI (span (V.kind i))), .int (iI (span (V.kind j)))] (zm N xs M L)) fun r => zz_X (zz_call_ d) tb_ t_ ls_ (r.1.toList ++ rest_) r.2) = zz_X (zz_call_ d) tb_ t_ ls_ ((.int (iI (br V i j N9))) :: rest_) (zm N xs M L) := (s_74 M L V i j N9).go hd_
end ZR

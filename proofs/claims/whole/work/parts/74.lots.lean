/-! lots, of both. -/
def lotN (x : Nat) : Nat := x * 48271 % 2147483647
abbrev lotT (W : Vw) (x : Nat) : Prop := ¬ W.tset.testBit (x % W.n) = true ∧ x / 8 % 2 = 0
def lotS (V : Vw) : Nat → Nat → (Nat → Nat) × Nat → (Nat → Nat) × Nat
  | 0, _, s => s
  | c + 1, x, s => lotS V c (lotN x) (if lotT (V.run s.1 s.2) (lotN x) then (dup (dup s.1 s.2 (16 * (lotN x % (V.run s.1 s.2).n) + 7)) (s.2 + 1) 0, s.2 + 1 + 1) else (dup s.1 s.2 0, s.2 + 1))
def agX (M W : Nat → Nat → Int32) : Prop := ∀ c, 23 ≤ c → c ≤ 35 → M c = W c
def agR (M W : Nat → Nat → Int32) : Prop := M 52 1 = W 52 1 ∧ M 53 = W 53 ∧ M 54 = W 54
def frX (M M' : Nat → Nat → Int32) : Prop := ∀ p : Nat → Nat → Prop, (∀ k, ¬ p 23 k) → (∀ k, ¬ p 29 k) → (∀ k, ¬ p 30 k) → eqs M M' p
def frR (M M' : Nat → Nat → Int32) : Prop := ∀ p : Nat → Nat → Prop, (∀ k, ¬ p 53 k) → ¬ p 52 1 → eqs M M' p
section ZA
variable {M M' W Wx Wr : Nat → Nat → Int32} {V : Vw} {D : Nat → Nat} {m : Nat} {K : Nat → Int} {E : Nat → Nat → Nat}
theorem HD.x1 (h : HD W V D m K E) (ag : agX M W) : Vk (V.run D m) ∧ Hv (V.run D m) M ∧ M 23 13 = iI m := by
  have hv : Hv (V.run D m) W := h.2.2.2.2.2.2.2.2.1
  have h13 : W 23 13 = iI m := h.2.2.2.2.1
  exact ⟨h.nk, hv.c2 (fun c a b => ag c a b), by rw [ag 23 (by omega) (by omega)]; exact h13⟩
theorem HD.r1 (h : HD W V D m K E) (ag : agR M W) : Vk (V.run D m) ∧ Rv (V.run D m) (M 53) 0 ∧ M 52 1 = iI m := by
  have hr : Rv (V.run D m) (W 53) 0 := h.2.2.2.2.2.2.2.2.2.1.2.2.1
  have h1 : W 52 1 = iI m := h.2.2.2.2.2.1
  exact ⟨h.nk, by rw [ag.2.1]; exact hr, by rw [ag.1]; exact h1⟩
theorem HD.mk2 (hx : HD Wx V D m K E) (hr : HD Wr V D m K E) (ax : agX M Wx) (ar : agR M Wr) : HD M V D m K E := by
  obtain ⟨h1, h2, h3, h4, h5, h6, h7, h8, h9, h10, h11⟩ := hx
  obtain ⟨g1, g2, g3, g4, g5, g6, g7, g8, g9, g10, g11⟩ := hr
  refine ⟨h1, h2, h3, rfl, ?_, ?_, ?_, ?_, h9.c2 (fun c a b => ax c a b), ?_, ?_⟩
  · rw [ax 23 (by omega) (by omega)]; exact h5
  · rw [ar.1]; exact g6
  · intro i hi; rw [ax 26 (by omega) (by omega)]; exact h7 i hi
  · intro i hi; rw [ax 30 (by omega) (by omega)]; exact h8 i hi
  · rw [ar.2.1]; exact g10
  · intro j hj
    obtain ⟨a1, a2, a3, a4, a5⟩ := h11 j hj
    obtain ⟨b1, b2, b3, b4, b5⟩ := g11 j hj
    refine ⟨?_, ?_, a3, a4, fun q => ⟨fun k hk => ?_, ?_⟩⟩
    · rw [ax 35 (by omega) (by omega)]; exact a1
    · rw [ar.2.2]; exact b2
    · rw [ax (32 + j) (by omega) (by omega)]; exact (a5 q).1 k hk
    · rw [ar.2.1]; exact (b5 q).2
theorem HD.day (h : HD W V D m K E) (hm : m < 40) (hn : V.n ≠ 0) : HD (rwD (V.run D m) (pf (V.run D m) W m 0) m) V (dup D m 0) (m + 1) K E := by
  have hk := h.nk
  have hr : Rv (V.run D m) (W 53) 0 := h.2.2.2.2.2.2.2.2.2.1.2.2.1
  have e53 : pf (V.run D m) W m 0 53 = W 53 := pf_ne _ _ _ _ (by omega) (by omega) (by omega)
  refine HD.act (x := 0) h hm (Or.inl rfl) hn ?_ ?_ ?_ ?_ ?_ ?_
  · intro c c1 c2
    rw [rwD_ne (by omega) (by omega)]
  · rw [rwD_1]
  · rw [rwD_ne (by omega) (by omega), pf_ne _ _ _ _ (by omega) (by omega) (by omega)]
  · exact rwD_R hk (by rw [e53]; exact hr)
  · intro k hk40
    rw [rwD_53, if_neg (by omega), wP_out hk.n (by omega), e53, cp_in hk40]
  · intro k k1 k2 k3
    rw [rwD_53, if_neg (by omega), wP_out hk.n (by omega), e53, cp_out k3]
theorem HD.tch {i : Nat} (h : HD W V D m K E) (hm : m < 40) (hi : i < (V.run D m).n) : HD (rwT (V.run D m) (pf (V.run D m) W m (16 * i + 7)) m i 1) V (dup D m (16 * i + 7)) (m + 1) K E := by
  have hk := h.nk
  have hn6 := hk.n
  have hVn := run_n V D m
  have hr : Rv (V.run D m) (W 53) 0 := h.2.2.2.2.2.2.2.2.2.1.2.2.1
  have e53 : pf (V.run D m) W m (16 * i + 7) 53 = W 53 := pf_ne _ _ _ _ (by omega) (by omega) (by omega)
  refine HD.act (x := 16 * i + 7) h hm (Or.inr (by omega)) (by omega) ?_ ?_ ?_ ?_ ?_ ?_
  · intro c c1 c2
    rw [rwT_ne (by omega) (by omega)]
  · rw [rwT_1]
  · rw [rwT_ne (by omega) (by omega), pf_ne _ _ _ _ (by omega) (by omega) (by omega)]
  · exact rwT_R (y := 1) hk (by rw [e53]; exact hr) hi (by omega) (by omega)
  · intro k hk40
    rw [rwT_53, if_neg (by omega), if_neg (by omega), e53, cp_in hk40]
  · intro k k1 k2 k3
    rw [rwT_53, if_neg (by omega), if_neg (by omega), e53, cp_out k3]
theorem pf_ag {U : Vw} {x : Nat} (ag : agX M W) : agX (pf U M m x) (pf U W m x) := by
  intro c c1 c2
  have e1 := ag c c1 c2
  have e2 := ag 29 (by omega) (by omega)
  funext k
  unfold pf
  by_cases q : x = 0
  · rw [if_pos q, if_pos q]
    unfold pfD pw sI
    simp only [w_val, rr_val, e1, e2]
  · rw [if_neg q, if_neg q]
    unfold pfT pw
    simp only [w_val, e1]
theorem pfD_ag {U U' : Vw} (ag : agX M W) : agX (pf U M m 0) (rwD U' (pf U W m 0) m) := fun c c1 c2 => by
  rw [rwD_ne (by omega) (by omega)]
  exact pf_ag ag c c1 c2
theorem pfT_ag {U U' : Vw} {x i : Nat} {y : Int} (ag : agX M W) : agX (pf U M m x) (rwT U' (pf U W m x) m i y) := fun c c1 c2 => by
  rw [rwT_ne (by omega) (by omega)]
  exact pf_ag ag c c1 c2
theorem rwD_ag {U : Vw} {x : Nat} (ag : agR M W) : agR (rwD U M m) (rwD U (pf U W m x) m) := by
  refine ⟨by rw [rwD_1, rwD_1], ?_, by rw [rwD_ne (by omega) (by omega), rwD_ne (by omega) (by omega), pf_ne _ _ _ _ (by omega) (by omega) (by omega)]; exact ag.2.2⟩
  funext k
  rw [rwD_53, rwD_53, pf_ne _ _ _ _ (by omega) (by omega) (by omega), ag.2.1]
theorem rwT_ag {U : Vw} {x i : Nat} {y : Int} (ag : agR M W) : agR (rwT U M m i y) (rwT U (pf U W m x) m i y) := by
  refine ⟨by rw [rwT_1, rwT_1], ?_, by rw [rwT_ne (by omega) (by omega), rwT_ne (by omega) (by omega), pf_ne _ _ _ _ (by omega) (by omega) (by omega)]; exact ag.2.2⟩
  funext k
  rw [rwT_53, rwT_53, pf_ne _ _ _ _ (by omega) (by omega) (by omega), ag.2.1]
end ZA
theorem lotE {x : Nat} (hx : x < 2147483648) : (lg_cmp ((lI x / 8) - (lI x / 8) / 2 * 2) 0 = 0) ↔ x / 8 % 2 = 0 := by
  have e : (lI x / 8) - (lI x / 8) / 2 * 2 = lI ((x / 8 % 2 : Nat) : Int) := by
    rw [show (8 : Int64) = lI 8 from rfl, show (2 : Int64) = lI 2 from rfl, lI_div (by omega) (by omega) (by omega) (by omega), show (x : Int).tdiv 8 = ((x / 8 : Nat) : Int) from rfl, lI_rem (by omega) (by omega) (by omega) (by omega)]
    rfl
  rw [e, lI_0, lg_lI (by omega) (by omega) (by omega) (by omega)]
  by_cases q : x / 8 % 2 = 0
  · rw [q]
    simp
  · rw [if_pos (by omega)]
    constructor
    · intro h; exact absurd h (by decide)
    · intro h; exact absurd h q
theorem lotM {x : Nat} (hx : x < 2147483647) : (lI x * 48271) - (lI x * 48271) / 2147483647 * 2147483647 = lI (lotN x) := by
  rw [show (48271 : Int64) = lI 48271 from rfl, show (2147483647 : Int64) = lI 2147483647 from rfl, lI_mul, show (x : Int) * 48271 = ((x * 48271 : Nat) : Int) by omega, lI_rem (by omega) (by omega) (by omega) (by omega)]
  rfl
theorem lotN_lt (x : Nat) : lotN x < 2147483647 := Nat.mod_lt _ (by omega)
section ZR
variable (M : Nat → Nat → Int32) (L : Nat → Nat → Int64)
theorem s_54T (W : Vw) (hk : Vk W) (hv : Hv W M) (m x : Nat) (hm : m < 40) (h13 : M 23 13 = iI m) (hn0 : W.n ≠ 0) (hx : x < 2147483648) (hT : lotT W x) : zc 6 54 [.ref 23, .long (lI x)] M L none (pf W M m (16 * (x % W.n) + 7)) L := by
  refine zc_of (n := 5) (ls := [some (.ref 23), some (.long (lI x)), none, none]) mk_54 rfl rfl rfl rfl (fun d hd N xs => ?_)
  have hn := hk.n
  have hxn : x % W.n < W.n := Nat.mod_lt _ (by omega)
  have g := g_53 (d := d) (N := N) (xs := xs) (tb_ := tb_54) (t_ := 3) (ls_ := [some (.ref 23), some (.long (lI x)), none, some (.int (iI (x % W.n : Nat)))]) (rest_ := []) M L W hk hv m (x % W.n) 1 hm h13 hxn (by omega) (by omega) (by omega)
  rw [b_54_0, hv.n, if_pos (by rw [t_lt, show (0 : Int32).toInt = 0 from rfl, iI_to (by omega) (by omega)]; omega), b_54_1, hv.n, iI_long (by omega) (by omega), if_neg (by rw [lI_0, lI_eq (by omega) (by omega) (by omega) (by omega)]; omega), lI_rem (by omega) (by omega) (by omega) (by omega), lI_int, show (x : Int).tmod W.n = (x % W.n : Nat) from rfl, g_38 M L W hk hv _ hxn (by omega), b2_f hT.1, b_54_2, if_pos (show iI 0 = (0 : Int32) from rfl), if_pos ((lotE hx).2 hT.2)]
  refine Eq.trans g ?_
  rw [b_54_3]
  rfl
theorem g_54T (W : Vw) (hk : Vk W) (hv : Hv W M) (m x : Nat) (hm : m < 40) (h13 : M 23 13 = iI m) (hn0 : W.n ≠ 0) (hx : x < 2147483648) (hT : lotT W x) {d N : Nat} {xs : Nat → Int32} {tb_ : List zz_B} {t_ : Nat} {ls_ : zz_L} {rest_ : List Value} (hd_ : 6 ≤ d) : (zz_o (zz_call_ d 54 [.ref 23, .long (lI x)] (zm N xs M L)) fun r => zz_X (zz_call_ d) tb_ t_ ls_ (r.1.toList ++ rest_) r.2) = zz_X (zz_call_ d) tb_ t_ ls_ rest_ (zm N xs (pf W M m (16 * (x % W.n) + 7)) L) := (s_54T M L W hk hv m x hm h13 hn0 hx hT).gov hd_
theorem s_54N (W : Vw) (hk : Vk W) (hv : Hv W M) (x : Nat) (hn0 : W.n ≠ 0) (hx : x < 2147483648) (hT : ¬ lotT W x) : zc 6 54 [.ref 23, .long (lI x)] M L none M L := by
  refine zc_of (n := 5) (ls := [some (.ref 23), some (.long (lI x)), none, none]) mk_54 rfl rfl rfl rfl (fun d hd N xs => ?_)
  have hn := hk.n
  have hxn : x % W.n < W.n := Nat.mod_lt _ (by omega)
  rw [b_54_0, hv.n, if_pos (by rw [t_lt, show (0 : Int32).toInt = 0 from rfl, iI_to (by omega) (by omega)]; omega), b_54_1, hv.n, iI_long (by omega) (by omega), if_neg (by rw [lI_0, lI_eq (by omega) (by omega) (by omega) (by omega)]; omega), lI_rem (by omega) (by omega) (by omega) (by omega), lI_int, show (x : Int).tmod W.n = (x % W.n : Nat) from rfl, g_38 M L W hk hv _ hxn (by omega), b_54_2]
  by_cases q : W.tset.testBit (x % W.n) = true
  · rw [b2_t q, if_neg (show ¬ iI 1 = (0 : Int32) from iI10), b_54_3]
  · rw [b2_f q, if_pos (show iI 0 = (0 : Int32) from rfl), if_neg (fun h => hT ⟨q, (lotE hx).1 h⟩), b_54_3]
theorem g_54N (W : Vw) (hk : Vk W) (hv : Hv W M) (x : Nat) (hn0 : W.n ≠ 0) (hx : x < 2147483648) (hT : ¬ lotT W x) {d N : Nat} {xs : Nat → Int32} {tb_ : List zz_B} {t_ : Nat} {ls_ : zz_L} {rest_ : List Value} (hd_ : 6 ≤ d) : (zz_o (zz_call_ d 54 [.ref 23, .long (lI x)] (zm N xs M L)) fun r => zz_X (zz_call_ d) tb_ t_ ls_ (r.1.toList ++ rest_) r.2) = zz_X (zz_call_ d) tb_ t_ ls_ rest_ (zm N xs M L) := (s_54N M L W hk hv x hn0 hx hT).gov hd_
end ZR
section ZL
variable (L : Nat → Nat → Int64) {V : Vw} {K : Nat → Int} {E : Nat → Nat → Nat}
theorem l_133 (n : Nat) (sd : Int32) (hn : n ≤ 20) (hV : V.n ≠ 0) : ∀ (c k x : Nat) (s : (Nat → Nat) × Nat) (M W : Nat → Nat → Int32), k + c = n → x < 2147483647 → s.2 + 2 * c ≤ 40 → HD W V s.1 s.2 K E → agX M W → ∃ M' W' x', HD W' V (lotS V c x s).1 (lotS V c x s).2 K E ∧ agX M' W' ∧ frX M M' ∧ ∀ d, 6 ≤ d → ∀ N xs, zz_X (zz_call_ d) tb_133 6 [some (.ref 0), some (.int (iI n)), some (.int sd), some (.long (lI x)), none, some (.int (iI k))] [] (zm N xs M L) = zz_X (zz_call_ d) tb_133 10 [some (.ref 0), some (.int (iI n)), some (.int sd), some (.long x'), none, some (.int (iI n))] [] (zm N xs M' L)
  | 0, k, x, s, M, W, hc, hx, hs, h, ag => by
    refine ⟨M, W, lI x, h, ag, fun p _ _ _ => eqs.rf, fun d hd N xs => ?_⟩
    rw [b_133_6, if_pos (by rw [t_le, iI_to (by omega) (by omega), iI_to (by omega) (by omega)]; omega), show k = n by omega]
  | c + 1, k, x, s, M, W, hc, hx, hs, h, ag => by
    have hxl := lotN_lt x
    obtain ⟨hk, hv, h13⟩ := h.x1 ag
    have hVn := run_n V s.1 s.2
    have es : lotS V (c + 1) x s = lotS V c (lotN x) (if lotT (V.run s.1 s.2) (lotN x) then (dup (dup s.1 s.2 (16 * (lotN x % (V.run s.1 s.2).n) + 7)) (s.2 + 1) 0, s.2 + 1 + 1) else (dup s.1 s.2 0, s.2 + 1)) := rfl
    by_cases q : lotT (V.run s.1 s.2) (lotN x)
    · rw [if_pos q] at es
      have hi : lotN x % (V.run s.1 s.2).n < (V.run s.1 s.2).n := Nat.mod_lt _ (by omega)
      have hh1 := h.tch (by omega) hi
      have ag1 : agX (pf (V.run s.1 s.2) M s.2 (16 * (lotN x % (V.run s.1 s.2).n) + 7)) _ := pfT_ag (U := V.run s.1 s.2) (U' := V.run s.1 s.2) (x := 16 * (lotN x % (V.run s.1 s.2).n) + 7) (m := s.2) (i := lotN x % (V.run s.1 s.2).n) (y := 1) ag
      obtain ⟨hk1, hv1, h131⟩ := hh1.x1 ag1
      have hh2 := hh1.day (by omega) hV
      have ag2 := pfD_ag (U := V.run (dup s.1 s.2 (16 * (lotN x % (V.run s.1 s.2).n) + 7)) (s.2 + 1)) (U' := V.run (dup s.1 s.2 (16 * (lotN x % (V.run s.1 s.2).n) + 7)) (s.2 + 1)) (m := s.2 + 1) ag1
      obtain ⟨M', W', x', r1, r2, r3, r4⟩ := l_133 n sd hn hV c (k + 1) (lotN x) (dup (dup s.1 s.2 (16 * (lotN x % (V.run s.1 s.2).n) + 7)) (s.2 + 1) 0, s.2 + 1 + 1) _ _ (by omega) hxl (by show s.2 + 1 + 1 + 2 * c ≤ 40; omega) hh2 ag2
      refine ⟨M', W', x', by rw [es]; exact r1, r2, fun p a1 a2 a3 => ((pf_eqs a1 a2 a3).tr (pf_eqs a1 a2 a3)).tr (r3 p a1 a2 a3), fun d hd N xs => ?_⟩
      rw [b_133_6, if_neg (by rw [t_le, iI_to (by omega) (by omega), iI_to (by omega) (by omega)]; omega), lotM hx, b_133_7, g_54T M L _ hk hv s.2 (lotN x) (by omega) h13 (by omega) (by omega) q (by omega), b_133_8, g_52 _ L _ hk1 hv1 (s.2 + 1) (by omega) h131 (by omega), b_133_9, iI_lit, iI_add]
      exact r4 d hd N xs
    · rw [if_neg q] at es
      have hh2 := h.day (by omega) hV
      have ag2 := pfD_ag (U := V.run s.1 s.2) (U' := V.run s.1 s.2) (m := s.2) ag
      obtain ⟨M', W', x', r1, r2, r3, r4⟩ := l_133 n sd hn hV c (k + 1) (lotN x) (dup s.1 s.2 0, s.2 + 1) _ _ (by omega) hxl (by show s.2 + 1 + 2 * c ≤ 40; omega) hh2 ag2
      refine ⟨M', W', x', by rw [es]; exact r1, r2, fun p a1 a2 a3 => (pf_eqs a1 a2 a3).tr (r3 p a1 a2 a3), fun d hd N xs => ?_⟩
      rw [b_133_6, if_neg (by rw [t_le, iI_to (by omega) (by omega), iI_to (by omega) (by omega)]; omega), lotM hx, b_133_7, g_54N M L _ hk hv (lotN x) (by omega) (by omega) q (by omega), b_133_8, g_52 M L _ hk hv s.2 (by omega) h13 (by omega), b_133_9, iI_lit, iI_add]
      exact r4 d hd N xs
end ZL

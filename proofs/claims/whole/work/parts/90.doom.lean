/-! doomed, of both. -/
theorem cZ_fl {p : Nat → Prop} [DecidablePred p] {b : Nat} : ∀ {e : Nat}, b ≤ e → (∀ x, b ≤ x → x < e → ¬ p x) → cZ p e = cZ p b
  | 0, h, _ => by rw [show b = 0 by omega]
  | e + 1, h, hp => by
    by_cases q : b = e + 1
    · rw [q]
    · rw [cZ_f (hp e (by omega) (by omega)), cZ_fl (by omega) (fun x h1 h2 => hp x h1 (by omega))]
theorem cZ_eq {p : Nat → Prop} [DecidablePred p] {b e : Nat} (h : ∀ x, (b ≤ x ∧ x < e) ∨ (e ≤ x ∧ x < b) → ¬ p x) : cZ p b = cZ p e := by
  by_cases q : b ≤ e
  · exact (cZ_fl q (fun x h1 h2 => h x (Or.inl ⟨h1, h2⟩))).symm
  · exact cZ_fl (by omega) (fun x h1 h2 => h x (Or.inr ⟨h1, h2⟩))
theorem fsF_eq {p : Nat → Prop} [DecidablePred p] {b e n : Nat} (h : cZ p b = cZ p e) : fsF p n b = fsF p n e := by
  unfold fsF
  rw [h]
section ZL
variable (L : Nat → Nat → Int64) {V : Vw}
theorem l_223 (hk : Vk V) (i j : Nat) (hi : i < V.n) (hj : j < V.n) (a b : Int) (ha : -2 ≤ a ∧ a ≤ 2) (hb : -2 ≤ b ∧ b ≤ 2) (n : Nat) (hn : n ≤ 60) : ∀ (c k : Nat) (M : Nat → Nat → Int32), k + c = n + 1 → Rv V (M 53) 0 → M 52 17 = iI ((V.minAt i k + a) % 60) → M 52 18 = iI ((V.minAt j k + b) % 60) → cZ (cq V i j (b - a)) k = 0 → ∃ M', eqs M M' p2 ∧ ∀ d, 3 ≤ d → ∀ N xs, zz_X (zz_call_ d) tb_223 4 [some (.ref 52), some (.int (iI i)), some (.int (iI j)), some (.int (iI a)), some (.int (iI b)), some (.int (iI n)), some (.int (iI 0)), some (.int (iI k))] [] (zm N xs M L) = some (some (.int (b2 (clq V i j (b - a) (n + 1)))), zm N xs M' L)
  | 0, k, M, hc, hr, h17, h18, hz => by
    refine ⟨M, eqs.rf, fun d hd N xs => ?_⟩
    rw [b_223_4, if_pos (by rw [t_lt, iI_to (by omega) (by omega), iI_to (by omega) (by omega)]; omega), b_223_7, if_pos (show iI 0 = (0 : Int32) ∨ iI 0 = (1 : Int32) from Or.inl rfl), b2_f (by show ¬ 0 < cZ (cq V i j (b - a)) (n + 1); rw [show n + 1 = k by omega, hz]; omega)]
  | c + 1, k, M, hc, hr, h17, h18, hz => by
    have hi2 := minAt_b V i k
    have hj2 := minAt_b V j k
    have hmq : met ((V.minAt i k + a) % 60) (span (V.kind i)) ((V.minAt j k + b) % 60) (span (V.kind j)) ↔ cq V i j (b - a) k := mS_met (by omega)
    have g213 := s_213 M L V hk hr i j k _ _ hi hj (by omega) (by omega) (by omega) h17 h18
    have e1 : ((V.minAt i k + a) % 60 + gn (V.kind i) (V.rate i) 1 (V.heatAt (V.day + k))) % 60 = (V.minAt i (k + 1) + a) % 60 := by rw [minAt_s]; omega
    have e2 : ((V.minAt j k + b) % 60 + gn (V.kind j) (V.rate j) 1 (V.heatAt (V.day + k))) % 60 = (V.minAt j (k + 1) + b) % 60 := by rw [minAt_s]; omega
    rw [e1, e2] at g213
    have hr2 : Rv V (m2 M ((V.minAt i (k + 1) + a) % 60) ((V.minAt j (k + 1) + b) % 60) 53) 0 := by rw [m2_53]; exact hr
    by_cases q : cq V i j (b - a) k
    · refine ⟨m2 M ((V.minAt i (k + 1) + a) % 60) ((V.minAt j (k + 1) + b) % 60), m2_p2 _ _ _, fun d hd N xs => ?_⟩
      have h1 := cZ_mono (cq V i j (b - a)) (show k + 1 ≤ n + 1 by omega)
      rw [cZ_t (p := cq V i j (b - a)) q] at h1
      rw [b_223_4, if_neg (by rw [t_lt, iI_to (by omega) (by omega), iI_to (by omega) (by omega)]; omega), if_pos (show iI 0 = (0 : Int32) from rfl), h17, h18, g_192 M L V hk hr i j _ _ hi hj (by omega) (by omega) (by omega) (by omega) (by omega), b2_t (hmq.2 q), b_223_5, g213.gov (by omega), b_223_6, b_223_4, b_223_7, if_pos (show iI 1 = (0 : Int32) ∨ iI 1 = (1 : Int32) from Or.inr rfl), b2_t (show clq V i j (b - a) (n + 1) by show 0 < _; omega)]
      by_cases e : iI n < iI k + 1
      · rw [if_pos e]
      · rw [if_neg e, if_neg (show ¬ iI 1 = (0 : Int32) from iI10)]
    · obtain ⟨M', r1, r2⟩ := l_223 hk i j hi hj a b ha hb n hn c (k + 1) (m2 M ((V.minAt i (k + 1) + a) % 60) ((V.minAt j (k + 1) + b) % 60)) (by omega) hr2 (m2_17 _ _ _) (m2_18 _ _ _) (by rw [cZ_f (p := cq V i j (b - a)) q]; exact hz)
      refine ⟨M', (m2_p2 _ _ _).tr r1, fun d hd N xs => ?_⟩
      rw [b_223_4, if_neg (by rw [t_lt, iI_to (by omega) (by omega), iI_to (by omega) (by omega)]; omega), if_pos (show iI 0 = (0 : Int32) from rfl), h17, h18, g_192 M L V hk hr i j _ _ hi hj (by omega) (by omega) (by omega) (by omega) (by omega), b2_f (fun e => q (hmq.1 e)), b_223_5, g213.gov (by omega), b_223_6, show (1 : Int32) = iI 1 from rfl, iI_add]
      exact r2 d hd N xs
theorem x_223 (M : Nat → Nat → Int32) (hk : Vk V) (hr : Rv V (M 53) 0) (i j : Nat) (hi : i < V.n) (hj : j < V.n) (a b : Int) (ha : -2 ≤ a ∧ a ≤ 2) (hb : -2 ≤ b ∧ b ≤ 2) (n : Nat) (hn : n ≤ 60) : ∃ M', eqs M M' p2 ∧ zc 4 223 [.ref 52, .int (iI i), .int (iI j), .int (iI a), .int (iI b), .int (iI n)] M L (some (.int (b2 (clq V i j (b - a) (n + 1))))) M' L := by
  have hi2 := hk.minute i
  have hj2 := hk.minute j
  have h17 := m2_17 M ((V.minute i + a) % 60) ((V.minute j + b) % 60)
  have h18 := m2_18 M ((V.minute i + a) % 60) ((V.minute j + b) % 60)
  have h0i := minAt_0 hk i
  have h0j := minAt_0 hk j
  obtain ⟨M', r1, r2⟩ := l_223 L hk i j hi hj a b ha hb n hn (n + 1) 0 (m2 M ((V.minute i + a) % 60) ((V.minute j + b) % 60)) (by omega) (by rw [m2_53]; exact hr) (by rw [h0i]; exact h17) (by rw [h0j]; exact h18) rfl
  refine ⟨M', (m2_p2 _ _ _).tr r1, zc_of (n := 3) (ls := [some (.ref 52), some (.int (iI i)), some (.int (iI j)), some (.int (iI a)), some (.int (iI b)), some (.int (iI n)), none, none]) mk_223 rfl rfl rfl rfl (fun d hd N xs => ?_)⟩
  have em : zz_wI (zz_wI (m2 M (V.minute i) (V.minute j)) 52 17 (iI ((V.minute i + a) % 60))) 52 18 (iI ((V.minute j + b) % 60)) = m2 M ((V.minute i + a) % 60) ((V.minute j + b) % 60) := m2_m2 _ _ _ _ _
  rw [b_223_0, g_212 M L V hk hr i j hi hj (by omega), b_223_1, m2_17, iI_add, g_160 _ L _ (by omega) (by omega) (by omega), b_223_2, w_nk (by omega : (18 : Nat) ≠ 17), m2_18, iI_add, g_160 _ L _ (by omega) (by omega) (by omega), b_223_3, em]
  exact r2 d hd N xs
abbrev nq (V : Vw) (i j N : Nat) (c : Nat) : Prop := ¬ clq V i j (((c % 5 : Nat) : Int) - 2 - (((c / 5 : Nat) : Int) - 2)) N
theorem nq_dm (i j N : Nat) : cZ (nq V i j N) 25 = 0 ↔ br V i j N = 511 := by
  rw [br_511]
  have h := @cZ_pos (nq V i j N) _ 25
  constructor
  · intro h0 x hx
    have hall : ∀ c, c < 25 → clq V i j (((c % 5 : Nat) : Int) - 2 - (((c / 5 : Nat) : Int) - 2)) N := fun c hc => by
      by_cases q : clq V i j (((c % 5 : Nat) : Int) - 2 - (((c / 5 : Nat) : Int) - 2)) N
      · exact q
      · have := h.2 ⟨c, hc, q⟩; omega
    by_cases q : x ≤ 4
    · have := hall (5 * (4 - x)) (by omega)
      rwa [show (((5 * (4 - x) % 5 : Nat) : Int) - 2 - (((5 * (4 - x) / 5 : Nat) : Int) - 2)) = (x : Int) - 4 by omega] at this
    · have := hall (x - 4) (by omega)
      rwa [show ((((x - 4) % 5 : Nat) : Int) - 2 - ((((x - 4) / 5 : Nat) : Int) - 2)) = (x : Int) - 4 by omega] at this
  · intro h0
    by_cases q : 0 < cZ (nq V i j N) 25
    · obtain ⟨c, hc, hq⟩ := h.1 q
      have := h0 (c % 5 + 4 - c / 5) (by omega)
      rw [show (((c % 5 + 4 - c / 5 : Nat) : Int) - 4) = (((c % 5 : Nat) : Int) - 2 - (((c / 5 : Nat) : Int) - 2)) by omega] at this
      exact absurd this hq
    · omega
theorem bX_ij {i j N : Nat} (hij : i < j) (hj : j < V.n) (hk : Vk V) : bX V N (6 * i + j) = br V i j N := by
  have := hk.n
  unfold bX
  rw [if_pos (by show (6 * i + j) / 6 < (6 * i + j) % 6 ∧ (6 * i + j) % 6 < V.n; omega), show (6 * i + j) / 6 = i by omega, show (6 * i + j) % 6 = j by omega]
theorem dm_no {N x : Nat} (h : ¬ pr V.n x) : ¬ dmP V N x := by
  show ¬ bX V N x = 511
  unfold bX
  rw [if_neg h]
  omega
theorem l_230c (hk : Vk V) (n : Nat) (hn : n ≤ 60) (v2 v3 : Int32) (i j : Nat) (hi : i < V.n) (hj : j < V.n) : ∀ (c k : Nat) (M : Nat → Nat → Int32), k + c = 25 → Rv V (M 53) 0 → cZ (nq V i j (n + 1)) k = 0 → ∃ M' v, eqs M M' p2 ∧ ∀ d, 4 ≤ d → ∀ N xs, zz_X (zz_call_ d) tb_230 5 [some (.ref 52), some (.int (iI n)), some (.int v2), some (.int v3), some (.int (iI i)), some (.int (iI j)), some (.int (iI 1)), some (.int (iI k))] [] (zm N xs M L) = zz_X (zz_call_ d) tb_230 7 [some (.ref 52), some (.int (iI n)), some (.int v2), some (.int v3), some (.int (iI i)), some (.int (iI j)), some (.int (b2 (cZ (nq V i j (n + 1)) 25 = 0))), some (.int v)] [] (zm N xs M' L)
  | 0, k, M, hc, hr, hz => by
    refine ⟨M, iI k, eqs.rf, fun d hd N xs => ?_⟩
    rw [b_230_5, if_pos (by rw [t_le, show (25 : Int32).toInt = 25 from rfl, iI_to (by omega) (by omega)]; omega), b2_t (by rw [show 25 = k by omega]; exact hz)]
  | c + 1, k, M, hc, hr, hz => by
    obtain ⟨M1, r1, r2⟩ := x_223 L M hk hr i j hi hj (((k / 5 : Nat) : Int) - 2) (((k % 5 : Nat) : Int) - 2) (by omega) (by omega) n hn
    have hst : ∀ d, 4 ≤ d → ∀ N xs, zz_X (zz_call_ d) tb_230 5 [some (.ref 52), some (.int (iI n)), some (.int v2), some (.int v3), some (.int (iI i)), some (.int (iI j)), some (.int (iI 1)), some (.int (iI k))] [] (zm N xs M L) = zz_X (zz_call_ d) tb_230 5 [some (.ref 52), some (.int (iI n)), some (.int v2), some (.int v3), some (.int (iI i)), some (.int (iI j)), some (.int (b2 (clq V i j (((k % 5 : Nat) : Int) - 2 - (((k / 5 : Nat) : Int) - 2)) (n + 1)))), some (.int (iI ((k + 1 : Nat) : Int)))] [] (zm N xs M1 L) := by
      intro d hd N xs
      rw [b_230_5, if_neg (by rw [t_le, show (25 : Int32).toInt = 25 from rfl, iI_to (by omega) (by omega)]; omega), if_neg (show ¬ iI 1 = (0 : Int32) from iI10), show (5 : Int32) = iI 5 from rfl, show (2 : Int32) = iI 2 from rfl, iI_rem (by omega) (by omega) (by omega) (by omega), iI_div (by omega) (by omega) (by omega) (by omega), show (k : Int).tmod 5 = ((k % 5 : Nat) : Int) from rfl, show (k : Int).tdiv 5 = ((k / 5 : Nat) : Int) from rfl, iI_sub, iI_sub, r2.go (by omega), b_230_6, show (1 : Int32) = iI 1 from rfl, iI_add]
      rfl
    by_cases q : clq V i j (((k % 5 : Nat) : Int) - 2 - (((k / 5 : Nat) : Int) - 2)) (n + 1)
    · obtain ⟨M', v, p1, p3⟩ := l_230c hk n hn v2 v3 i j hi hj c (k + 1) M1 (by omega) (by rw [p2_53 r1]; exact hr) (by rw [cZ_f (p := nq V i j (n + 1)) (fun e => e q)]; exact hz)
      rw [b2_t q] at hst
      exact ⟨M', v, r1.tr p1, fun d hd N xs => (hst d hd N xs).trans (p3 d hd N xs)⟩
    · rw [b2_f q] at hst
      have h1 := cZ_mono (nq V i j (n + 1)) (show k + 1 ≤ 25 by omega)
      rw [cZ_t (p := nq V i j (n + 1)) q] at h1
      refine ⟨M1, iI ((k + 1 : Nat) : Int), r1, fun d hd N xs => ?_⟩
      rw [hst d hd N xs, b_230_5, b2_f (show ¬ cZ (nq V i j (n + 1)) 25 = 0 by omega)]
      by_cases e : 25 ≤ iI ((k + 1 : Nat) : Int)
      · rw [if_pos e]
      · rw [if_neg e, if_pos (show iI 0 = (0 : Int32) from rfl)]
theorem l_230j (hk : Vk V) (n : Nat) (hn : n ≤ 60) (i : Nat) (hi : i < V.n) : ∀ (c j : Nat) (M : Nat → Nat → Int32) (o6 o7 : Option Value), j + c = V.n → i < j → Rv V (M 53) 0 → ∃ M' o6' o7', eqs M M' p2 ∧ ∀ d, 4 ≤ d → ∀ N xs, zz_X (zz_call_ d) tb_230 4 [some (.ref 52), some (.int (iI n)), some (.int (iI (cZ (dmP V (n + 1)) (6 * i + j)))), some (.int (iI (fsF (dmP V (n + 1)) 36 (6 * i + j)))), some (.int (iI i)), some (.int (iI j)), o6, o7] [] (zm N xs M L) = zz_X (zz_call_ d) tb_230 3 [some (.ref 52), some (.int (iI n)), some (.int (iI (cZ (dmP V (n + 1)) (6 * i + V.n)))), some (.int (iI (fsF (dmP V (n + 1)) 36 (6 * i + V.n)))), some (.int (iI ((i + 1 : Nat) : Int))), some (.int (iI V.n)), o6', o7'] [] (zm N xs M' L)
  | 0, j, M, o6, o7, hc, hij, hr => by
    have hn6 := hk.n
    have e0 : M 53 0 = iI V.n := hr.n
    refine ⟨M, o6, o7, eqs.rf, fun d hd N xs => ?_⟩
    rw [b_230_4, e0, if_pos (by rw [t_le, iI_to (by omega) (by omega), iI_to (by omega) (by omega)]; omega), b_230_12, show (1 : Int32) = iI 1 from rfl, iI_add, show j = V.n by omega]
    rfl
  | c + 1, j, M, o6, o7, hc, hij, hr => by
    have hn6 := hk.n
    have e0 : M 53 0 = iI V.n := hr.n
    have hcl := cZ_le (dmP V (n + 1)) (6 * i + j)
    have hfb := fsF_b (dmP V (n + 1)) 36 (6 * i + j)
    have hbx := bX_ij (N := n + 1) hij (show j < V.n by omega) hk
    obtain ⟨M1, w7, r1, r2⟩ := l_230c L hk n hn (iI (cZ (dmP V (n + 1)) (6 * i + j))) (iI (fsF (dmP V (n + 1)) 36 (6 * i + j))) i j hi (by omega) 25 0 M (by omega) hr rfl
    obtain ⟨M', o6', o7', p1, p3⟩ := l_230j hk n hn i hi c (j + 1) M1 (some (.int (b2 (cZ (nq V i j (n + 1)) 25 = 0)))) (some (.int w7)) (by omega) (by omega) (by rw [p2_53 r1]; exact hr)
    refine ⟨M', o6', o7', r1.tr p1, fun d hd N xs => ?_⟩
    have ih := p3 d hd N xs
    rw [b_230_4, e0, if_neg (by rw [t_le, iI_to (by omega) (by omega), iI_to (by omega) (by omega)]; omega)]
    refine Eq.trans (r2 d hd N xs) ?_
    refine Eq.trans ?_ ih
    rw [b_230_7, show 6 * i + (j + 1) = 6 * i + j + 1 by omega]
    by_cases q : cZ (nq V i j (n + 1)) 25 = 0
    · have hq : dmP V (n + 1) (6 * i + j) := by show bX V (n + 1) (6 * i + j) = 511; rw [hbx]; exact (nq_dm i j (n + 1)).1 q
      rw [b2_t q, if_neg (show ¬ iI 1 = (0 : Int32) from iI10), fsF_t (p := dmP V (n + 1)) (by omega) hq, cZ_t (p := dmP V (n + 1)) hq]
      by_cases q0 : cZ (dmP V (n + 1)) (6 * i + j) = 0
      · rw [if_pos (by rw [q0]; rfl), b_230_9, if_neg (show ¬ iI 1 = (0 : Int32) from iI10), b_230_11, if_pos q0, show (6 : Int32) = iI 6 from rfl, show (1 : Int32) = iI 1 from rfl, iI_mul, iI_add, iI_add, iI_add]
        rfl
      · rw [if_neg (by rw [t_eq, iI_to (by omega) (by omega), show (0 : Int32).toInt = 0 from rfl]; omega), b_230_8, b_230_9, if_neg (show ¬ iI 1 = (0 : Int32) from iI10), b_230_11, if_neg q0, show (1 : Int32) = iI 1 from rfl, iI_add, iI_add]
        rfl
    · have hq : ¬ dmP V (n + 1) (6 * i + j) := by show ¬ bX V (n + 1) (6 * i + j) = 511; rw [hbx]; exact fun e => q ((nq_dm i j (n + 1)).2 e)
      rw [b2_f q, if_pos (show iI 0 = (0 : Int32) from rfl), fsF_f (p := dmP V (n + 1)) hq, cZ_f (p := dmP V (n + 1)) hq, b_230_8, b_230_9, if_pos (show iI 0 = (0 : Int32) from rfl), b_230_10, b_230_11, show (1 : Int32) = iI 1 from rfl, show (0 : Int32) = iI 0 from rfl, iI_add, iI_add, Int.add_zero]
      rfl
theorem l_230 (hk : Vk V) (n : Nat) (hn : n ≤ 60) : ∀ (c i : Nat) (M : Nat → Nat → Int32) (o5 o6 o7 : Option Value), i + c = V.n → Rv V (M 53) 0 → ∃ M', eqs M M' p2 ∧ ∀ d, 4 ≤ d → ∀ N xs, zz_X (zz_call_ d) tb_230 3 [some (.ref 52), some (.int (iI n)), some (.int (iI (cZ (dmP V (n + 1)) (7 * i + 1)))), some (.int (iI (fsF (dmP V (n + 1)) 36 (7 * i + 1)))), some (.int (iI i)), o5, o6, o7] [] (zm N xs M L) = some (some (.int (iI (cZ (dmP V (n + 1)) 36))), zm N xs (zz_wI M' 52 10 (iI (fsF (dmP V (n + 1)) 36 36))) L)
  | 0, i, M, o5, o6, o7, hc, hr => by
    have hn6 := hk.n
    have e0 : M 53 0 = iI V.n := hr.n
    have ec : cZ (dmP V (n + 1)) (7 * i + 1) = cZ (dmP V (n + 1)) 36 := cZ_eq (fun x hx => dm_no (fun h => by have h1 := h.1; have h2 := h.2; omega))
    refine ⟨M, eqs.rf, fun d hd N xs => ?_⟩
    rw [b_230_3, e0, if_pos (by rw [t_le, iI_to (by omega) (by omega), iI_to (by omega) (by omega)]; omega), b_230_13, g_162 _ _ _ _ (by omega), b_230_14, fsF_eq ec, ec]
  | c + 1, i, M, o5, o6, o7, hc, hr => by
    have hn6 := hk.n
    have e0 : M 53 0 = iI V.n := hr.n
    have ec : cZ (dmP V (n + 1)) (6 * i + V.n) = cZ (dmP V (n + 1)) (7 * (i + 1) + 1) := cZ_eq (fun x hx => dm_no (fun h => by have h1 := h.1; have h2 := h.2; omega))
    obtain ⟨M1, o61, o71, r1, r2⟩ := l_230j L hk n hn i (by omega) (V.n - (i + 1)) (i + 1) M o6 o7 (by omega) (by omega) hr
    obtain ⟨M', p1, p3⟩ := l_230 hk n hn c (i + 1) M1 (some (.int (iI V.n))) o61 o71 (by omega) (by rw [p2_53 r1]; exact hr)
    refine ⟨M', r1.tr p1, fun d hd N xs => ?_⟩
    have hj := r2 d hd N xs
    rw [show 6 * i + (i + 1) = 7 * i + 1 by omega, fsF_eq ec, ec] at hj
    rw [b_230_3, e0, if_neg (by rw [t_le, iI_to (by omega) (by omega), iI_to (by omega) (by omega)]; omega), show (1 : Int32) = iI 1 from rfl, iI_add]
    exact hj.trans (p3 d hd N xs)
end ZL
section ZR
variable (M : Nat → Nat → Int32) (L : Nat → Nat → Int64)
theorem s_123B (z : Int) (h1 : -2147483648 ≤ z) (h2 : z ≤ 2147483647) (h : ¬ (0 ≤ z ∧ z ≤ 60)) : zc 5 123 [.ref 0, .int (iI z)] M L (some (.int (iI (-1)))) M L := by
  refine zc_of (n := 4) (ls := [some (.ref 0), some (.int (iI z))]) mk_123 rfl rfl rfl rfl (fun d hd N xs => ?_)
  simp (disch := first | omega | assumption) only [b_123_0, b_123_1, iI_lit, iI_neg, iI_add, iI_sub, iI_mul, t_lt, t_le, t_eq, iI_to, b2_to, if_10, if_11, nor_em, Decidable.not_not, Int.reduceEq, Int.reduceLT, Int.reduceLE, Int.reduceAdd, Int.reduceSub, Int.reduceMul, Int.reduceNeg, reduceIte, or_true, true_or, or_false, false_or, o_some]
  repeat' split
  all_goals first | rfl | (exfalso; omega)
theorem g_123B (z : Int) (h1 : -2147483648 ≤ z) (h2 : z ≤ 2147483647) (h : ¬ (0 ≤ z ∧ z ≤ 60)) {d N : Nat} {xs : Nat → Int32} {tb_ : List zz_B} {t_ : Nat} {ls_ : zz_L} {rest_ : List Value} (hd_ : 5 ≤ d) : (zz_o (zz_call_ d 123 [.ref 0, .int (iI z)] (zm N xs M L)) fun r => zz_X (zz_call_ d) tb_ t_ ls_ (r.1.toList ++ rest_) r.2) = zz_X (zz_call_ d) tb_ t_ ls_ ((.int (iI (-1))) :: rest_) (zm N xs M L) := (s_123B M L z h1 h2 h).go hd_
theorem s_124B (z : Int) (h1 : -2147483648 ≤ z) (h2 : z ≤ 2147483647) (h : ¬ (0 ≤ z ∧ z ≤ 60)) : zc 5 124 [.ref 0, .int (iI z)] M L (some (.int (iI (-1)))) M L := by
  refine zc_of (n := 4) (ls := [some (.ref 0), some (.int (iI z))]) mk_124 rfl rfl rfl rfl (fun d hd N xs => ?_)
  simp (disch := first | omega | assumption) only [b_124_0, b_124_1, iI_lit, iI_neg, iI_add, iI_sub, iI_mul, t_lt, t_le, t_eq, iI_to, b2_to, if_10, if_11, nor_em, Decidable.not_not, Int.reduceEq, Int.reduceLT, Int.reduceLE, Int.reduceAdd, Int.reduceSub, Int.reduceMul, Int.reduceNeg, reduceIte, or_true, true_or, or_false, false_or, o_some]
  repeat' split
  all_goals first | rfl | (exfalso; omega)
theorem g_124B (z : Int) (h1 : -2147483648 ≤ z) (h2 : z ≤ 2147483647) (h : ¬ (0 ≤ z ∧ z ≤ 60)) {d N : Nat} {xs : Nat → Int32} {tb_ : List zz_B} {t_ : Nat} {ls_ : zz_L} {rest_ : List Value} (hd_ : 5 ≤ d) : (zz_o (zz_call_ d 124 [.ref 0, .int (iI z)] (zm N xs M L)) fun r => zz_X (zz_call_ d) tb_ t_ ls_ (r.1.toList ++ rest_) r.2) = zz_X (zz_call_ d) tb_ t_ ls_ ((.int (iI (-1))) :: rest_) (zm N xs M L) := (s_124B M L z h1 h2 h).go hd_
theorem s_230B (z : Int) (h1 : -2147483648 ≤ z) (h2 : z ≤ 2147483647) (h : ¬ (0 ≤ z ∧ z ≤ 60)) : zc 5 230 [.ref 52, .int (iI z)] M L (some (.int (iI (-1)))) M L := by
  refine zc_of (n := 4) (ls := [some (.ref 52), some (.int (iI z)), none, none, none, none, none, none]) mk_230 rfl rfl rfl rfl (fun d hd N xs => ?_)
  rw [b_230_0, iI_long h1 h2, lI_lit, lI_lit, g_157 M L z 0 60 (by omega) (by omega) (by omega) (by omega) (by omega) (by omega) (by omega), b2_f h, b_230_1, if_pos (show iI 0 = (0 : Int32) from rfl)]
  rfl
theorem g_230B (z : Int) (h1 : -2147483648 ≤ z) (h2 : z ≤ 2147483647) (h : ¬ (0 ≤ z ∧ z ≤ 60)) {d N : Nat} {xs : Nat → Int32} {tb_ : List zz_B} {t_ : Nat} {ls_ : zz_L} {rest_ : List Value} (hd_ : 5 ≤ d) : (zz_o (zz_call_ d 230 [.ref 52, .int (iI z)] (zm N xs M L)) fun r => zz_X (zz_call_ d) tb_ t_ ls_ (r.1.toList ++ rest_) r.2) = zz_X (zz_call_ d) tb_ t_ ls_ ((.int (iI (-1))) :: rest_) (zm N xs M L) := (s_230B M L z h1 h2 h).go hd_
theorem s_231B (z : Int) (h1 : -2147483648 ≤ z) (h2 : z ≤ 2147483647) (h : ¬ (0 ≤ z ∧ z ≤ 60)) : zc 5 231 [.ref 52, .int (iI z)] M L (some (.int (iI (-1)))) M L := by
  refine zc_of (n := 4) (ls := [some (.ref 52), some (.int (iI z)), none, none, none, none, none]) mk_231 rfl rfl rfl rfl (fun d hd N xs => ?_)
  rw [b_231_0, iI_long h1 h2, lI_lit, lI_lit, g_157 M L z 0 60 (by omega) (by omega) (by omega) (by omega) (by omega) (by omega) (by omega), b2_f h, b_231_1, if_pos (show iI 0 = (0 : Int32) from rfl)]
  rfl
theorem g_231B (z : Int) (h1 : -2147483648 ≤ z) (h2 : z ≤ 2147483647) (h : ¬ (0 ≤ z ∧ z ≤ 60)) {d N : Nat} {xs : Nat → Int32} {tb_ : List zz_B} {t_ : Nat} {ls_ : zz_L} {rest_ : List Value} (hd_ : 5 ≤ d) : (zz_o (zz_call_ d 231 [.ref 52, .int (iI z)] (zm N xs M L)) fun r => zz_X (zz_call_ d) tb_ t_ ls_ (r.1.toList ++ rest_) r.2) = zz_X (zz_call_ d) tb_ t_ ls_ ((.int (iI (-1))) :: rest_) (zm N xs M L) := (s_231B M L z h1 h2 h).go hd_
end ZR
theorem p39_A {M M' : Nat → Nat → Int32} (h : eqs M M' p39) : eqs M M' pA := h.im (fun c k q => by unfold pA pR pT pD pF pH at q; unfold p39; omega)
theorem Kp.cg {V : Vw} {N : Nat} {M M' : Nat → Nat → Int32} (h : Kp V N M) (e : ∀ c, 38 ≤ c → c ≤ 44 → M' c = M c) : Kp V N M' := by
  obtain ⟨h1, h2, h3⟩ := h
  exact ⟨by rw [e 38 (by omega) (by omega)]; exact h1, fun x hx => by rw [e 42 (by omega) (by omega)]; exact h2 x hx, fun i hi => by rw [e 40 (by omega) (by omega)]; exact h3 i hi⟩
theorem o_doomed {M : Nat → Nat → Int32} {L : Nat → Nat → Int64} (x : Int32) (hI : Inv M L) : Ok 123 230 [.int x] M L := by
  obtain ⟨z, h1, h2, rfl⟩ := iI_of x
  obtain ⟨V, hk, hv, hr⟩ := hI.view
  by_cases q : 0 ≤ z ∧ z ≤ 60
  · obtain ⟨n, rfl⟩ : ∃ y : Nat, z = y := ⟨z.toNat, by omega⟩
    obtain ⟨M1, L1, r1, r2, r3, r4⟩ := x_72 L hk hv n (by omega)
    have hkp2 : Kp V (n + 1) (zz_wI M1 0 10 (iI (fsF (dmP V (n + 1)) 36 36))) := r3.cg (fun c _ _ => by rw [w_ne (by omega)])
    have e53 : zz_wI M1 0 10 (iI (fsF (dmP V (n + 1)) 36 36)) 53 = M 53 := by rw [w_ne (by omega)]; exact r1.col 53 (fun k => Or.inr (by omega))
    obtain ⟨M2, p1, p3⟩ := l_230 L1 hk n (by omega) V.n 0 (zz_wI M1 0 10 (iI (fsF (dmP V (n + 1)) 36 36))) none none none (by omega) (by rw [e53]; exact hr)
    have e1 : cZ (dmP V (n + 1)) (7 * 0 + 1) = 0 := (cZ_eq (e := 0) (fun x hx => dm_no (fun h => by have h1 := h.1; have h2 := h.2; omega)))
    refine Ok.tells (n := 9) (n' := 6) (v := .int (iI (cZ (dmP V (n + 1)) 36))) (x := iI (fsF (dmP V (n + 1)) 36 36)) (M1 := zz_wI M1 0 10 (iI (fsF (dmP V (n + 1)) 36 36))) (L1 := L1) (M2 := zz_wI M2 52 10 (iI (fsF (dmP V (n + 1)) 36 36))) (L2 := L1) hI ?_ ?_ (eqs.ww (p39_A r1)) (eqs.ww (p2_A p1)) r2 SL.rf (by omega) (by omega)
    · refine zc_of (n := 8) (ls := [some (.ref 0), some (.int (iI n))]) mk_123 rfl rfl rfl rfl (fun d hd N xs => ?_)
      rw [b_123_0, if_neg (by rw [t_lt, show (0 : Int32).toInt = 0 from rfl, iI_to (by omega) (by omega)]; omega), if_pos (by rw [t_le, show (60 : Int32).toInt = 60 from rfl, iI_to (by omega) (by omega)]; omega), b_123_2, r4.gov (by omega), b_123_3, g_77 M1 L1 V (n + 1) r3 (by omega), b_123_4, g_76 _ L1 V (n + 1) hkp2 (by omega), b_123_5]
    · refine zc_of (n := 5) (ls := [some (.ref 52), some (.int (iI n)), none, none, none, none, none, none]) mk_230 rfl rfl rfl rfl (fun d hd N xs => ?_)
      have hp := p3 d (by omega) N xs
      rw [show fsF (dmP V (n + 1)) 36 (7 * 0 + 1) = -9 from if_pos e1, e1] at hp
      rw [b_230_0, iI_long (by omega) (by omega), lI_lit, lI_lit, g_157 _ L1 n 0 60 (by omega) (by omega) (by omega) (by omega) (by omega) (by omega) (by omega), b2_t (by omega), b_230_1, if_neg (show ¬ iI 1 = (0 : Int32) from iI10), b_230_2]
      exact hp
  · exact Ok.same hI (s_123B M L z h1 h2 q) (s_230B M L z h1 h2 q) (by omega) (by omega)

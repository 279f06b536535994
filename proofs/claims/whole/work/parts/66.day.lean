/-! day, of both. -/
section ZR
variable (M : Nat → Nat → Int32) (L : Nat → Nat → Int64)
theorem s_108Z (h : M 23 10 = iI 0) : zc 6 108 [.ref 0] M L (some (.int (iI (-4)))) M L := by
  refine zc_of (n := 5) (ls := [some (.ref 0)]) mk_108 rfl rfl rfl rfl (fun d hd N xs => ?_)
  rw [b_108_0, h, if_pos (show iI 0 = (0 : Int32) from rfl)]
  rfl
theorem g_108Z (h : M 23 10 = iI 0) {d N : Nat} {xs : Nat → Int32} {tb_ : List zz_B} {t_ : Nat} {ls_ : zz_L} {rest_ : List Value} (hd_ : 6 ≤ d) : (zz_o (zz_call_ d 108 [.ref 0] (zm N xs M L)) fun r => zz_X (zz_call_ d) tb_ t_ ls_ (r.1.toList ++ rest_) r.2) = zz_X (zz_call_ d) tb_ t_ ls_ ((.int (iI (-4))) :: rest_) (zm N xs M L) := (s_108Z M L h).go hd_
theorem s_108F (W : Vw) (hk : Vk W) (hv : Hv W M) (hn0 : W.n ≠ 0) (h13 : M 23 13 = iI ((40 : Nat) : Int)) : zc 6 108 [.ref 0] M L (some (.int (iI (-2)))) M L := by
  refine zc_of (n := 5) (ls := [some (.ref 0)]) mk_108 rfl rfl rfl rfl (fun d hd N xs => ?_)
  have hn := hk.n
  rw [b_108_0, hv.n, if_neg (by rw [t_eq, iI_to (by omega) (by omega), show (0 : Int32).toInt = 0 from rfl]; omega), b_108_1, show (1 : Int32) = iI ((1 : Nat) : Int) from rfl, g_51 M L 40 1 h13 (by omega) (by omega) (by omega), b2_f (by omega), b_108_2, iI_lit 0, if_pos rfl]
  rfl
theorem g_108F (W : Vw) (hk : Vk W) (hv : Hv W M) (hn0 : W.n ≠ 0) (h13 : M 23 13 = iI ((40 : Nat) : Int)) {d N : Nat} {xs : Nat → Int32} {tb_ : List zz_B} {t_ : Nat} {ls_ : zz_L} {rest_ : List Value} (hd_ : 6 ≤ d) : (zz_o (zz_call_ d 108 [.ref 0] (zm N xs M L)) fun r => zz_X (zz_call_ d) tb_ t_ ls_ (r.1.toList ++ rest_) r.2) = zz_X (zz_call_ d) tb_ t_ ls_ ((.int (iI (-2))) :: rest_) (zm N xs M L) := (s_108F M L W hk hv hn0 h13).go hd_
theorem s_108O (W : Vw) (hk : Vk W) (hv : Hv W M) (hn0 : W.n ≠ 0) (m : Nat) (hm : m < 40) (hd40 : W.day < 40) (h13 : M 23 13 = iI m) : zc 6 108 [.ref 0] M L (some (.int (iI (sN (cmp (rel (bt (W.step 0) 0)) (W.step 0).n) (W.step 0).n / 2 : Nat)))) (zz_wI (pf W M m 0) 36 1 (iI (W.step 0).n)) (sL L 37 (fun i => lI (bt (W.step 0) 0 i)) (W.step 0).n) := by
  refine zc_of (n := 5) (ls := [some (.ref 0)]) mk_108 rfl rfl rfl rfl (fun d hd N xs => ?_)
  have hn := hk.n
  have hp := pf_h hk hv m 0
  have hk2 : Vk (W.step 0) := step_k hk hd40 (Or.inl rfl)
  rw [b_108_0, hv.n, if_neg (by rw [t_eq, iI_to (by omega) (by omega), show (0 : Int32).toInt = 0 from rfl]; omega), b_108_1, show (1 : Int32) = iI ((1 : Nat) : Int) from rfl, g_51 M L m 1 h13 (by omega) (by omega) (by omega), b2_t (by omega), b_108_2, iI_lit 0, if_neg iI10, b_108_3, g_52 M L W hk hv m hm h13 (by omega), b_108_4, g_147 _ L (W.step 0) hk2 hp (by omega), b_108_5]
theorem g_108O (W : Vw) (hk : Vk W) (hv : Hv W M) (hn0 : W.n ≠ 0) (m : Nat) (hm : m < 40) (hd40 : W.day < 40) (h13 : M 23 13 = iI m) {d N : Nat} {xs : Nat → Int32} {tb_ : List zz_B} {t_ : Nat} {ls_ : zz_L} {rest_ : List Value} (hd_ : 6 ≤ d) : (zz_o (zz_call_ d 108 [.ref 0] (zm N xs M L)) fun r => zz_X (zz_call_ d) tb_ t_ ls_ (r.1.toList ++ rest_) r.2) = zz_X (zz_call_ d) tb_ t_ ls_ ((.int (iI (sN (cmp (rel (bt (W.step 0) 0)) (W.step 0).n) (W.step 0).n / 2 : Nat))) :: rest_) (zm N xs (zz_wI (pf W M m 0) 36 1 (iI (W.step 0).n)) (sL L 37 (fun i => lI (bt (W.step 0) 0 i)) (W.step 0).n)) := (s_108O M L W hk hv hn0 m hm hd40 h13).go hd_
theorem s_203Z (h : M 53 0 = iI 0) : zc 7 203 [.ref 52] M L (some (.int (iI (-4)))) M L := by
  refine zc_of (n := 6) (ls := [some (.ref 52)]) mk_203 rfl rfl rfl rfl (fun d hd N xs => ?_)
  rw [b_203_0, h, if_pos (show iI 0 = (0 : Int32) from rfl)]
  rfl
theorem g_203Z (h : M 53 0 = iI 0) {d N : Nat} {xs : Nat → Int32} {tb_ : List zz_B} {t_ : Nat} {ls_ : zz_L} {rest_ : List Value} (hd_ : 7 ≤ d) : (zz_o (zz_call_ d 203 [.ref 52] (zm N xs M L)) fun r => zz_X (zz_call_ d) tb_ t_ ls_ (r.1.toList ++ rest_) r.2) = zz_X (zz_call_ d) tb_ t_ ls_ ((.int (iI (-4))) :: rest_) (zm N xs M L) := (s_203Z M L h).go hd_
theorem s_203F (W : Vw) (hk : Vk W) (hr : Rv W (M 53) 0) (hn0 : W.n ≠ 0) (h1 : M 52 1 = iI ((40 : Nat) : Int)) : zc 7 203 [.ref 52] M L (some (.int (iI (-2)))) M L := by
  refine zc_of (n := 6) (ls := [some (.ref 52)]) mk_203 rfl rfl rfl rfl (fun d hd N xs => ?_)
  have hn := hk.n
  have e0 : M 53 0 = iI W.n := hr.n
  rw [b_203_0, e0, if_neg (by rw [t_eq, iI_to (by omega) (by omega), show (0 : Int32).toInt = 0 from rfl]; omega), b_203_1, h1, if_pos (show iI ((40 : Nat) : Int) = (40 : Int32) from rfl)]
  rfl
theorem g_203F (W : Vw) (hk : Vk W) (hr : Rv W (M 53) 0) (hn0 : W.n ≠ 0) (h1 : M 52 1 = iI ((40 : Nat) : Int)) {d N : Nat} {xs : Nat → Int32} {tb_ : List zz_B} {t_ : Nat} {ls_ : zz_L} {rest_ : List Value} (hd_ : 7 ≤ d) : (zz_o (zz_call_ d 203 [.ref 52] (zm N xs M L)) fun r => zz_X (zz_call_ d) tb_ t_ ls_ (r.1.toList ++ rest_) r.2) = zz_X (zz_call_ d) tb_ t_ ls_ ((.int (iI (-2))) :: rest_) (zm N xs M L) := (s_203F M L W hk hr hn0 h1).go hd_
theorem s_203O (W : Vw) (hk : Vk W) (hr : Rv W (M 53) 0) (hn0 : W.n ≠ 0) (m : Nat) (hm : m < 40) (hd40 : W.day < 40) (h1 : M 52 1 = iI m) : zc 7 203 [.ref 52] M L (some (.int (iI (pout (fun i j => (W.step 0).mt i j 0) (W.step 0).n (W.step 0).n 0 (0, 0, -9)).1))) (m3 (sI (rwD W M m) 61 (fun i => iI ((W.step 0).minAt i 0)) (W.step 0).n) (pout (fun i j => (W.step 0).mt i j 0) (W.step 0).n (W.step 0).n 0 (0, 0, -9))) L := by
  refine zc_of (n := 6) (ls := [some (.ref 52)]) mk_203 rfl rfl rfl rfl (fun d hd N xs => ?_)
  have hn := hk.n
  have e0 : M 53 0 = iI W.n := hr.n
  have hk2 : Vk (W.step 0) := step_k hk hd40 (Or.inl rfl)
  have e53 : zz_wI (zz_rI M 53 (va_cpy (M 53) (M 53) 0 (40 * (m + 1)) 40)) 52 1 (iI ((m + 1 : Nat) : Int)) 53 = va_cpy (M 53) (M 53) 0 (40 * (m + 1)) 40 := by rw [w_ne (by omega), rr_at]
  have hr1 : Rv W (zz_wI (zz_rI M 53 (va_cpy (M 53) (M 53) 0 (40 * (m + 1)) 40)) 52 1 (iI ((m + 1 : Nat) : Int)) 53) 0 := by rw [e53]; exact cp_Rv hk hr
  have ef : zz_wI (zz_rI (zz_wI (zz_rI M 53 (va_cpy (M 53) (M 53) 0 (40 * (m + 1)) 40)) 52 1 (iI ((m + 1 : Nat) : Int))) 53 (wP W (zz_wI (zz_rI M 53 (va_cpy (M 53) (M 53) 0 (40 * (m + 1)) 40)) 52 1 (iI ((m + 1 : Nat) : Int)) 53) W.n)) 53 1 (iI ((W.day + 1 : Nat) : Int)) = rwD W M m := by
    rw [e53]
    rfl
  rw [b_203_0, e0, if_neg (by rw [t_eq, iI_to (by omega) (by omega), show (0 : Int32).toInt = 0 from rfl]; omega), b_203_1, h1, if_neg (by rw [t_eq, iI_to (by omega) (by omega), show (40 : Int32).toInt = 40 from rfl]; omega), b_203_2, g_198 M L m hm h1 (by omega), b_203_3, g_202 _ L W hk hr1 (by omega), ef, b_203_4, g_201 _ L (W.step 0) hk2 (rwD_R hk hr) (by omega), b_203_5]
theorem g_203O (W : Vw) (hk : Vk W) (hr : Rv W (M 53) 0) (hn0 : W.n ≠ 0) (m : Nat) (hm : m < 40) (hd40 : W.day < 40) (h1 : M 52 1 = iI m) {d N : Nat} {xs : Nat → Int32} {tb_ : List zz_B} {t_ : Nat} {ls_ : zz_L} {rest_ : List Value} (hd_ : 7 ≤ d) : (zz_o (zz_call_ d 203 [.ref 52] (zm N xs M L)) fun r => zz_X (zz_call_ d) tb_ t_ ls_ (r.1.toList ++ rest_) r.2) = zz_X (zz_call_ d) tb_ t_ ls_ ((.int (iI (pout (fun i j => (W.step 0).mt i j 0) (W.step 0).n (W.step 0).n 0 (0, 0, -9)).1)) :: rest_) (zm N xs (m3 (sI (rwD W M m) 61 (fun i => iI ((W.step 0).minAt i 0)) (W.step 0).n) (pout (fun i j => (W.step 0).mt i j 0) (W.step 0).n (W.step 0).n 0 (0, 0, -9))) L) := (s_203O M L W hk hr hn0 m hm hd40 h1).go hd_
end ZR
theorem pf_eqs {V : Vw} {M : Nat → Nat → Int32} {m d : Nat} {p : Nat → Nat → Prop} (h1 : ∀ k, ¬ p 23 k) (h2 : ∀ k, ¬ p 29 k) (h3 : ∀ k, ¬ p 30 k) : eqs M (pf V M m d) p := by
  intro c k hp
  rw [pf_ne _ _ _ _ (fun e => h1 k (by rw [← e]; exact hp)) (fun e => h2 k (by rw [← e]; exact hp)) (fun e => h3 k (by rw [← e]; exact hp))]
theorem rwD_eqs {V : Vw} {M : Nat → Nat → Int32} {m : Nat} {p : Nat → Nat → Prop} (h1 : ∀ k, ¬ p 53 k) (h2 : ¬ p 52 1) : eqs M (rwD V M m) p := (((eqs.rf.r h1).w h2).r h1).w (h1 1)
theorem rwT_eqs {V : Vw} {M : Nat → Nat → Int32} {m i : Nat} {y : Int} {p : Nat → Nat → Prop} (h1 : ∀ k, ¬ p 53 k) (h2 : ¬ p 52 1) : eqs M (rwT V M m i y) p := (((eqs.rf.r h1).w h2).w (h1 _)).w (h1 _)
theorem rwD_ne {V : Vw} {M : Nat → Nat → Int32} {m c : Nat} (h1 : c ≠ 53) (h2 : c ≠ 52) : rwD V M m c = M c := by
  unfold rwD
  rw [w_ne h1, rr_ne h1, w_ne h2, rr_ne h1]
theorem rwD_1 {V : Vw} {M : Nat → Nat → Int32} {m : Nat} : rwD V M m 52 1 = iI ((m + 1 : Nat) : Int) := by
  unfold rwD
  rw [w_ne (by omega), rr_ne (by omega), w_at]
theorem m3_1 (M : Nat → Nat → Int32) (s : Nat × Nat × Int) : m3 M s 52 1 = M 52 1 := by
  unfold m3
  rw [w_nk (by omega), w_nk (by omega)]
theorem o_day {M : Nat → Nat → Int32} {L : Nat → Nat → Int64} (hI : Inv M L) : Ok 108 203 [] M L := by
  obtain ⟨V, D, m, K, E, h⟩ := hI.2.2.2.2.1.hd
  have hk := h.nk
  have hv : Hv (V.run D m) M := h.2.2.2.2.2.2.2.2.1
  have hr : Rv (V.run D m) (M 53) 0 := h.2.2.2.2.2.2.2.2.2.1.2.2.1
  have h13 : M 23 13 = iI m := h.2.2.2.2.1
  have h521 : M 52 1 = iI m := h.2.2.2.2.2.1
  have hm40 : m ≤ 40 := h.2.2.2.2.2.2.2.2.2.1.1
  have hday := run_day h.2.1 D m
  have hVn := run_n V D m
  by_cases q0 : (V.run D m).n = 0
  · exact Ok.same hI (s_108Z M L (by rw [hv.n, q0]; rfl)) (s_203Z M L (by rw [hr.n, q0]; rfl)) (by omega) (by omega)
  · by_cases q1 : m = 40
    · exact Ok.same hI (s_108F M L _ hk hv q0 (by rw [h13, q1])) (s_203F M L _ hk hr q0 (by rw [h521, q1])) (by omega) (by omega)
    · have g1 := s_108O M L _ hk hv q0 m (by omega) (by omega) h13
      rw [nPairs] at g1
      have e53 : zz_wI (pf (V.run D m) M m 0) 36 1 (iI ((V.run D m).step 0).n) 53 = M 53 := by rw [w_ne (by omega), pf_ne _ _ _ _ (by omega) (by omega) (by omega)]
      have e52 : zz_wI (pf (V.run D m) M m 0) 36 1 (iI ((V.run D m).step 0).n) 52 = M 52 := by rw [w_ne (by omega), pf_ne _ _ _ _ (by omega) (by omega) (by omega)]
      have e54 : zz_wI (pf (V.run D m) M m 0) 36 1 (iI ((V.run D m).step 0).n) 54 = M 54 := by rw [w_ne (by omega), pf_ne _ _ _ _ (by omega) (by omega) (by omega)]
      have hr1 : Rv (V.run D m) (zz_wI (pf (V.run D m) M m 0) 36 1 (iI ((V.run D m).step 0).n) 53) 0 := by rw [e53]; exact hr
      have g2 := s_203O (zz_wI (pf (V.run D m) M m 0) 36 1 (iI ((V.run D m).step 0).n)) (sL L 37 (fun i => lI (bt ((V.run D m).step 0) 0 i)) ((V.run D m).step 0).n) _ hk hr1 q0 m (by omega) (by omega) (by rw [e52]; exact h521)
      refine ⟨_, _, _, _, _, g1.mono (by omega), g2.mono (by omega), ?_⟩
      have big : ∀ p : Nat → Nat → Prop, (∀ k, ¬ p 23 k) → (∀ k, ¬ p 29 k) → (∀ k, ¬ p 30 k) → ¬ p 36 1 → (∀ k, ¬ p 53 k) → ¬ p 52 1 → (∀ k, ¬ p 61 k) → ¬ p 52 15 → ¬ p 52 16 → eqs M (m3 (sI (rwD (V.run D m) (zz_wI (pf (V.run D m) M m 0) 36 1 (iI ((V.run D m).step 0).n)) m) 61 (fun i => iI (((V.run D m).step 0).minAt i 0)) ((V.run D m).step 0).n) (pout (fun i j => ((V.run D m).step 0).mt i j 0) ((V.run D m).step 0).n ((V.run D m).step 0).n 0 (0, 0, -9))) p := fun p a1 a2 a3 a4 a5 a6 a7 a8 a9 => ((((((pf_eqs a1 a2 a3).w a4).tr (rwD_eqs a5 a6)).r a7).w a8).w a9)
      refine ⟨hI.1.cg (big pR ?_ ?_ ?_ ?_ ?_ ?_ ?_ ?_ ?_), hI.2.1.cg (big pT ?_ ?_ ?_ ?_ ?_ ?_ ?_ ?_ ?_), hI.2.2.1.cg (big pD ?_ ?_ ?_ ?_ ?_ ?_ ?_ ?_ ?_), hI.2.2.2.1.cg (big pF ?_ ?_ ?_ ?_ ?_ ?_ ?_ ?_ ?_), ?_, hI.2.2.2.2.2.cg (sL_SL _ _ _ _ (by omega) (by omega))⟩
      all_goals first | (unfold pR; omega) | (unfold pT; omega) | (unfold pD; omega) | (unfold pF; omega) | skip
      refine HD.hs (HD.act (x := 0) h (by omega) (Or.inl rfl) (by omega) ?_ ?_ ?_ ?_ ?_ ?_)
      · intro c c1 c2
        rw [m3_ne _ _ (by omega), sI_ne (by omega), rwD_ne (by omega) (by omega), w_ne (by omega)]
      · rw [m3_1, sI_ne (by omega), rwD_1]
      · rw [m3_ne _ _ (by omega), sI_ne (by omega), rwD_ne (by omega) (by omega), e54]
      · rw [m3_ne _ _ (by omega), sI_ne (by omega)]
        exact rwD_R hk hr1
      · intro k hk40
        rw [m3_ne _ _ (by omega), sI_ne (by omega), rwD_53, if_neg (by omega), wP_out hk.n (by omega), e53, cp_in hk40]
      · intro k k1 k2 k3
        rw [m3_ne _ _ (by omega), sI_ne (by omega), rwD_53, if_neg (by omega), wP_out hk.n (by omega), e53, cp_out k3]

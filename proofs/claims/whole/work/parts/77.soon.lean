/-! soon, of both. -/
def p2 (c k : Nat) : Prop := c ≠ 52 ∨ (k ≠ 17 ∧ k ≠ 18)
theorem m2_p2 (M : Nat → Nat → Int32) (x y : Int) : eqs M (m2 M x y) p2 := (eqs.rf.w (by unfold p2; omega)).w (by unfold p2; omega)
theorem p2_53 {M M' : Nat → Nat → Int32} (h : eqs M M' p2) : M' 53 = M 53 := h.col 53 (fun k => Or.inl (by omega))
theorem p2_A {M M' : Nat → Nat → Int32} (h : eqs M M' p2) : eqs M M' pA := h.im (fun c k q => by unfold pA pR pT pD pF pH at q; unfold p2; omega)
abbrev anyM (V : Vw) (k : Nat) : Prop := anyP (rel (bt V k)) V.n
theorem n9 : (-9 : Int32) = iI (-9) := rfl
def p36 (c k : Nat) : Prop := c ≠ 36 ∨ k ≠ 1
section ZL
variable (L : Nat → Nat → Int64) {V : Vw}
theorem l_116 (hk : Vk V) : ∀ (c k : Nat) (M : Nat → Nat → Int32) (L : Nat → Nat → Int64), k + c = 421 → Hv V M → ∃ M' L', eqs M M' p36 ∧ SL L L' ∧ ∀ d, 4 ≤ d → ∀ N xs, zz_X (zz_call_ d) tb_116 1 [some (.ref 0), some (.int (iI (V.warm k))), some (.int (iI k))] [] (zm N xs M L) = if fx (anyM V) c k < 421 then some (some (.int (iI (fx (anyM V) c k))), zm N xs (zz_wI M' 0 10 (iI (oI (lout (rel (bt V (fx (anyM V) c k))) V.n V.n 0)))) L') else some (some (.int (iI (-9))), zm N xs M' L')
  | 0, k, M, L, hc, hv => by
    refine ⟨M, L, eqs.rf, SL.rf, fun d hd N xs => ?_⟩
    rw [b_116_1, if_pos (by rw [t_lt, show (420 : Int32).toInt = 420 from rfl, iI_to (by omega) (by omega)]; omega), b_116_7]
    unfold fx
    rw [if_neg (by omega)]
    rfl
  | c + 1, k, M, L, hc, hv => by
    have hm := Ms_see M L 36 V hk k
    have hv2 : Hv V (zz_wI M 36 1 (iI V.n)) := hv.cg (eqs.rf.w (by unfold pH; omega))
    have ef : fx (anyM V) (c + 1) k = if anyM V k then k else fx (anyM V) c (k + 1) := rfl
    by_cases q : anyM V k
    · refine ⟨zz_wI M 36 1 (iI V.n), sL L 37 (fun i => lI (bt V k i)) V.n, eqs.rf.w (by unfold p36; omega), sL_SL _ _ _ _ (by omega) (by omega), fun d hd N xs => ?_⟩
      rw [ef, if_pos q, if_pos (by omega), b_116_1, if_neg (by rw [t_lt, show (420 : Int32).toInt = 420 from rfl, iI_to (by omega) (by omega)]; omega), g_62a M L V hk hv k (by omega) (by omega), b_116_2, g_65a _ _ V.n _ hm (by omega), b2_t q, b_116_3, if_neg (show ¬ iI 1 = (0 : Int32) from iI10), g_70 _ _ V.n _ hm (by omega), b_116_4]
    · obtain ⟨M', L', r1, r2, r3⟩ := l_116 hk c (k + 1) (zz_wI M 36 1 (iI V.n)) (sL L 37 (fun i => lI (bt V k i)) V.n) (by omega) hv2
      refine ⟨M', L', (eqs.rf.w (by unfold p36; omega)).tr r1, (sL_SL _ _ _ _ (by omega) (by omega)).tr r2, fun d hd N xs => ?_⟩
      rw [ef, if_neg q, b_116_1, if_neg (by rw [t_lt, show (420 : Int32).toInt = 420 from rfl, iI_to (by omega) (by omega)]; omega), g_62a M L V hk hv k (by omega) (by omega), b_116_2, g_65a _ _ V.n _ hm (by omega), b2_f q, b_116_3, if_pos (show iI 0 = (0 : Int32) from rfl), b_116_5, g_42 _ _ V hk hv2 k (by omega) (by omega), b_116_6, iI_add, iI_lit, iI_add]
      exact r3 d hd N xs
abbrev fm (V : Vw) (i j : Nat) : Nat := fx (V.mt i j) 421 0
theorem l_217i (hk : Vk V) (i : Nat) (hi : i < V.n) : ∀ (c j : Nat) (s : Nat × Nat) (M : Nat → Nat → Int32) (o : Option Value), j + c = V.n → s.1 ≤ 1000000 → Rv V (M 53) 0 → ∃ M' o', eqs M M' p2 ∧ ∀ d, 4 ≤ d → ∀ N xs, zz_X (zz_call_ d) tb_217 2 [some (.ref 52), some (.int (iI s.1)), some (.int (iI s.2)), some (.int (iI i)), some (.int (iI j)), o] [] (zm N xs M L) = zz_X (zz_call_ d) tb_217 1 [some (.ref 52), some (.int (iI (sin (fm V) i c j s).1)), some (.int (iI (sin (fm V) i c j s).2)), some (.int (iI ((i + 1 : Nat) : Int))), some (.int (iI V.n)), o'] [] (zm N xs M' L)
  | 0, j, s, M, o, hc, hs, hr => by
    have hn := hk.n
    have e0 : M 53 0 = iI V.n := hr.n
    refine ⟨M, o, eqs.rf, fun d hd N xs => ?_⟩
    rw [b_217_2, e0, if_pos (by rw [t_le, iI_to (by omega) (by omega), iI_to (by omega) (by omega)]; omega), b_217_8, iI_lit, iI_add, show j = V.n by omega]
    rfl
  | c + 1, j, s, M, o, hc, hs, hr => by
    have hn := hk.n
    have e0 : M 53 0 = iI V.n := hr.n
    have hb := fx_le (V.mt i j) 421 0
    have hbf : fm V i j = fx (V.mt i j) 421 0 := rfl
    have hsl := sst_le (fm V) i j s
    have hr2 : Rv V (m2 M (V.minAt i (fm V i j)) (V.minAt j (fm V i j)) 53) 0 := by rw [m2_53]; exact hr
    obtain ⟨M', o', r1, r2⟩ := l_217i hk i hi c (j + 1) (sst (fm V) i j s) (m2 M (V.minAt i (fm V i j)) (V.minAt j (fm V i j))) (some (.int (iI (if fm V i j < 421 then ((fm V i j : Nat) : Int) else -9)))) (by omega) (by omega) hr2
    refine ⟨M', o', (m2_p2 _ _ _).tr r1, fun d hd N xs => ?_⟩
    have ih := r2 d hd N xs
    rw [b_217_2, e0, if_neg (by rw [t_le, iI_to (by omega) (by omega), iI_to (by omega) (by omega)]; omega), g_214 M L V hk hr i j hi (by omega) (by omega), b_217_3]
    show _ = zz_X (zz_call_ d) tb_217 1 [some (.ref 52), some (.int (iI (sin (fm V) i c (j + 1) (sst (fm V) i j s)).1)), some (.int (iI (sin (fm V) i c (j + 1) (sst (fm V) i j s)).2)), some (.int (iI ((i + 1 : Nat) : Int))), some (.int (iI V.n)), o'] [] (zm N xs M' L)
    rw [← ih]
    clear ih r2
    by_cases q : fm V i j < 421
    · rw [if_pos q, n9, if_neg (by rw [t_eq, iI_to (by omega) (by omega), iI_to (by omega) (by omega)]; omega)]
      by_cases q2 : fm V i j < s.1
      · have es : sst (fm V) i j s = (fm V i j, 6 * i + j) := if_pos ⟨q, q2⟩
        rw [es, if_neg (by rw [t_le, iI_to (by omega) (by omega), iI_to (by omega) (by omega)]; omega), b_217_5, n9, if_neg (by rw [t_eq, iI_to (by omega) (by omega), iI_to (by omega) (by omega)]; omega), if_neg (by rw [t_le, iI_to (by omega) (by omega), iI_to (by omega) (by omega)]; omega), b_217_7, iI_lit, iI_lit, iI_mul, iI_add, iI_add]
        rfl
      · have es : sst (fm V) i j s = s := if_neg (fun h => q2 h.2)
        rw [es, if_pos (by rw [t_le, iI_to (by omega) (by omega), iI_to (by omega) (by omega)]; omega), b_217_4, b_217_5, n9, if_neg (by rw [t_eq, iI_to (by omega) (by omega), iI_to (by omega) (by omega)]; omega), if_pos (by rw [t_le, iI_to (by omega) (by omega), iI_to (by omega) (by omega)]; omega), b_217_6, b_217_7, iI_lit, iI_add]
        rfl
    · have es : sst (fm V) i j s = s := if_neg (fun h => q h.1)
      rw [es, if_neg q, n9, if_pos rfl, b_217_4, b_217_5, n9, if_pos rfl, b_217_6, b_217_7, iI_lit, iI_add]
      rfl
theorem l_217 (hk : Vk V) : ∀ (c i : Nat) (s : Nat × Nat) (M : Nat → Nat → Int32) (o o2 : Option Value), i + c = V.n → s.1 ≤ 1000000 → Rv V (M 53) 0 → ∃ M' o' o2', eqs M M' p2 ∧ ∀ d, 4 ≤ d → ∀ N xs, zz_X (zz_call_ d) tb_217 1 [some (.ref 52), some (.int (iI s.1)), some (.int (iI s.2)), some (.int (iI i)), o, o2] [] (zm N xs M L) = zz_X (zz_call_ d) tb_217 9 [some (.ref 52), some (.int (iI (sout (fm V) V.n c i s).1)), some (.int (iI (sout (fm V) V.n c i s).2)), some (.int (iI V.n)), o', o2'] [] (zm N xs M' L)
  | 0, i, s, M, o, o2, hc, hs, hr => by
    have hn := hk.n
    have e0 : M 53 0 = iI V.n := hr.n
    refine ⟨M, o, o2, eqs.rf, fun d hd N xs => ?_⟩
    rw [b_217_1, e0, if_pos (by rw [t_le, iI_to (by omega) (by omega), iI_to (by omega) (by omega)]; omega), show i = V.n by omega]
    rfl
  | c + 1, i, s, M, o, o2, hc, hs, hr => by
    have hn := hk.n
    have e0 : M 53 0 = iI V.n := hr.n
    have hsl := sin_le (fm V) i (V.n - (i + 1)) (i + 1) s
    obtain ⟨M1, o1, r1, r2⟩ := l_217i L hk i (by omega) (V.n - (i + 1)) (i + 1) s M o2 (by omega) hs hr
    obtain ⟨M', o', o2', r3, r4⟩ := l_217 hk c (i + 1) (sin (fm V) i (V.n - (i + 1)) (i + 1) s) M1 (some (.int (iI V.n))) o1 (by omega) (by omega) (by rw [p2_53 r1]; exact hr)
    refine ⟨M', o', o2', r1.tr r3, fun d hd N xs => ?_⟩
    rw [b_217_1, e0, if_neg (by rw [t_le, iI_to (by omega) (by omega), iI_to (by omega) (by omega)]; omega), iI_lit, iI_add]
    exact (r2 d hd N xs).trans (r4 d hd N xs)
end ZL
theorem soon_T {V : Vw} (h : fx (anyM V) 421 0 < 421) : ∃ v, lout (rel (bt V (fx (anyM V) 421 0))) V.n V.n 0 = some v ∧ sout (fm V) V.n V.n 0 (1000000, 0) = (fx (anyM V) 421 0, v) := by
  have hp := fx_is (p := anyM V) 421 0 (by omega)
  have hlow : ∀ i j, i < j → j < V.n → fx (anyM V) 421 0 ≤ fm V i j := by
    intro i j h1 h2
    have hb := fx_le (V.mt i j) 421 0
    have hbf : fm V i j = fx (V.mt i j) 421 0 := rfl
    by_cases q : fm V i j < 421
    · have hm := fx_is (p := V.mt i j) 421 0 (by omega)
      exact fx_at (Nat.zero_le _) ⟨j, h2, i, h1, (rel_mt V _ i j).2 hm⟩
    · omega
  have hcg : ∀ i j, i < j → j < V.n → (rel (bt V (fx (anyM V) 421 0)) i j ↔ fm V i j = fx (anyM V) 421 0) := by
    intro i j h1 h2
    rw [rel_mt]
    constructor
    · intro hm
      have h3 := fx_at (p := V.mt i j) (c := 421) (Nat.zero_le _) hm
      have h4 := hlow i j h1 h2
      exact Nat.le_antisymm h3 h4
    · intro e
      have hm := fx_is (p := V.mt i j) 421 0 (by show fm V i j < _; omega)
      rw [← e]
      exact hm
  have hc2 := lout_c2 (n := V.n) hcg V.n 0 (by omega)
  obtain ⟨j, hj, i, hi, hr⟩ := hp
  have hne := lout_in (p := rel (bt V (fx (anyM V) 421 0))) (n := V.n) (c := V.n) (i := 0) (by omega) (by omega) hi hj hr
  have h3 := (sout_3 (f := fm V) h hlow V.n 0 (1000000, 0) (by omega)).2 (by show _ < 1000000; omega)
  cases q : lout (rel (bt V (fx (anyM V) 421 0))) V.n V.n 0 with
  | none => exact absurd q hne
  | some v =>
    rw [q] at hc2
    rw [← hc2] at h3
    exact ⟨v, rfl, h3⟩
theorem soon_N {V : Vw} (h : ¬ fx (anyM V) 421 0 < 421) : sout (fm V) V.n V.n 0 (1000000, 0) = (1000000, 0) := by
  refine sout_no (fun i j h1 h2 q => ?_) V.n 0 _ (by omega)
  have hm := fx_is (p := V.mt i j) 421 0 (by omega)
  have := fx_at (p := anyM V) (c := 421) (Nat.zero_le (fm V i j)) ⟨j, h2, i, h1, (rel_mt V _ i j).2 hm⟩
  omega
theorem o_soon {M : Nat → Nat → Int32} {L : Nat → Nat → Int64} (hI : Inv M L) : Ok 116 217 [] M L := by
  obtain ⟨V, hk, hv, hr⟩ := hI.view
  have hn := hk.n
  obtain ⟨M1, L1, r1, r2, r3⟩ := l_116 hk 421 0 M L (by omega) hv
  have e1 : eqs M M1 pA := r1.im (fun c k q => by unfold pA pR pT pD pF pH at q; unfold p36; omega)
  have e53 : M1 53 = M 53 := r1.col 53 (fun k => Or.inl (by omega))
  by_cases q : fx (anyM V) 421 0 < 421
  · obtain ⟨v, hv1, hs⟩ := soon_T q
    rw [hv1] at r3
    obtain ⟨M2, o2, o3, p1, p3⟩ := l_217 L1 hk V.n 0 (1000000, 0) (zz_wI M1 0 10 (iI v)) none none (by omega) (Nat.le_refl _) (by rw [w_ne (by omega), e53]; exact hr)
    rw [hs] at p3
    refine Ok.tells (n := 5) (n' := 5) (v := .int (iI (fx (anyM V) 421 0))) (x := iI v) (M1 := zz_wI M1 0 10 (iI v)) (L1 := L1) (M2 := zz_wI M2 52 10 (iI v)) (L2 := L1) hI ?_ ?_ (eqs.ww e1) (eqs.ww (p2_A p1)) r2 SL.rf (by omega) (by omega)
    · refine zc_of (n := 4) (ls := [some (.ref 0), none, none]) mk_116 rfl rfl rfl rfl (fun d hd N xs => ?_)
      rw [b_116_0]
      refine (r3 d hd N xs).trans ?_
      rw [if_pos q]
      rfl
    · refine zc_of (n := 4) (ls := [some (.ref 52), none, none, none, none, none]) mk_217 rfl rfl rfl rfl (fun d hd N xs => ?_)
      rw [b_217_0]
      refine (p3 d hd N xs).trans ?_
      rw [b_217_9, show (1000000 : Int32) = iI 1000000 from rfl, if_neg (by rw [t_eq, iI_to (by omega) (by omega), iI_to (by omega) (by omega)]; omega), b_217_10, g_162 _ _ _ _ (by omega), b_217_11]
  · have hs := soon_N q
    obtain ⟨M2, o2, o3, p1, p3⟩ := l_217 L1 hk V.n 0 (1000000, 0) M1 none none (by omega) (Nat.le_refl _) (by rw [e53]; exact hr)
    rw [hs] at p3
    refine ⟨.int (iI (-9)), M1, L1, M2, L1, zc.mono (n := 5) ?_ (by omega), zc.mono (n := 5) ?_ (by omega), hI.cg (e1.tr (p2_A p1)) r2⟩
    · refine zc_of (n := 4) (ls := [some (.ref 0), none, none]) mk_116 rfl rfl rfl rfl (fun d hd N xs => ?_)
      rw [b_116_0]
      refine (r3 d hd N xs).trans ?_
      rw [if_neg q]
    · refine zc_of (n := 4) (ls := [some (.ref 52), none, none, none, none, none]) mk_217 rfl rfl rfl rfl (fun d hd N xs => ?_)
      rw [b_217_0]
      refine (p3 d hd N xs).trans ?_
      rw [b_217_9, if_pos (show iI (((1000000, 0) : Nat × Nat).1 : Nat) = (1000000 : Int32) from rfl), b_217_11]
      rfl

/-! she and the cat: both alike. -/
theorem p46_A (M : Nat → Nat → Int32) (x : Int32) : eqs M (zz_wI M 46 1 x) pA := eqs.rf.w (by unfold pA pR pT pD pF pH; omega)
theorem n46_53 (M : Nat → Nat → Int32) (x : Int32) : (zz_wI M 46 1 x) 53 = M 53 := w_ne (by omega)
theorem o_cat {M : Nat → Nat → Int32} {L : Nat → Nat → Int64} (a : Int32) (hI : Inv M L) : Ok 129 243 [.int a] M L := by
  obtain ⟨z, h1, h2, rfl⟩ := iI_of a
  obtain ⟨V, hk, hv, hr⟩ := hI.view
  have hn := hk.n
  by_cases q : 0 ≤ z ∧ z ≤ 2
  · obtain ⟨t, rfl⟩ : ∃ x : Nat, z = x := ⟨z.toNat, by omega⟩
    have pre : ∀ (M' : Nat → Nat → Int32) (L' : Nat → Nat → Int64) d, 1 ≤ d → ∀ N xs, zz_X (zz_call_ d) tb_243 0 [some (.ref 52), some (.int (iI t))] [] (zm N xs M' L') = if M' 53 0 = 0 then some (some (.int (-4)), zm N xs M' L') else zz_X (zz_call_ d) tb_243 3 [some (.ref 52), some (.int (iI t))] [] (zm N xs M' L') := by
      intro M' L' d hd N xs
      rw [b_243_0, iI_long (by omega) (by omega), lI_lit, lI_lit, g_157 M' L' t 0 2 (by omega) (by omega) (by omega) (by omega) (by omega) (by omega) (by omega), b2_t (by omega), b_243_1, if_neg (show ¬ iI 1 = (0 : Int32) from iI10), b_243_2]
    have pc : ∀ d N xs, zz_X (zz_call_ d) tb_129 0 [some (.ref 0), some (.int (iI t))] [] (zm N xs M L) = if M 23 10 = 0 then some (some (.int (-4)), zm N xs M L) else zz_X (zz_call_ d) tb_129 3 [some (.ref 0), some (.int (iI t))] [] (zm N xs M L) := by
      intro d N xs
      rw [b_129_0, if_neg (by rw [t_lt, show (0 : Int32).toInt = 0 from rfl, iI_to (by omega) (by omega)]; omega), if_pos (by rw [t_le, show (2 : Int32).toInt = 2 from rfl, iI_to (by omega) (by omega)]; omega), b_129_2]
    by_cases q0 : V.n = 0
    · refine Ok.same (n := 2) (n' := 2) (v := .int (-4)) hI ?_ ?_ (by omega) (by omega)
      · refine zc_of (n := 1) (ls := [some (.ref 0), some (.int (iI t))]) mk_129 rfl rfl rfl rfl (fun d hd N xs => ?_)
        rw [pc, if_pos (by rw [hv.n, q0]; rfl)]
      · refine zc_of (n := 1) (ls := [some (.ref 52), some (.int (iI t))]) mk_243 rfl rfl rfl rfl (fun d hd N xs => ?_)
        rw [pre _ _ d hd, if_pos (by rw [hr.n, q0]; rfl)]
    · have c1 : zc 13 129 [.ref 0, .int (iI t)] M L (some (.int (b2 (eB V (2 * t) (fun i => V.minAt i 0) = true)))) (zz_wI M 46 1 (iI V.n)) (sL L 47 (fun i => lI (rg (V.minAt i 0).toNat (span (V.kind i)))) V.n) := by
        refine zc_of (n := 12) (ls := [some (.ref 0), some (.int (iI t))]) mk_129 rfl rfl rfl rfl (fun d hd N xs => ?_)
        rw [pc, if_neg (by rw [hv.n, t_eq, show (0 : Int32).toInt = 0 from rfl, iI_to (by omega) (by omega)]; omega), b_129_3, (x_88 hk t (by omega) M L hv).go hd, b_129_4]
        by_cases qe : eB V (2 * t) (fun i => V.minAt i 0) = true
        · rw [b2_t qe, if_neg (show ¬ iI 1 = (0 : Int32) from iI10), b_129_6]
          rfl
        · rw [b2_f qe, if_pos (show iI 0 = (0 : Int32) from rfl), b_129_5, b_129_6]
          rfl
      have hr1 : Rv V ((zz_wI M 46 1 (iI V.n)) 53) 0 := by rw [n46_53]; exact hr
      have hne : ¬ (zz_wI M 46 1 (iI V.n)) 53 0 = 0 := by rw [hr1.n, t_eq, show (0 : Int32).toInt = 0 from rfl, iI_to (by omega) (by omega)]; omega
      have hsl := sL_SL L 47 (fun i => lI (rg (V.minAt i 0).toNat (span (V.kind i)))) V.n (by omega) (by omega)
      have l78 : ∀ (P : Prop) [Decidable P] (M' : Nat → Nat → Int32) (L' : Nat → Nat → Int64) d N xs, (if P then zz_X (zz_call_ d) tb_243 7 [some (.ref 52), some (.int (iI t))] [] (zm N xs M' L') else zz_X (zz_call_ d) tb_243 8 [some (.ref 52), some (.int (iI t))] [] (zm N xs M' L')) = some (some (.int (b2 P)), zm N xs M' L') := by
        intro P _ M' L' d N xs
        by_cases qp : P
        · rw [if_pos qp, b_243_7, b_243_9, b2_t qp]; rfl
        · rw [if_neg qp, b_243_8, b_243_9, b2_f qp]; rfl
      by_cases qt : t = 0
      · subst qt
        have hz0 : (pout (fun i j => V.mt i j 0) V.n V.n 0 (0, 0, -9)).1 = 0 ↔ ¬ anyP (mtA V (fun i => V.minAt i 0)) V.n := po_z (fun i j => V.mt i j 0) V.n
        have hzb : (pout (fun i j => V.mt i j 0) V.n V.n 0 (0, 0, -9)).1 ≤ 36 := po_b (fun i j => V.mt i j 0) V.n hn
        have e0 : eB V (2 * 0) (fun i => V.minAt i 0) = decide (¬ anyP (mtA V (fun i => V.minAt i 0)) V.n) := rfl
        have eA : eqs (zz_wI M 46 1 (iI V.n)) (sI (zz_wI M 46 1 (iI V.n)) 61 (fun i => iI (V.minAt i 0)) V.n) pA := eqs.rf.r (fun j => by unfold pA pR pT pD pF pH; omega)
        refine ⟨_, _, _, m3 (sI (zz_wI M 46 1 (iI V.n)) 61 (fun i => iI (V.minAt i 0)) V.n) (pout (fun i j => V.mt i j 0) V.n V.n 0 (0, 0, -9)), sL L 47 (fun i => lI (rg (V.minAt i 0).toNat (span (V.kind i)))) V.n, c1.mono (by omega), zc.mono (n := 7) (zc_of (n := 6) (ls := [some (.ref 52), some (.int (iI ((0 : Nat) : Int)))]) mk_243 rfl rfl rfl rfl (fun d hd N xs => ?_)) (by omega), hI.cg (((p46_A M (iI V.n)).tr eA).tr (p15_A (m3_p15 _ _))) hsl⟩
        rw [pre _ _ d (by omega), if_neg hne, b_243_3, if_pos (show iI ((0 : Nat) : Int) = (0 : Int32) from rfl), g_201 _ _ V hk hr1 (by omega), b_243_4, l78]
        have this : (iI ((pout (fun i j => V.mt i j 0) V.n V.n 0 (0, 0, -9)).1 : Nat) = (0 : Int32)) ↔ eB V (2 * 0) (fun i => V.minAt i 0) = true := by
          rw [t_eq, show (0 : Int32).toInt = 0 from rfl, iI_to (by omega) (by omega), e0, decide_eq_true_eq, ← hz0]
          omega
        by_cases qe : eB V (2 * 0) (fun i => V.minAt i 0) = true
        · rw [b2_t qe, b2_t (this.2 qe)]
        · rw [b2_f qe, b2_f (fun h => qe (this.1 h))]
      · obtain ⟨s, rfl⟩ : ∃ s, t = s + 1 := ⟨t - 1, by omega⟩
        obtain ⟨M2, r1, r2⟩ := x_242 (sL L 47 (fun i => lI (rg (V.minAt i 0).toNat (span (V.kind i)))) V.n) hk s (by omega) (zz_wI M 46 1 (iI V.n)) hr1
        have hb := eB_fM V (2 * s + 1) (by omega) (fun i => V.minAt i 0)
        have hf := fM_n (fun mv => eB V (2 * s + 1) (sh (fun i => V.minAt i 0) mv)) (2 * V.n) 0
        refine ⟨_, _, _, M2, (sL L 47 (fun i => lI (rg (V.minAt i 0).toNat (span (V.kind i)))) V.n), c1.mono (by omega), zc.mono (n := 9) (zc_of (n := 8) (ls := [some (.ref 52), some (.int (iI ((s + 1 : Nat) : Int)))]) mk_243 rfl rfl rfl rfl (fun d hd N xs => ?_)) (by omega), hI.cg ((p46_A M (iI V.n)).tr r1) hsl⟩
        rw [pre _ _ d (by omega), if_neg hne, b_243_3, if_neg (by rw [t_eq, show (0 : Int32).toInt = 0 from rfl, iI_to (by omega) (by omega)]; omega), b_243_5, r2.go hd, b_243_6]
        by_cases q9 : fM (fun mv => eB V (2 * s + 1) (sh (fun i => V.minAt i 0) mv)) (2 * V.n) 0 = -9
        · rw [q9, if_pos (show iI (-9) = (-9 : Int32) from rfl), b_243_8, b_243_9, b2_f (by rw [show 2 * (s + 1) = 2 * s + 1 + 1 by omega, hb]; exact fun h => h q9)]
          rfl
        · rw [if_neg (by rw [t_eq, show (-9 : Int32).toInt = -9 from rfl, iI_to (by omega) (by omega)]; exact q9), b_243_7, b_243_9, b2_t (by rw [show 2 * (s + 1) = 2 * s + 1 + 1 by omega, hb]; exact q9)]
          rfl
  · refine Ok.same (n := 2) (n' := 2) (v := .int (-1)) hI ?_ ?_ (by omega) (by omega)
    · refine zc_of (n := 1) (ls := [some (.ref 0), some (.int (iI z))]) mk_129 rfl rfl rfl rfl (fun d hd N xs => ?_)
      rw [b_129_0]
      by_cases q1 : z < 0
      · rw [if_pos (by rw [t_lt, show (0 : Int32).toInt = 0 from rfl, iI_to (by omega) (by omega)]; omega), b_129_1]
      · rw [if_neg (by rw [t_lt, show (0 : Int32).toInt = 0 from rfl, iI_to (by omega) (by omega)]; omega), if_neg (by rw [t_le, show (2 : Int32).toInt = 2 from rfl, iI_to (by omega) (by omega)]; omega), b_129_1]
    · refine zc_of (n := 1) (ls := [some (.ref 52), some (.int (iI z))]) mk_243 rfl rfl rfl rfl (fun d hd N xs => ?_)
      rw [b_243_0, iI_long (by omega) (by omega), lI_lit, lI_lit, g_157 M L z 0 2 (by omega) (by omega) (by omega) (by omega) (by omega) (by omega) (by omega), b2_f q, b_243_1, if_pos (show iI 0 = (0 : Int32) from rfl)]
theorem o_first {M : Nat → Nat → Int32} {L : Nat → Nat → Int64} (a : Int32) (hI : Inv M L) : Ok 130 244 [.int a] M L := by
  obtain ⟨z, h1, h2, rfl⟩ := iI_of a
  obtain ⟨V, hk, hv, hr⟩ := hI.view
  have hn := hk.n
  by_cases q : 1 ≤ z ∧ z ≤ 2
  · obtain ⟨s, rfl⟩ : ∃ x : Nat, z = ((x + 1 : Nat) : Int) := ⟨z.toNat - 1, by omega⟩
    by_cases q0 : V.n = 0
    · refine Ok.same (n := 2) (n' := 2) (v := .int (-4)) hI ?_ ?_ (by omega) (by omega)
      · refine zc_of (n := 1) (ls := [some (.ref 0), some (.int (iI ((s + 1 : Nat) : Int)))]) mk_130 rfl rfl rfl rfl (fun d hd N xs => ?_)
        rw [b_130_0, if_neg (by rw [t_lt, show (1 : Int32).toInt = 1 from rfl, iI_to (by omega) (by omega)]; omega), if_pos (by rw [t_le, show (2 : Int32).toInt = 2 from rfl, iI_to (by omega) (by omega)]; omega), b_130_2, if_pos (by rw [hv.n, q0]; rfl)]
      · refine zc_of (n := 1) (ls := [some (.ref 52), some (.int (iI ((s + 1 : Nat) : Int)))]) mk_244 rfl rfl rfl rfl (fun d hd N xs => ?_)
        rw [b_244_0, iI_long (by omega) (by omega), lI_lit, lI_lit, g_157 M L _ 1 2 (by omega) (by omega) (by omega) (by omega) (by omega) (by omega) (by omega), b2_t (by omega), b_244_1, if_neg (show ¬ iI 1 = (0 : Int32) from iI10), b_244_2, if_pos (by rw [hr.n, q0]; rfl), b_244_4]
    · have hr1 : Rv V ((zz_wI M 46 1 (iI V.n)) 53) 0 := by rw [n46_53]; exact hr
      have hne : ¬ (zz_wI M 46 1 (iI V.n)) 53 0 = 0 := by rw [hr1.n, t_eq, show (0 : Int32).toInt = 0 from rfl, iI_to (by omega) (by omega)]; omega
      have hsl := sL_SL L 47 (fun i => lI (rg (V.minAt i 0).toNat (span (V.kind i)))) V.n (by omega) (by omega)
      obtain ⟨M2, r1, r2⟩ := x_242 (sL L 47 (fun i => lI (rg (V.minAt i 0).toNat (span (V.kind i)))) V.n) hk s (by omega) (zz_wI M 46 1 (iI V.n)) hr1
      refine ⟨.int (iI (fM (fun mv => eB V (2 * s + 1) (sh (fun i => V.minAt i 0) mv)) (2 * V.n) 0)), zz_wI M 46 1 (iI V.n), (sL L 47 (fun i => lI (rg (V.minAt i 0).toNat (span (V.kind i)))) V.n), M2, (sL L 47 (fun i => lI (rg (V.minAt i 0).toNat (span (V.kind i)))) V.n), zc.mono (n := 13) (zc_of (n := 12) (ls := [some (.ref 0), some (.int (iI ((s + 1 : Nat) : Int)))]) mk_130 rfl rfl rfl rfl (fun d hd N xs => ?_)) (by omega), zc.mono (n := 9) (zc_of (n := 8) (ls := [some (.ref 52), some (.int (iI ((s + 1 : Nat) : Int)))]) mk_244 rfl rfl rfl rfl (fun d hd N xs => ?_)) (by omega), hI.cg ((p46_A M (iI V.n)).tr r1) hsl⟩
      · rw [b_130_0, if_neg (by rw [t_lt, show (1 : Int32).toInt = 1 from rfl, iI_to (by omega) (by omega)]; omega), if_pos (by rw [t_le, show (2 : Int32).toInt = 2 from rfl, iI_to (by omega) (by omega)]; omega), b_130_2, if_neg (by rw [hv.n, t_eq, show (0 : Int32).toInt = 0 from rfl, iI_to (by omega) (by omega)]; omega), b_130_3, (x_89 hk s (by omega) M L hv).go hd, b_130_4]
      · rw [b_244_0, iI_long (by omega) (by omega), lI_lit, lI_lit, g_157 _ _ _ 1 2 (by omega) (by omega) (by omega) (by omega) (by omega) (by omega) (by omega), b2_t (by omega), b_244_1, if_neg (show ¬ iI 1 = (0 : Int32) from iI10), b_244_2, if_neg hne, b_244_3, r2.go hd, b_244_4]
  · refine Ok.same (n := 2) (n' := 2) (v := .int (-1)) hI ?_ ?_ (by omega) (by omega)
    · refine zc_of (n := 1) (ls := [some (.ref 0), some (.int (iI z))]) mk_130 rfl rfl rfl rfl (fun d hd N xs => ?_)
      rw [b_130_0]
      by_cases q1 : z < 1
      · rw [if_pos (by rw [t_lt, show (1 : Int32).toInt = 1 from rfl, iI_to (by omega) (by omega)]; omega), b_130_1]
      · rw [if_neg (by rw [t_lt, show (1 : Int32).toInt = 1 from rfl, iI_to (by omega) (by omega)]; omega), if_neg (by rw [t_le, show (2 : Int32).toInt = 2 from rfl, iI_to (by omega) (by omega)]; omega), b_130_1]
    · refine zc_of (n := 1) (ls := [some (.ref 52), some (.int (iI z))]) mk_244 rfl rfl rfl rfl (fun d hd N xs => ?_)
      rw [b_244_0, iI_long (by omega) (by omega), lI_lit, lI_lit, g_157 M L z 1 2 (by omega) (by omega) (by omega) (by omega) (by omega) (by omega) (by omega), b2_f q, b_244_1, if_pos (show iI 0 = (0 : Int32) from rfl)]

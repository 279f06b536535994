/-! rows and texts: both answer alike. -/
theorem w_val (M : Nat → Nat → Int32) (a k : Nat) (v : Int32) (c j : Nat) : zz_wI M a k v c j = if c = a ∧ j = k then v else M c j := by
  by_cases q : c = a
  · subst q
    by_cases q2 : j = k
    · subst q2; rw [w_at, if_pos ⟨rfl, rfl⟩]
    · rw [w_nk q2, if_neg (by omega)]
  · rw [w_ne q, if_neg (by omega)]
theorem fl_val (M : Nat → Nat → Int32) (a n : Nat) (v : Int32) (c j : Nat) : zfl M a n v c j = if c = a ∧ j < n then v else M c j := by
  by_cases q : c = a
  · subst q
    by_cases q2 : j < n
    · rw [f_in q2, if_pos ⟨rfl, q2⟩]
    · rw [f_out (by omega), if_neg (by omega)]
  · rw [f_ne q, if_neg (by omega)]
theorem fr_val (M : Nat → Nat → Int32) (d a n : Nat) (v : Int32) (c j : Nat) : zfr M d a n v c j = if c = d ∧ a ≤ j ∧ j < a + n then v else M c j := by
  by_cases q : c = d
  · subst q
    by_cases q2 : a ≤ j ∧ j < a + n
    · rw [r_in q2.1 q2.2, if_pos ⟨rfl, q2⟩]
    · rw [r_out (by omega), if_neg (by omega)]
  · rw [r_ne q, if_neg (by omega)]
theorem rr_val (M : Nat → Nat → Int32) (a : Nat) (f : Nat → Int32) (c j : Nat) : zz_rI M a f c j = if c = a then f j else M c j := by
  by_cases q : c = a
  · subst q; rw [rr_at, if_pos rfl]
  · rw [rr_ne q, if_neg q]
section ZR
variable {M : Nat → Nat → Int32} {L : Nat → Nat → Int64}
theorem o_row (a b : Int32) (hI : Inv M L) : Ok 95 167 [.int a, .int b] M L := by
  obtain ⟨z, h1, h2, rfl⟩ := iI_of a
  obtain ⟨n, h3, h4, rfl⟩ := iI_of b
  by_cases q : ¬ (0 ≤ z ∧ z < 6) ∨ 40 < n
  · exact Ok.same hI (s_95B M L z n h1 h2 h3 h4 q) (s_167B M L z n h1 h2 h3 h4 q) (by omega) (by omega)
  · by_cases q2 : n < 0
    · exact Ok.fd hI (s_95S M L z n (by omega) (by omega) h3 q2) (s_167S (fnd M 5) L z n (by omega) (by omega) h3 q2) (by omega) (by omega)
    · obtain ⟨m, rfl⟩ : ∃ m : Nat, n = m := ⟨n.toNat, by omega⟩
      obtain ⟨y, rfl⟩ : ∃ y : Nat, z = y := ⟨z.toNat, by omega⟩
      refine ⟨_, _, L, _, L, (s_95O M L y m (by omega) (by omega) (by omega)).mono (by omega), (s_167O _ L y m (by omega) (by omega) (by omega)).mono (by omega), ?_⟩
      rw [Int.toNat_natCast]
      refine ⟨?_, hI.2.1.cg ?_, hI.2.2.1.cg ?_, hI.2.2.2.1.cg ?_, hI.2.2.2.2.1.cg ?_, hI.2.2.2.2.2⟩
      · intro r hr
        obtain ⟨a1, a2, a3, a4⟩ := hI.1 r hr
        by_cases e : r = y
        · subst e
          simp (disch := omega) only [r_ne, r_in, r_out, f_ne, f_in, f_out, w_ne, w_at, w_nk, rr_ne, rr_at]
          rw [iI_to (by omega) (by omega)]
          refine ⟨trivial, by omega, by omega, fun i hi => ?_⟩
          simp (disch := omega) only [r_ne, r_in, r_out, f_ne, f_in, f_out, w_ne, w_at, w_nk, rr_ne, rr_at]
        · simp (disch := omega) only [r_ne, r_in, r_out, f_ne, f_in, f_out, w_ne, w_at, w_nk, rr_ne, rr_at]
          refine ⟨a1, a2, a3, fun i hi => ?_⟩
          simp (disch := omega) only [r_ne, r_in, r_out, f_ne, f_in, f_out, w_ne, w_at, w_nk, rr_ne, rr_at]
          exact a4 i hi
      · exact (((eqs.rf.w (by unfold pT; omega)).r (by unfold pT; omega)).w (by unfold pT; omega)).r (by unfold pT; omega)
      · exact (((eqs.rf.w (by unfold pD; omega)).r (by unfold pD; omega)).w (by unfold pD; omega)).r (by unfold pD; omega)
      · exact (((eqs.rf.w (by unfold pF; omega)).r (by unfold pF; omega)).w (by unfold pF; omega)).r (by unfold pF; omega)
      · exact (((eqs.rf.w (by unfold pH; omega)).r (by unfold pH; omega)).w (by unfold pH; omega)).r (by unfold pH; omega)
theorem o_text (a b : Int32) (hI : Inv M L) : Ok 101 174 [.int a, .int b] M L := by
  obtain ⟨z, h1, h2, rfl⟩ := iI_of a
  obtain ⟨n, h3, h4, rfl⟩ := iI_of b
  by_cases q : ¬ (0 ≤ z ∧ z < 4) ∨ 60 < n
  · exact Ok.same hI (s_101B M L z n h1 h2 h3 h4 q) (s_174B M L z n h1 h2 h3 h4 q) (by omega) (by omega)
  · by_cases q2 : n < 0
    · exact Ok.fd hI (s_101S M L z n (by omega) (by omega) h3 q2) (s_174S (fnd M 5) L z n (by omega) (by omega) h3 q2) (by omega) (by omega)
    · obtain ⟨m, rfl⟩ : ∃ m : Nat, n = m := ⟨n.toNat, by omega⟩
      obtain ⟨y, rfl⟩ : ∃ y : Nat, z = y := ⟨z.toNat, by omega⟩
      refine ⟨_, _, L, _, L, (s_101O M L y m (by omega) (by omega) (by omega)).mono (by omega), (s_174O _ L y m (by omega) (by omega) (by omega)).mono (by omega), ?_⟩
      rw [Int.toNat_natCast]
      refine ⟨hI.1.cg ?_, ?_, hI.2.2.1.cg ?_, hI.2.2.2.1.cg ?_, hI.2.2.2.2.1.cg ?_, hI.2.2.2.2.2⟩
      · exact (((eqs.rf.w (by unfold pR; omega)).r (by unfold pR; omega)).w (by unfold pR; omega)).r (by unfold pR; omega)
      · intro r hr
        obtain ⟨a1, a2, a3, a4⟩ := hI.2.1 r hr
        by_cases e : r = y
        · subst e
          simp (disch := omega) only [r_ne, r_in, r_out, f_ne, f_in, f_out, w_ne, w_at, w_nk, rr_ne, rr_at]
          rw [iI_to (by omega) (by omega)]
          refine ⟨trivial, by omega, by omega, fun i hi => ?_⟩
          simp (disch := omega) only [r_ne, r_in, r_out, f_ne, f_in, f_out, w_ne, w_at, w_nk, rr_ne, rr_at]
        · simp (disch := omega) only [r_ne, r_in, r_out, f_ne, f_in, f_out, w_ne, w_at, w_nk, rr_ne, rr_at]
          refine ⟨a1, a2, a3, fun i hi => ?_⟩
          simp (disch := omega) only [r_ne, r_in, r_out, f_ne, f_in, f_out, w_ne, w_at, w_nk, rr_ne, rr_at]
          exact a4 i hi
      · exact (((eqs.rf.w (by unfold pD; omega)).r (by unfold pD; omega)).w (by unfold pD; omega)).r (by unfold pD; omega)
      · exact (((eqs.rf.w (by unfold pF; omega)).r (by unfold pF; omega)).w (by unfold pF; omega)).r (by unfold pF; omega)
      · exact (((eqs.rf.w (by unfold pH; omega)).r (by unfold pH; omega)).w (by unfold pH; omega)).r (by unfold pH; omega)
theorem o_tear (a : Int32) (hI : Inv M L) : Ok 98 170 [.int a] M L := by
  obtain ⟨z, h1, h2, rfl⟩ := iI_of a
  by_cases q : ¬ (0 ≤ z ∧ z < 6)
  · exact Ok.same hI (s_98B M L z h1 h2 q) (s_170B M L z h1 h2 q) (by omega) (by omega)
  · obtain ⟨y, rfl⟩ : ∃ y : Nat, z = y := ⟨z.toNat, by omega⟩
    obtain ⟨a1, a2, a3, a4⟩ := hI.1 y (by omega)
    by_cases q2 : (M 9 y).toInt = -1
    · exact Ok.fd hI (s_98N M L y (by omega) (by omega) q2) (s_170N (fnd M 1) L y (by omega) (by omega) (by rw [fnd_ne (by omega) (by omega), Int.toNat_natCast, a1]; omega)) (by omega) (by omega)
    · refine ⟨_, _, L, _, L, (s_98O M L y (by omega) (by omega) q2).mono (by omega), (s_170O _ L y (by omega) (by omega) (by rw [w_ne (by omega), Int.toNat_natCast, a1]; omega)).mono (by omega), ?_⟩
      rw [Int.toNat_natCast]
      refine ⟨?_, hI.2.1.cg ?_, hI.2.2.1.cg ?_, hI.2.2.2.1.cg ?_, hI.2.2.2.2.1.cg ?_, hI.2.2.2.2.2⟩
      · intro r hr
        obtain ⟨a1, a2, a3, a4⟩ := hI.1 r hr
        by_cases e : r = y
        · subst e
          simp (disch := omega) only [r_ne, r_in, r_out, f_ne, f_in, f_out, w_ne, w_at, w_nk, rr_ne, rr_at]
          rw [iI_to (by omega) (by omega)]
          exact ⟨trivial, by omega, by omega, fun i hi => by omega⟩
        · simp (disch := omega) only [r_ne, r_in, r_out, f_ne, f_in, f_out, w_ne, w_at, w_nk, rr_ne, rr_at]
          refine ⟨a1, a2, a3, fun i hi => ?_⟩
          try simp (disch := omega) only [r_ne, r_in, r_out, f_ne, f_in, f_out, w_ne, w_at, w_nk, rr_ne, rr_at]
          exact a4 i hi
      · exact (eqs.rf.w (by unfold pT; omega)).w (by unfold pT; omega)
      · exact (eqs.rf.w (by unfold pD; omega)).w (by unfold pD; omega)
      · exact (eqs.rf.w (by unfold pF; omega)).w (by unfold pF; omega)
      · exact (eqs.rf.w (by unfold pH; omega)).w (by unfold pH; omega)
theorem o_at (a b : Int32) (hI : Inv M L) : Ok 97 169 [.int a, .int b] M L := by
  obtain ⟨z, h1, h2, rfl⟩ := iI_of a
  obtain ⟨i, h3, h4, rfl⟩ := iI_of b
  by_cases q : ¬ (0 ≤ z ∧ z < 6)
  · exact Ok.same hI (s_97B M L z i h1 h2 q) (s_169B M L z i h1 h2 q) (by omega) (by omega)
  · obtain ⟨y, rfl⟩ : ∃ y : Nat, z = y := ⟨z.toNat, by omega⟩
    obtain ⟨a1, a2, a3, a4⟩ := hI.1 y (by omega)
    by_cases q2 : (M 9 y).toInt = -1
    · exact Ok.fd hI (s_97N M L y i (by omega) (by omega) q2) (s_169N (fnd M 1) L y i (by omega) (by omega) (by rw [fnd_ne (by omega) (by omega), Int.toNat_natCast, a1]; omega)) (by omega) (by omega)
    · by_cases q3 : 0 ≤ i ∧ i < (M 9 y).toInt
      · obtain ⟨j, rfl⟩ : ∃ j : Nat, i = j := ⟨i.toNat, by omega⟩
        refine ⟨_, _, L, _, L, (s_97O M L y j (by omega) (by omega) (by omega) q3.2 (fun r hr => (hI.1 r hr).2.2.1)).mono (by omega), (s_169O _ L y j (by omega) (by omega) (by omega) (by rw [w_ne (by omega), Int.toNat_natCast, a1]; omega) (by rw [w_ne (by omega), Int.toNat_natCast, a1]; omega)).mono (by omega), ?_⟩
        rw [w_ne (by omega : (55 : Nat) ≠ 0), Int.toNat_natCast, Int.toNat_natCast, a4 j q3.2]
        exact hI.told _
      · exact Ok.fd hI (s_97Y M L y i (by omega) (by omega) h3 h4 q2 q3) (s_169Y (fnd M 2) L y i (by omega) (by omega) h3 h4 (by rw [fnd_ne (by omega) (by omega), Int.toNat_natCast, a1]; omega) (by rw [fnd_ne (by omega) (by omega), Int.toNat_natCast, a1]; exact q3)) (by omega) (by omega)
theorem RW.lay (h : RW M) {y j : Nat} {x : Int32} (hy : y < 6) (hj : j < 40) : RW (zz_wI (zz_wI M (3 + y) j x) 55 (40 * y + j) x) := by
  intro r hr
  obtain ⟨a1, a2, a3, a4⟩ := h r hr
  simp (disch := omega) only [r_ne, r_in, r_out, f_ne, f_in, f_out, w_ne, w_at, w_nk, rr_ne, rr_at]
  refine ⟨a1, a2, a3, fun i hi => ?_⟩
  by_cases e : r = y ∧ i = j
  · obtain ⟨rfl, rfl⟩ := e
    simp (disch := omega) only [r_ne, r_in, r_out, f_ne, f_in, f_out, w_ne, w_at, w_nk, rr_ne, rr_at]
  · by_cases e2 : r = y
    · subst e2
      simp (disch := omega) only [r_ne, r_in, r_out, f_ne, f_in, f_out, w_ne, w_at, w_nk, rr_ne, rr_at]
      exact a4 i hi
    · simp (disch := omega) only [r_ne, r_in, r_out, f_ne, f_in, f_out, w_ne, w_at, w_nk, rr_ne, rr_at]
      exact a4 i hi
theorem o_lay (a b x : Int32) (hI : Inv M L) : Ok 96 168 [.int a, .int b, .int x] M L := by
  obtain ⟨z, h1, h2, rfl⟩ := iI_of a
  obtain ⟨i, h3, h4, rfl⟩ := iI_of b
  by_cases q : ¬ (0 ≤ z ∧ z < 6)
  · exact Ok.same hI (s_96B M L z i x h1 h2 q) (s_168B M L z i x h1 h2 q) (by omega) (by omega)
  · obtain ⟨y, rfl⟩ : ∃ y : Nat, z = y := ⟨z.toNat, by omega⟩
    obtain ⟨a1, a2, a3, a4⟩ := hI.1 y (by omega)
    by_cases q2 : (M 9 y).toInt = -1
    · exact Ok.fd hI (s_96N M L y i x (by omega) (by omega) q2) (s_168N (fnd M 1) L y i x (by omega) (by omega) (by rw [fnd_ne (by omega) (by omega), Int.toNat_natCast, a1]; omega)) (by omega) (by omega)
    · by_cases q3 : 0 ≤ i ∧ i < (M 9 y).toInt
      · obtain ⟨j, rfl⟩ : ∃ j : Nat, i = j := ⟨i.toNat, by omega⟩
        refine ⟨_, _, L, _, L, (s_96O M L y j x (by omega) (by omega) (by omega) q3.2 a3).mono (by omega), (s_168O _ L y j x (by omega) (by omega) (by omega) (by rw [w_ne (by omega), w_ne (by omega), Int.toNat_natCast, a1]; omega) (by rw [w_ne (by omega), w_ne (by omega), Int.toNat_natCast, a1]; omega)).mono (by omega), ?_⟩
        rw [w_ne (by omega : (55 : Nat) ≠ 0), w_ne (by omega : (55 : Nat) ≠ 3 + (y : Int).toNat), Int.toNat_natCast, Int.toNat_natCast, a4 j q3.2]
        refine ⟨?_, hI.2.1.cg ?_, ?_, hI.2.2.2.1.cg ?_, hI.2.2.2.2.1.cg ?_, hI.2.2.2.2.2⟩
        · refine RW.cg (hI.1.lay (y := y) (j := j) (x := x) (by omega) (by omega)) ?_
          refine eqs.ww ((eqs.rf.w (by unfold pR; omega)).w (by unfold pR; omega))
        · exact (((eqs.rf.w (by unfold pT; omega)).w (by unfold pT; omega)).w (by unfold pT; omega)).w (by unfold pT; omega)
        · unfold TD
          simp (disch := omega) only [r_ne, r_in, r_out, f_ne, f_in, f_out, w_ne, w_at, w_nk, rr_ne, rr_at]
        · exact (((eqs.rf.w (by unfold pF; omega)).w (by unfold pF; omega)).w (by unfold pF; omega)).w (by unfold pF; omega)
        · exact (((eqs.rf.w (by unfold pH; omega)).w (by unfold pH; omega)).w (by unfold pH; omega)).w (by unfold pH; omega)
      · exact Ok.fd hI (s_96Y M L y i x (by omega) (by omega) h3 h4 q2 q3) (s_168Y (fnd M 2) L y i x (by omega) (by omega) h3 h4 (by rw [fnd_ne (by omega) (by omega), Int.toNat_natCast, a1]; omega) (by rw [fnd_ne (by omega) (by omega), Int.toNat_natCast, a1]; exact q3)) (by omega) (by omega)
theorem o_put (a b x : Int32) (hI : Inv M L) : Ok 102 175 [.int a, .int b, .int x] M L := by
  obtain ⟨z, h1, h2, rfl⟩ := iI_of a
  obtain ⟨i, h3, h4, rfl⟩ := iI_of b
  by_cases q : ¬ (0 ≤ z ∧ z < 4)
  · exact Ok.same hI (s_102B M L z i x h1 h2 q) (s_175B M L z i x h1 h2 q) (by omega) (by omega)
  · obtain ⟨y, rfl⟩ : ∃ y : Nat, z = y := ⟨z.toNat, by omega⟩
    obtain ⟨a1, a2, a3, a4⟩ := hI.2.1 y (by omega)
    by_cases q2 : (M 16 y).toInt = -1
    · exact Ok.fd hI (s_102N M L y i x (by omega) (by omega) q2) (s_175N (fnd M 1) L y i x (by omega) (by omega) (by rw [fnd_ne (by omega) (by omega), Int.toNat_natCast, a1]; omega)) (by omega) (by omega)
    · by_cases q3 : 0 ≤ i ∧ i < (M 16 y).toInt
      · obtain ⟨j, rfl⟩ : ∃ j : Nat, i = j := ⟨i.toNat, by omega⟩
        have g2 := s_175O (zz_wI M (12 + (y : Int).toNat) (j : Int).toNat x.toInt8.toInt32) L y j x (by omega) (by omega) (by omega) (by rw [w_ne (by omega), Int.toNat_natCast, a1]; omega) (by rw [w_ne (by omega), Int.toNat_natCast, a1]; omega)
        rw [w_ne (by omega : (57 : Nat) ≠ 12 + (y : Int).toNat), Int.toNat_natCast, Int.toNat_natCast, a4 j q3.2] at g2
        have g1 := s_102O M L y j x (by omega) (by omega) (by omega) q3.2 a3
        rw [Int.toNat_natCast, Int.toNat_natCast] at g1
        refine ⟨_, _, L, _, L, g1.mono (by omega), g2.mono (by omega), ?_⟩
        refine ⟨hI.1.cg ?_, ?_, hI.2.2.1.cg ?_, hI.2.2.2.1.cg ?_, hI.2.2.2.2.1.cg ?_, hI.2.2.2.2.2⟩
        · exact (eqs.rf.w (by unfold pR; omega)).w (by unfold pR; omega)
        · intro r hr
          obtain ⟨a1, a2, a3, a4⟩ := hI.2.1 r hr
          simp (disch := omega) only [r_ne, r_in, r_out, f_ne, f_in, f_out, w_ne, w_at, w_nk, rr_ne, rr_at]
          refine ⟨a1, a2, a3, fun i hi => ?_⟩
          by_cases e : r = y ∧ i = j
          · obtain ⟨rfl, rfl⟩ := e
            simp (disch := omega) only [r_ne, r_in, r_out, f_ne, f_in, f_out, w_ne, w_at, w_nk, rr_ne, rr_at]
          · by_cases e2 : r = y
            · subst e2
              simp (disch := omega) only [r_ne, r_in, r_out, f_ne, f_in, f_out, w_ne, w_at, w_nk, rr_ne, rr_at]
              exact a4 i hi
            · simp (disch := omega) only [r_ne, r_in, r_out, f_ne, f_in, f_out, w_ne, w_at, w_nk, rr_ne, rr_at]
              exact a4 i hi
        · exact (eqs.rf.w (by unfold pD; omega)).w (by unfold pD; omega)
        · exact (eqs.rf.w (by unfold pF; omega)).w (by unfold pF; omega)
        · exact (eqs.rf.w (by unfold pH; omega)).w (by unfold pH; omega)
      · exact Ok.fd hI (s_102Y M L y i x (by omega) (by omega) h3 h4 q2 q3) (s_175Y (fnd M 2) L y i x (by omega) (by omega) h3 h4 (by rw [fnd_ne (by omega) (by omega), Int.toNat_natCast, a1]; omega) (by rw [fnd_ne (by omega) (by omega), Int.toNat_natCast, a1]; exact q3)) (by omega) (by omega)
theorem sZ_cg {f g : Nat → Int32} : ∀ n : Nat, (∀ k, k < n → f k = g k) → sZ f n = sZ g n
  | 0, _ => rfl
  | n + 1, h => by
    unfold sZ
    rw [sZ_cg n (fun k hk => h k (by omega)), h n (by omega)]
theorem o_mean (a : Int32) (hI : Inv M L) : Ok 100 173 [.int a] M L := by
  obtain ⟨z, h1, h2, rfl⟩ := iI_of a
  by_cases q : ¬ (0 ≤ z ∧ z < 6)
  · exact Ok.same hI (s_100B M L z h1 h2 q) (s_173B M L z h1 h2 q) (by omega) (by omega)
  · obtain ⟨y, rfl⟩ : ∃ y : Nat, z = y := ⟨z.toNat, by omega⟩
    obtain ⟨a1, a2, a3, a4⟩ := hI.1 y (by omega)
    by_cases q2 : (M 9 y).toInt = -1
    · exact Ok.fd hI (s_100N M L y (by omega) (by omega) q2) (s_173N (fnd M 1) L y (by omega) (by omega) (by rw [fnd_ne (by omega) (by omega), Int.toNat_natCast, a1]; omega)) (by omega) (by omega)
    · by_cases q3 : (M 9 y).toInt = 0
      · exact Ok.fd hI (s_100Z M L y (by omega) (by omega) q3) (s_173Z (fnd M 4) L y (by omega) (by omega) (by rw [fnd_ne (by omega) (by omega), Int.toNat_natCast, a1]; omega)) (by omega) (by omega)
      · obtain ⟨n, hn⟩ : ∃ n : Nat, (M 9 y).toInt = n := ⟨(M 9 y).toInt.toNat, by omega⟩
        have g1 := s_100O M L y n (by omega) hn (by omega) (fun r hr => (hI.1 r hr).2.2.1)
        have g2 := s_173O (zz_wI M 0 10 (iI ((sZ (M (3 + y)) n).tdiv n))) L y n (by omega) (by rw [w_ne (by omega), a1, ← hn, i_t]) (by omega) (by omega)
        rw [w_ne (by omega : (55 : Nat) ≠ 0), sZ_cg (f := fun i => M 55 (40 * y + i)) (g := M (3 + y)) n (fun k hk => a4 k (by omega))] at g2
        exact ⟨_, _, L, _, L, g1.mono (by omega), g2.mono (by omega), hI.told _⟩
theorem o_copy (a b c e f : Int32) (hI : Inv M L) : Ok 99 172 [.int a, .int b, .int c, .int e, .int f] M L := by
  obtain ⟨z, h1, h2, rfl⟩ := iI_of a
  obtain ⟨i, h3, h4, rfl⟩ := iI_of b
  obtain ⟨y, h5, h6, rfl⟩ := iI_of c
  obtain ⟨j, h7, h8, rfl⟩ := iI_of e
  obtain ⟨n, h9, h10, rfl⟩ := iI_of f
  by_cases q : ¬ (0 ≤ z ∧ z < 6) ∨ ¬ (0 ≤ y ∧ y < 6)
  · exact Ok.same hI (s_99B M L z i y j n h1 h2 h5 h6 q) (s_172B M L z i y j n h1 h2 h5 h6 q) (by omega) (by omega)
  · obtain ⟨zz, rfl⟩ : ∃ x : Nat, z = x := ⟨z.toNat, by omega⟩
    obtain ⟨yy, rfl⟩ : ∃ x : Nat, y = x := ⟨y.toNat, by omega⟩
    by_cases q1 : n < 0
    · exact Ok.fd hI (s_99S M L zz i yy j n (by omega) (by omega) (by omega) (by omega) h9 q1) (s_172S (fnd M 5) L zz i yy j n (by omega) (by omega) (by omega) (by omega) h9 q1) (by omega) (by omega)
    · obtain ⟨a1, a2, a3, a4⟩ := hI.1 zz (by omega)
      obtain ⟨b1, b2, b3, b4⟩ := hI.1 yy (by omega)
      by_cases q2 : (M 9 zz).toInt = -1 ∨ (M 9 yy).toInt = -1
      · exact Ok.fd hI (s_99N M L zz i yy j n (by omega) (by omega) (by omega) (by omega) (by omega) h10 q2) (s_172N (fnd M 1) L zz i yy j n (by omega) (by omega) (by omega) (by omega) (by omega) h10 (by rw [fnd_ne (by omega) (by omega), Int.toNat_natCast, Int.toNat_natCast, a1, b1]; omega)) (by omega) (by omega)
      · by_cases q3 : ¬ (0 ≤ i ∧ n + i ≤ (M 9 zz).toInt) ∨ ¬ (0 ≤ j ∧ n + j ≤ (M 9 yy).toInt)
        · exact Ok.fd hI (s_99Y M L zz i yy j n (by omega) (by omega) (by omega) (by omega) (by omega) h10 h3 h4 h7 h8 (by rw [Int.toNat_natCast]; omega) (by rw [Int.toNat_natCast]; omega) a3 b3 q3) (s_172Y (fnd M 2) L zz i yy j n (M 9 zz).toInt (M 9 yy).toInt (by omega) (by omega) (by omega) (by omega) (by omega) h10 h3 h4 h7 h8 (by rw [fnd_ne (by omega) (by omega), Int.toNat_natCast, a1, i_t]) (by rw [fnd_ne (by omega) (by omega), Int.toNat_natCast, b1, i_t]) (by omega) a3 (by omega) b3 q3) (by omega) (by omega)
        · obtain ⟨ii, rfl⟩ : ∃ x : Nat, i = x := ⟨i.toNat, by omega⟩
          obtain ⟨jj, rfl⟩ : ∃ x : Nat, j = x := ⟨j.toNat, by omega⟩
          obtain ⟨nn, rfl⟩ : ∃ x : Nat, n = x := ⟨n.toNat, by omega⟩
          have g1 := s_99O M L zz ii yy jj nn (by omega) (by omega) (by omega) (by omega) (by omega) (by omega) (by rw [Int.toNat_natCast]; omega) (by rw [Int.toNat_natCast]; omega) a3 b3
          simp only [Int.toNat_natCast] at g1
          have g2 := s_172O (zz_rI M (3 + yy) (va_cpy (M (3 + zz)) (M (3 + yy)) ii jj nn)) L zz ii yy jj (M 9 zz).toInt (M 9 yy).toInt nn (by omega) (by omega) (by omega) (by omega) (by omega) (by omega) (by rw [rr_ne (by omega), Int.toNat_natCast, a1, i_t]) (by rw [rr_ne (by omega), Int.toNat_natCast, b1, i_t]) a3 b3 (by omega) (by omega)
          simp only [Int.toNat_natCast] at g2
          refine ⟨_, _, L, _, L, g1.mono (by omega), g2.mono (by omega), ?_⟩
          refine ⟨?_, hI.2.1.cg ?_, hI.2.2.1.cg ?_, hI.2.2.2.1.cg ?_, hI.2.2.2.2.1.cg ?_, hI.2.2.2.2.2⟩
          · intro r hr
            obtain ⟨d1, d2, d3, d4⟩ := hI.1 r hr
            simp (disch := omega) only [r_ne, r_in, r_out, f_ne, f_in, f_out, w_ne, w_at, w_nk, rr_ne, rr_at]
            refine ⟨d1, d2, d3, fun k hk => ?_⟩
            by_cases e2 : r = yy
            · subst e2
              simp (disch := omega) only [r_ne, r_in, r_out, f_ne, f_in, f_out, w_ne, w_at, w_nk, rr_ne, rr_at]
              by_cases e1 : jj ≤ k ∧ k < jj + nn
              · rw [c_in (by omega) (by omega), c_in (by omega) (by omega), c_in (by omega) (by omega), show 40 * zz + ii + (0 + (40 * r + k - (40 * r + jj)) - 0) = 40 * zz + (ii + (k - jj)) by omega]
                exact a4 _ (by omega)
              · rw [c_out (by omega), c_out (by omega)]
                exact d4 k hk
            · simp (disch := omega) only [r_ne, r_in, r_out, f_ne, f_in, f_out, w_ne, w_at, w_nk, rr_ne, rr_at]
              rw [c_out (by omega)]
              exact d4 k hk
          · exact ((eqs.rf.r (by unfold pT; omega)).r (by unfold pT; omega)).r (by unfold pT; omega)
          · exact ((eqs.rf.r (by unfold pD; omega)).r (by unfold pD; omega)).r (by unfold pD; omega)
          · exact ((eqs.rf.r (by unfold pF; omega)).r (by unfold pF; omega)).r (by unfold pF; omega)
          · exact ((eqs.rf.r (by unfold pH; omega)).r (by unfold pH; omega)).r (by unfold pH; omega)
end ZR

/-! undo: both answer alike. -/
theorem step_st (V : Vw) (d : Nat) : (V.step d).heat = V.heat ∧ (V.step d).kind = V.kind ∧ (V.step d).rate = V.rate ∧ (V.step d).floor = V.floor := by
  by_cases q : d = 0
  · rw [step_D q]; exact ⟨rfl, rfl, rfl, rfl⟩
  · rw [step_T q]; exact ⟨rfl, rfl, rfl, rfl⟩
theorem run_st (V : Vw) (D : Nat → Nat) : ∀ m, (V.run D m).heat = V.heat ∧ (V.run D m).kind = V.kind ∧ (V.run D m).rate = V.rate ∧ (V.run D m).floor = V.floor
  | 0 => ⟨rfl, rfl, rfl, rfl⟩
  | m + 1 => by
    have h := run_st V D m
    have g := step_st (V.run D m) (D m)
    exact ⟨g.1.trans h.1, g.2.1.trans h.2.1, g.2.2.1.trans h.2.2.1, g.2.2.2.trans h.2.2.2⟩
theorem HD.st {M : Nat → Nat → Int32} {V : Vw} {D : Nat → Nat} {m : Nat} {K : Nat → Int} {E : Nat → Nat → Nat} (h : HD M V D m K E) : Hs V M := by
  have hv : Hv (V.run D m) M := h.2.2.2.2.2.2.2.2.1
  have e := run_st V D m
  have en := run_n V D m
  have ec := run_hc V D m
  refine ⟨?_, ?_, ?_, ?_, ?_, ?_, h.2.2.2.2.2.2.1⟩
  · have := hv.n; rwa [en] at this
  · have := hv.hc; rwa [ec] at this
  · intro k hk; have := hv.heat k (by rw [ec]; exact hk); rwa [e.1] at this
  · intro k hk; have := hv.kind k (by rw [en]; exact hk); rwa [e.2.1] at this
  · intro k hk; have := hv.rate k (by rw [en]; exact hk); rwa [e.2.2.1] at this
  · intro k hk; have := hv.floor k (by rw [en]; exact hk); rwa [e.2.2.2] at this
/-- the same, with what the memory is behind going back -/
theorem HD.back {M M2 : Nat → Nat → Int32} {V : Vw} {D F : Nat → Nat} {m n : Nat} {K : Nat → Int} {E : Nat → Nat → Nat} (h : HD M V D m K E) (hn0 : V.n = V.n) (hn : n ≤ 40) (hd : ∀ k, k < n → dOk V.n (F k))
    (hv : Hv (V.run F n) M2) (e13 : M2 23 13 = iI n) (e52 : M2 52 1 = iI n) (e30 : ∀ k, k < n → M2 30 k = iI (F k)) (ec : ∀ c, c = 26 ∨ (32 ≤ c ∧ c ≤ 35) ∨ c = 54 → M2 c = M c)
    (hw : His V F n (M2 53) 0) (w2 : ∀ k, 1640 ≤ k → k < 6560 → M2 53 k = M 53 k) : HD M2 V F n K E := by
  obtain ⟨h1, h2, h3, h4, h5, h6, h7, h8, h9, h10, h11⟩ := h
  refine ⟨h1, h2, h3, hn0, e13, e52, ?_, e30, hv, hw, ?_⟩
  · intro i hi; rw [ec 26 (by omega)]; exact h7 i hi
  · intro j hj
    obtain ⟨a1, a2, a3, a4, a5⟩ := h11 j hj
    refine ⟨?_, ?_, a3, a4, fun q => ⟨fun k hkk => ?_, ?_⟩⟩
    · rw [ec 35 (by omega)]; exact a1
    · rw [ec 54 (by omega)]; exact a2
    · rw [ec (32 + j) (by omega)]; exact (a5 q).1 k hkk
    · exact (a5 q).2.cg h1 (fun k hkk => w2 _ (by omega) (by omega))

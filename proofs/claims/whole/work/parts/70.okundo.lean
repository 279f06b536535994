/-! undo: both answer alike. -/
theorem step_st (V : Vw) (d : Nat) : (V.step d).heat = V.heat ∧ (V.step d).kind = V.kind ∧ (V.step d).rate = V.rate ∧ (V.step d).floor = V.floor := by
  by_cases q : d = 0
  · rw [step_D q]; exact ⟨rfl, rfl, rfl, rfl⟩
  · rw [step_T q]; exact ⟨rfl, rfl, rfl, rfl⟩
theorem run_st (V : Vw) (D : Nat → Nat) : ∀ m, (V.run D m).heat = V.heat ∧ (V.run D m).kind = V.kind ∧ (V.run D m).rate = V.rate ∧ (V.run D m).floor = V.floor
  | 0 => ⟨rfl, rfl, rfl, rfl⟩
  | m + 1 => by
    have h := run_st V D m
    have g := step_st (V.run D m) (D m)
    exact ⟨g.1.trans h.1, g.2.1.trans h.2.1, g.2.2.1.trans h.2.2.1, g.2.2.2.trans h.2.2.2⟩
theorem HD.st {M : Nat → Nat → Int32} {V : Vw} {D : Nat → Nat} {m : Nat} {K : Nat → Int} {E : Nat → Nat → Nat} (h : HD M V D m K E) : Hs V M := by
  have hv : Hv (V.run D m) M := h.2.2.2.2.2.2.2.2.1
  have e := run_st V D m
  have en := run_n V D m
  have ec := run_hc V D m
  refine ⟨?_, ?_, ?_, ?_, ?_, ?_, h.2.2.2.2.2.2.1⟩
  · have := hv.n; rwa [en] at this
  · have := hv.hc; rwa [ec] at this
  · intro k hk; have := hv.heat k (by rw [ec]; exact hk); rwa [e.1] at this
  · intro k hk; have := hv.kind k (by rw [en]; exact hk); rwa [e.2.1] at this
  · intro k hk; have := hv.rate k (by rw [en]; exact hk); rwa [e.2.2.1] at this
  · intro k hk; have := hv.floor k (by rw [en]; exact hk); rwa [e.2.2.2] at this

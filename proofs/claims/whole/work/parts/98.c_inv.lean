/-! what stands behind the constructors. -/
def V0 : Vw := (0, 0, 0, fun _ => 0, fun _ => 0, fun _ => 0, fun _ => 0, fun _ => 0, 0)
theorem i0_9 : ∀ r, r < 6 → mI_e 56 r = -1 ∧ mI_e 9 r = -1 := by decide +kernel
theorem i0_16 : ∀ r, r < 4 → mI_e 58 r = -1 ∧ mI_e 16 r = -1 := by decide +kernel
theorem i0_60 : ∀ f, f < 6 → mI_e 60 f = mI_e 51 f := by decide +kernel
theorem i0_35 : ∀ j, j < 3 → mI_e 35 j = -1 ∧ mI_e 54 j = -1 := by decide +kernel
theorem i0_x : mI_e 52 10 = mI_e 0 10 ∧ mI_e 52 8 = mI_e 0 9 ∧ mI_e 23 13 = 0 ∧ mI_e 52 1 = 0 ∧ mI_e 23 10 = 0 ∧ mI_e 23 9 = 0 ∧ mI_e 23 11 = 0 ∧ mI_e 23 12 = 0 ∧ mI_e 53 0 = 0 ∧ mI_e 53 1 = 0 ∧ mI_e 53 2 = 0 := by decide +kernel
theorem i0_L : mL_e 52 11 = mL_e 48 2 ∧ mL_e 52 12 = mL_e 48 3 := by decide +kernel
theorem V0_k : Vk V0 := ⟨Nat.zero_le _, Nat.zero_le _, fun h => absurd h (Nat.lt_irrefl 0), Nat.zero_le _, fun _ => Nat.zero_le _, fun _ => (by decide : (0 : Nat) < 6), fun _ => ⟨(by decide : (-4 : Int) ≤ 0), (by decide : (0 : Int) ≤ 5)⟩, fun _ => Nat.zero_le _, fun _ => ⟨(by decide : (0 : Int) ≤ 0), (by decide : (0 : Int) < 60)⟩, (by decide : (0 : Nat) < 64)⟩
theorem zz_inv0 : Inv mI_e mL_e := by
  have hx := i0_x
  have no : ∀ {i : Nat}, ¬ i < V0.n := fun h => absurd h (Nat.not_lt_zero _)
  have no2 : ∀ {i : Nat}, ¬ i < V0.hc := fun h => absurd h (Nat.not_lt_zero _)
  refine ⟨fun r hr => ?_, fun r hr => ?_, hx.1, ⟨hx.2.1, i0_60⟩, ?_, i0_L⟩
  · obtain ⟨h1, h2⟩ := i0_9 r hr
    rw [h1, h2]
    refine ⟨rfl, by decide, by decide, fun i hi => ?_⟩
    have : ((-1 : Int32)).toInt = -1 := rfl
    omega
  · obtain ⟨h1, h2⟩ := i0_16 r hr
    rw [h1, h2]
    refine ⟨rfl, by decide, by decide, fun i hi => ?_⟩
    have : ((-1 : Int32)).toInt = -1 := rfl
    omega
  · refine ⟨V0, fun _ => 0, 0, fun _ => -1, fun _ _ => 0, V0_k, rfl, rfl, rfl, hx.2.2.1, hx.2.2.2.1, fun i hi => absurd hi no, fun k hk => absurd hk (Nat.not_lt_zero _), ⟨hx.2.2.2.2.1, hx.2.2.2.2.2.1, hx.2.2.2.2.2.2.1, hx.2.2.2.2.2.2.2.1, fun k hk => absurd hk no2, fun i hi => absurd hi no, fun i hi => absurd hi no, fun i hi => absurd hi no, fun i hi => absurd hi no⟩, ⟨Nat.zero_le _, fun k hk => absurd hk (Nat.not_lt_zero _), ⟨hx.2.2.2.2.2.2.2.2.1, hx.2.2.2.2.2.2.2.2.2.1, hx.2.2.2.2.2.2.2.2.2.2, fun k hk => absurd hk no2, fun i hi => absurd hi no, fun i hi => absurd hi no, fun i hi => absurd hi no, fun i hi => absurd hi no, fun i hi => absurd hi no⟩, fun k hk => absurd hk (Nat.not_lt_zero _)⟩, fun j hj => ?_⟩
    obtain ⟨h1, h2⟩ := i0_35 j hj
    exact ⟨h1, h2, (by decide : (-1 : Int) ≤ -1), (by decide : (-1 : Int) ≤ 40), fun h => absurd h (by decide : ¬ (0 : Int) ≤ -1)⟩

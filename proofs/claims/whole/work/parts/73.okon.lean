/-! on: both answer alike. -/
theorem o_on {M : Nat → Nat → Int32} {L : Nat → Nat → Int64} (a : Int32) (hI : Inv M L) : Ok 112 208 [.int a] M L := by
  obtain ⟨z, z1, z2, rfl⟩ := iI_of a
  obtain ⟨V, D, m, K, E, h⟩ := hI.2.2.2.2.1.hd
  have hst := h.st
  have h' := h
  obtain ⟨h1, h2, h3, h4, h5, h6, h7, h8, h9, h10, h11⟩ := h'
  by_cases q : 0 ≤ z ∧ z < 3
  · obtain ⟨j, rfl⟩ : ∃ x : Nat, z = x := ⟨z.toNat, by omega⟩
    have hj : j < 3 := by omega
    obtain ⟨a1, a2, a3, a4, a5⟩ := h11 j hj
    by_cases qn : K j < 0
    · refine Ok.fd (f := 1) hI (s_112N M L j hj ?_) (s_208N (fnd M 1) L j hj ?_) (by omega) (by omega)
      · rw [a1, iI_to (by omega) (by omega)]; exact qn
      · rw [fnd_ne (by omega) (by omega), a2, iI_to (by omega) (by omega)]; exact qn
    · obtain ⟨b1, b2⟩ := a5 (by omega)
      obtain ⟨n, hn⟩ : ∃ x : Nat, K j = x := ⟨(K j).toNat, by omega⟩
      rw [hn] at a1 a2 b1 b2 a4
      have b2' : His V (E j) n (M 53) (1640 * (j + 1)) := b2
      have hn40 : n ≤ 40 := by omega
      have hd2 := b2'.2.1
      have hkp : ∀ k, k < n → M (32 + j) k = iI (E j k) := fun k hk => b1 k (by omega)
      have g1 := s_112O M L V h1 h2 h3 hst (E j) n hn40 hd2 j hj a1 hkp
      have hs2 : Hs V (sI M 30 (M (32 + j)) 40) := by
        unfold Hs
        rw [sI_ne (by omega : (23 : Nat) ≠ 30), sI_ne (by omega : (24 : Nat) ≠ 30), sI_ne (by omega : (25 : Nat) ≠ 30), sI_ne (by omega : (27 : Nat) ≠ 30), sI_ne (by omega : (28 : Nat) ≠ 30), sI_ne (by omega : (26 : Nat) ≠ 30)]
        exact hst
      have ec : ∀ c, c ≠ 23 → c ≠ 29 → c ≠ 30 → gb V (sI M 30 (M (32 + j)) 40) (E j) n c = M c := fun c c1 c2 c3 => by rw [gb_ne V _ (E j) c1 c2 c3 n, sI_ne c3]
      have hvn := gb_h (D := E j) h1 h2 h3 hs2 n hn40 hd2
      have e30 := gb_30 V (sI M 30 (M (32 + j)) 40) (E j) n (fun k hk => by rw [sI_in (by omega)]; exact hkp k hk)
      have g2 := s_208O (gb V (sI M 30 (M (32 + j)) 40) (E j) n) L j n hj hn40 (by rw [ec 54 (by omega) (by omega) (by omega)]; exact a2)
      refine ⟨_, _, _, _, _, g1.mono (by omega), g2.mono (by omega), ?_⟩
      have big : ∀ p : Nat → Nat → Prop, (∀ k, ¬ p 23 k) → (∀ k, ¬ p 29 k) → (∀ k, ¬ p 30 k) → (∀ k, ¬ p 53 k) → ¬ p 52 1 → eqs M (zz_wI (zz_rI (gb V (sI M 30 (M (32 + j)) 40) (E j) n) 53 (va_cpy (gb V (sI M 30 (M (32 + j)) 40) (E j) n 53) (gb V (sI M 30 (M (32 + j)) 40) (E j) n 53) (1640 * (j + 1)) 0 1640)) 52 1 (iI n)) p := fun p a1 a2 a3 a4 a5 => (((eqs.rf.r a3).tr (gb_eqs a1 a2 a3)).r a4).w a5
      refine ⟨hI.1.cg (big pR ?_ ?_ ?_ ?_ ?_), hI.2.1.cg (big pT ?_ ?_ ?_ ?_ ?_), hI.2.2.1.cg (big pD ?_ ?_ ?_ ?_ ?_), hI.2.2.2.1.cg (big pF ?_ ?_ ?_ ?_ ?_), ?_, hI.2.2.2.2.2⟩
      all_goals first | (unfold pR; omega) | (unfold pT; omega) | (unfold pD; omega) | (unfold pF; omega) | skip
      have s53 : zz_wI (zz_rI (gb V (sI M 30 (M (32 + j)) 40) (E j) n) 53 (va_cpy (gb V (sI M 30 (M (32 + j)) 40) (E j) n 53) (gb V (sI M 30 (M (32 + j)) 40) (E j) n 53) (1640 * (j + 1)) 0 1640)) 52 1 (iI n) 53 = va_cpy (M 53) (M 53) (1640 * (j + 1)) 0 1640 := by rw [w_ne (by omega), rr_at, ec 53 (by omega) (by omega) (by omega)]
      have sc : ∀ c, c ≠ 53 → c ≠ 52 → zz_wI (zz_rI (gb V (sI M 30 (M (32 + j)) 40) (E j) n) 53 (va_cpy (gb V (sI M 30 (M (32 + j)) 40) (E j) n 53) (gb V (sI M 30 (M (32 + j)) 40) (E j) n 53) (1640 * (j + 1)) 0 1640)) 52 1 (iI n) c = gb V (sI M 30 (M (32 + j)) 40) (E j) n c := fun c c1 c2 => by rw [w_ne c2, rr_ne c1]
      refine HD.hs (HD.back (F := E j) (n := n) h rfl hn40 hd2 (hvn.c3 (fun c c1 c2 => sc c (by omega) (by omega))) ?_ w_at ?_ ?_ ?_ ?_)
      · rw [sc _ (by omega) (by omega)]; exact gb_13 V _ (E j) n
      · intro k hk; rw [sc _ (by omega) (by omega), e30, sI_in (by omega)]; exact hkp k hk
      · intro c hc; rw [sc _ (by omega) (by omega)]; exact ec c (by omega) (by omega) (by omega)
      · rw [s53]
        refine b2'.cg h1 (fun k hk => ?_)
        rw [c_in (by omega) (by omega), show 1640 * (j + 1) + (0 + k - 0) = 1640 * (j + 1) + k by omega]
      · intro k k1 k2
        rw [s53, c_out (by omega)]
  · exact Ok.same hI (s_112B M L z z1 z2 q) (s_208B M L z z1 z2 q) (by omega) (by omega)

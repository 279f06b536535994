/-! undo. -/
theorem gb_eqs {V : Vw} {M : Nat → Nat → Int32} {D : Nat → Nat} {n : Nat} {p : Nat → Nat → Prop} (h1 : ∀ k, ¬ p 23 k) (h2 : ∀ k, ¬ p 29 k) (h3 : ∀ k, ¬ p 30 k) : eqs M (gb V M D n) p := by
  intro c k hp
  rw [gb_ne V M D (fun e => h1 k (by rw [← e]; exact hp)) (fun e => h2 k (by rw [← e]; exact hp)) (fun e => h3 k (by rw [← e]; exact hp)) n]
theorem o_undo {M : Nat → Nat → Int32} {L : Nat → Nat → Int64} (a : Int32) (hI : Inv M L) : Ok 110 206 [.int a] M L := by
  obtain ⟨z, z1, z2, rfl⟩ := iI_of a
  obtain ⟨V, D, m, K, E, h⟩ := hI.2.2.2.2.1.hd
  have hst := h.st
  have h' := h
  obtain ⟨h1, h2, h3, h4, h5, h6, h7, h8, h9, h10, h11⟩ := h'
  have hm := h10.1
  by_cases q : 0 ≤ z ∧ z ≤ m
  · obtain ⟨n, rfl⟩ : ∃ x : Nat, z = x := ⟨z.toNat, by omega⟩
    have g1 := s_110O M L V h1 h2 h3 hst D n m (by omega) hm h5 (fun k hk => h10.2.1 k (by omega)) (fun k hk => h8 k (by omega))
    have e53 : gb V M D n 53 = M 53 := gb_ne V M D (by omega) (by omega) (by omega) n
    have e52 : gb V M D n 52 = M 52 := gb_ne V M D (by omega) (by omega) (by omega) n
    have hvn := gb_h (D := D) h1 h2 h3 hst n (by omega) (fun k hk => h10.2.1 k (by omega))
    have e30 := gb_30 V M D n (fun k hk => h8 k (by omega))
    by_cases qe : n = m
    · subst qe
      have g2 := s_206E (gb V M D n) L n hm (by rw [e52]; exact h6)
      refine ⟨_, _, _, _, _, g1.mono (by omega), g2.mono (by omega), ?_⟩
      refine ⟨hI.1.cg (gb_eqs ?_ ?_ ?_), hI.2.1.cg (gb_eqs ?_ ?_ ?_), hI.2.2.1.cg (gb_eqs ?_ ?_ ?_), hI.2.2.2.1.cg (gb_eqs ?_ ?_ ?_), ?_, hI.2.2.2.2.2⟩
      all_goals first | (unfold pR; omega) | (unfold pT; omega) | (unfold pD; omega) | (unfold pF; omega) | skip
      refine HD.hs (HD.back (F := D) (n := n) h rfl (by omega) (fun k hk => h10.2.1 k (by omega)) hvn (gb_13 V M D n) (by rw [e52]; exact h6) (fun k hk => by rw [e30]; exact h8 k (by omega)) (fun c hc => gb_ne V M D (by omega) (by omega) (by omega) n) ?_ (fun k _ _ => by rw [e53]))
      rw [e53]
      exact h10
    · have g2 := s_206O (gb V M D n) L n m (by omega) hm (by rw [e52]; exact h6)
      refine ⟨_, _, _, _, _, g1.mono (by omega), g2.mono (by omega), ?_⟩
      refine ⟨hI.1.cg (((gb_eqs ?_ ?_ ?_).r ?_).w ?_), hI.2.1.cg (((gb_eqs ?_ ?_ ?_).r ?_).w ?_), hI.2.2.1.cg (((gb_eqs ?_ ?_ ?_).r ?_).w ?_), hI.2.2.2.1.cg (((gb_eqs ?_ ?_ ?_).r ?_).w ?_), ?_, hI.2.2.2.2.2⟩
      all_goals first | (unfold pR; omega) | (unfold pT; omega) | (unfold pD; omega) | (unfold pF; omega) | skip
      have s53 : zz_wI (zz_rI (gb V M D n) 53 (va_cpy (gb V M D n 53) (gb V M D n 53) (40 * (n + 1)) 0 40)) 52 1 (iI n) 53 = va_cpy (M 53) (M 53) (40 * (n + 1)) 0 40 := by rw [w_ne (by omega), rr_at, e53]
      have sc : ∀ c, c ≠ 53 → c ≠ 52 → zz_wI (zz_rI (gb V M D n) 53 (va_cpy (gb V M D n 53) (gb V M D n 53) (40 * (n + 1)) 0 40)) 52 1 (iI n) c = gb V M D n c := fun c c1 c2 => by rw [w_ne c2, rr_ne c1]
      have hkn := run_k (D := D) h1 h2 n (by omega) (fun k hk => h10.2.1 k (by omega))
      refine HD.hs (HD.back (F := D) (n := n) h rfl (by omega) (fun k hk => h10.2.1 k (by omega)) (hvn.c3 (fun c c1 c2 => sc c (by omega) (by omega))) ?_ w_at ?_ ?_ ⟨by omega, fun k hk => h10.2.1 k (by omega), ?_, fun k hk => ?_⟩ ?_)
      · rw [sc _ (by omega) (by omega)]; exact gb_13 V M D n
      · intro k hk; rw [sc _ (by omega) (by omega), e30]; exact h8 k (by omega)
      · intro c hc; rw [sc _ (by omega) (by omega)]; exact gb_ne V M D (by omega) (by omega) (by omega) n
      · rw [s53]
        refine Rv.cg (b := 0 + 40 * (n + 1)) hkn.n hkn.hc (h10.2.2.2 n (by omega)) (fun k hk => ?_)
        rw [c_in (by omega) (by omega), show 40 * (n + 1) + (0 + k - 0) = 0 + 40 * (n + 1) + k by omega]
      · rw [s53]
        have hkk := run_k (D := D) h1 h2 k (by omega) (fun i hi => h10.2.1 i (by omega))
        exact Rv.cg (b := 0 + 40 * (k + 1)) hkk.n hkk.hc (h10.2.2.2 k (by omega)) (fun i hi => c_out (by omega))
      · intro k k1 k2
        rw [s53, c_out (by omega)]
  · exact Ok.same hI (s_110B M L z m hm h5 z1 z2 q) (s_206B M L z m hm h6 z1 z2 q) (by omega) (by omega)

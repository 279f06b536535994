/-! the asking calls: both answer alike. -/
section ZR
variable {M : Nat → Nat → Int32} {L : Nat → Nat → Int64}
theorem Ok.mem {kx km n n' : Nat} {as : List Value} {v : Value} {M2 : Nat → Nat → Int32} {L2 : Nat → Nat → Int64} (hI : Inv M L) (h1 : zc n kx (.ref 0 :: as) M L (some v) M L) (h2 : zc n' km (.ref 52 :: as) M L (some v) M2 L2) (e : eqs M M2 pA) (g : SL L L2) (hn : n ≤ 60) (hn' : n' ≤ 60) : Ok kx km as M L := ⟨v, M, L, M2, L2, h1.mono hn, h2.mono hn', hI.cg e g⟩
/-- both tell x, and leave what else they leave -/
theorem Ok.tells {kx km n n' : Nat} {as : List Value} {v : Value} {x : Int32} {M1 M2 : Nat → Nat → Int32} {L1 L2 : Nat → Nat → Int64} (hI : Inv M L) (h1 : zc n kx (.ref 0 :: as) M L (some v) M1 L1) (h2 : zc n' km (.ref 52 :: as) M1 L1 (some v) M2 L2) (e1 : eqs (zz_wI M 0 10 x) M1 pA) (e2 : eqs (zz_wI M1 52 10 x) M2 pA) (g1 : SL L L1) (g2 : SL L1 L2) (hn : n ≤ 60) (hn' : n' ≤ 60) : Ok kx km as M L :=
  ⟨v, M1, L1, M2, L2, h1.mono hn, h2.mono hn', (hI.told x).cg ((eqs.ww e1).tr e2) (g1.tr g2)⟩
theorem o_asked (hI : Inv M L) : Ok 134 250 [] M L := by
  have h2 := s_250 M L
  rw [show M 52 10 = M 0 10 from hI.2.2.1] at h2
  exact Ok.same hI (s_134 M L) h2 (by omega) (by omega)
theorem o_upper (hI : Inv M L) : Ok 135 251 [] M L := by
  have h2 := s_251 M L
  rw [hI.2.2.2.2.2.1] at h2
  exact Ok.same hI (s_135 M L) h2 (by omega) (by omega)
theorem o_lower (hI : Inv M L) : Ok 136 252 [] M L := by
  have h2 := s_252 M L
  rw [hI.2.2.2.2.2.2] at h2
  exact Ok.same hI (s_136 M L) h2 (by omega) (by omega)
theorem o_finding (hI : Inv M L) : Ok 138 256 [] M L := by
  have h2 := s_256 M L
  rw [hI.2.2.2.1.1] at h2
  exact Ok.same hI (s_138 M L) h2 (by omega) (by omega)
theorem o_findings (a : Int32) (hI : Inv M L) : Ok 139 257 [.int a] M L := by
  obtain ⟨z, h1, h2, rfl⟩ := iI_of a
  have g2 := s_257 M L z h1 h2
  have e : (if 1 ≤ z ∧ z ≤ 5 then M 60 z.toNat else iI (-1)) = (if 1 ≤ z ∧ z ≤ 5 then M 51 z.toNat else iI (-1)) := by
    by_cases q : 1 ≤ z ∧ z ≤ 5
    · rw [if_pos q, if_pos q, hI.2.2.2.1.2 _ (by omega)]
    · rw [if_neg q, if_neg q]
  rw [e] at g2
  exact Ok.same hI (s_139 M L z h1 h2) g2 (by omega) (by omega)
theorem o_piece (a b : Int32) (hI : Inv M L) : Ok 105 193 [.int a, .int b] M L := by
  obtain ⟨z, h1, h2, rfl⟩ := iI_of a
  obtain ⟨y, h3, h4, rfl⟩ := iI_of b
  obtain ⟨V, hk, hv, hr⟩ := hI.view
  by_cases q : (0 ≤ z ∧ z < V.n) ∧ 0 ≤ y ∧ y < 6
  · obtain ⟨i, rfl⟩ : ∃ x : Nat, z = x := ⟨z.toNat, by omega⟩
    obtain ⟨k, rfl⟩ : ∃ x : Nat, y = x := ⟨y.toNat, by omega⟩
    exact ⟨_, _, L, _, L, (s_105O M L V hk hv i k (by omega) (by omega)).mono (by omega), (s_193O (zz_wI M 0 10 (iI (V.part i k))) L V hk (by rw [w_ne (by omega)]; exact hr) i k (by omega) (by omega)).mono (by omega), hI.told _⟩
  · exact Ok.same hI (s_105B M L V hk hv z y h1 h2 h3 h4 q) (s_193B M L V hk hr z y h1 h2 h3 h4 q) (by omega) (by omega)
theorem o_heat (a : Int32) (hI : Inv M L) : Ok 107 197 [.int a] M L := by
  obtain ⟨z, h1, h2, rfl⟩ := iI_of a
  obtain ⟨V, hk, hv, hr⟩ := hI.view
  by_cases q : 0 ≤ z ∧ z ≤ 999
  · obtain ⟨i, rfl⟩ : ∃ x : Nat, z = x := ⟨z.toNat, by omega⟩
    exact Ok.same hI (s_107O M L V hk hv i (by omega)) (s_197O M L V hk hr i (by omega)) (by omega) (by omega)
  · exact Ok.same hI (s_107B M L z h1 h2 q) (s_197B M L z h1 h2 q) (by omega) (by omega)
theorem o_minute (a b : Int32) (hI : Inv M L) : Ok 113 210 [.int a, .int b] M L := by
  obtain ⟨z, h1, h2, rfl⟩ := iI_of a
  obtain ⟨y, h3, h4, rfl⟩ := iI_of b
  obtain ⟨V, hk, hv, hr⟩ := hI.view
  by_cases q : (0 ≤ z ∧ z < V.n) ∧ 0 ≤ y ∧ y ≤ 420
  · obtain ⟨i, rfl⟩ : ∃ x : Nat, z = x := ⟨z.toNat, by omega⟩
    obtain ⟨k, rfl⟩ : ∃ x : Nat, y = x := ⟨y.toNat, by omega⟩
    exact Ok.same hI (s_113O M L V hk hv i k (by omega) (by omega)) (s_210O M L V hk hr i k (by omega) (by omega)) (by omega) (by omega)
  · exact Ok.same hI (s_113B M L V hk hv z y h1 h2 h3 h4 q) (s_210B M L V hk hr z y h1 h2 h3 h4 q) (by omega) (by omega)
theorem o_meet (a b : Int32) (hI : Inv M L) : Ok 114 215 [.int a, .int b] M L := by
  obtain ⟨z, h1, h2, rfl⟩ := iI_of a
  obtain ⟨y, h3, h4, rfl⟩ := iI_of b
  obtain ⟨V, hk, hv, hr⟩ := hI.view
  by_cases q : (0 ≤ z ∧ z < V.n) ∧ (0 ≤ y ∧ y < V.n) ∧ z ≠ y
  · obtain ⟨i, rfl⟩ : ∃ x : Nat, z = x := ⟨z.toNat, by omega⟩
    obtain ⟨j, rfl⟩ : ∃ x : Nat, y = x := ⟨y.toNat, by omega⟩
    exact Ok.mem hI (s_114O M L V hk hv i j (by omega) (by omega) (by omega)) (s_215O M L V hk hr i j (by omega) (by omega) (by omega)) (m2_eqs _ _ _) SL.rf (by omega) (by omega)
  · exact Ok.same hI (s_114B M L V hk hv z y h1 h2 h3 h4 q) (s_215B M L V hk hr z y h1 h2 h3 h4 q) (by omega) (by omega)
theorem o_often (a b c : Int32) (hI : Inv M L) : Ok 117 218 [.int a, .int b, .int c] M L := by
  obtain ⟨z, h1, h2, rfl⟩ := iI_of a
  obtain ⟨y, h3, h4, rfl⟩ := iI_of b
  obtain ⟨n, h5, h6, rfl⟩ := iI_of c
  obtain ⟨V, hk, hv, hr⟩ := hI.view
  by_cases q : ((0 ≤ z ∧ z < V.n) ∧ (0 ≤ y ∧ y < V.n) ∧ z ≠ y) ∧ 0 ≤ n ∧ n ≤ 420
  · obtain ⟨i, rfl⟩ : ∃ x : Nat, z = x := ⟨z.toNat, by omega⟩
    obtain ⟨j, rfl⟩ : ∃ x : Nat, y = x := ⟨y.toNat, by omega⟩
    obtain ⟨k, rfl⟩ : ∃ x : Nat, n = x := ⟨n.toNat, by omega⟩
    exact Ok.mem hI (s_117O M L V hk hv i j k (by omega) (by omega) (by omega) (by omega)) (s_218O M L V hk hr i j k (by omega) (by omega) (by omega) (by omega)) (m2_eqs _ _ _) SL.rf (by omega) (by omega)
  · exact Ok.same hI (s_117B M L V hk hv z y n h1 h2 h3 h4 h5 h6 q) (s_218B M L V hk hr z y n h1 h2 h3 h4 h5 h6 q) (by omega) (by omega)
theorem o_right (a b c : Int32) (hI : Inv M L) : Ok 120 222 [.int a, .int b, .int c] M L := by
  obtain ⟨z, h1, h2, rfl⟩ := iI_of a
  obtain ⟨y, h3, h4, rfl⟩ := iI_of b
  obtain ⟨n, h5, h6, rfl⟩ := iI_of c
  obtain ⟨V, hk, hv, hr⟩ := hI.view
  by_cases q : (0 ≤ z ∧ z < V.n) ∧ (0 ≤ y ∧ y < 60) ∧ 0 ≤ n ∧ n ≤ 420
  · obtain ⟨i, rfl⟩ : ∃ x : Nat, z = x := ⟨z.toNat, by omega⟩
    obtain ⟨k, rfl⟩ : ∃ x : Nat, n = x := ⟨n.toNat, by omega⟩
    exact Ok.same hI (s_120O M L V hk hv i y k (by omega) (by omega) (by omega) (by omega)) (s_222O M L V hk hr i y k (by omega) (by omega) (by omega) (by omega)) (by omega) (by omega)
  · exact Ok.same hI (s_120B M L V hk hv z y n h1 h2 h3 h4 h5 h6 q) (s_222B M L V hk hr z y n h1 h2 h3 h4 h5 h6 q) (by omega) (by omega)
end ZR

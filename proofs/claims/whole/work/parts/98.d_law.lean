/-! the law: its loop over the script. Printed by program. -/
theorem bl_3 (C : zz_C) (N : Nat) (xs : Nat → Int32) (M : Nat → Nat → Int32) (L : Nat → Nat → Int64) (a b : Nat) (v : Int32) : zz_X C tb_law 3 [some (.ref 1004), some (.ref 0), some (.ref 52), some (.int v)] [] (zro N xs, zsh, M, L, a, b) = if Int32.ofNat N - 6 < v then zz_X C tb_law 143 [some (.ref 1004), some (.ref 0), some (.ref 52), some (.int v)] [] (zro N xs, zsh, M, L, a, b) else zz_o (zz_ix v N) fun j => zz_tsw (zz_X C tb_law) 0 [4, 7, 10, 13, 16, 19, 22, 25, 28, 31, 34, 37, 40, 43, 46, 49, 52, 55, 58, 61, 64, 67, 70, 73, 76, 79, 82, 85, 88, 91, 94, 97, 100, 103, 106, 109, 112, 115, 118, 121, 124, 127, 130, 133, 136, 139] 142 (xs j &&& 63) [some (.ref 1004), some (.ref 0), some (.ref 52), some (.int v)] [] (zro N xs, zsh, M, L, a, b) := (zz_X_eq sg_law _ _ _ _).trans rfl
theorem bl_142 (C : zz_C) (N : Nat) (xs : Nat → Int32) (M : Nat → Nat → Int32) (L : Nat → Nat → Int64) (a b : Nat) (v : Int32) : zz_X C tb_law 142 [some (.ref 1004), some (.ref 0), some (.ref 52), some (.int v)] [] (zro N xs, zsh, M, L, a, b) = zz_X C tb_law 3 [some (.ref 1004), some (.ref 0), some (.ref 52), some (.int (v + 6))] [] (zro N xs, zsh, M, L, a, b) := (zz_X_eq sg_law _ _ _ _).trans rfl
theorem bl_143 (C : zz_C) (N : Nat) (xs : Nat → Int32) (M : Nat → Nat → Int32) (L : Nat → Nat → Int64) (a b : Nat) (v : Int32) : zz_X C tb_law 143 [some (.ref 1004), some (.ref 0), some (.ref 52), some (.int v)] [] (zro N xs, zsh, M, L, a, b) = some (some (.int 1), (zro N xs, zsh, M, L, a, b)) := (zz_X_eq sg_law _ _ _ _).trans (if_pos (e := none) (show (1 : Int32) = 0 ∨ (1 : Int32) = 1 from Or.inr rfl))
theorem lg_self (x : Int64) : lg_cmp x x = 0 := by
  unfold lg_cmp
  simp
theorem ixp {i k N : Nat} (h : i + k < N) (hN : N ≤ 384) : zz_ix (iI i + iI k) N = some (i + k) := by
  rw [iI_add, show ((i : Int) + (k : Int)) = ((i + k : Nat) : Int) by omega]
  exact ix_nat h (by omega)
section ZV
variable {N : Nat} {xs : Nat → Int32} {M : Nat → Nat → Int32} {L : Nat → Nat → Int64} {a b i : Nat}
theorem bl_4 (C : zz_C) (N : Nat) (xs : Nat → Int32) (M : Nat → Nat → Int32) (L : Nat → Nat → Int64) (a b : Nat) (v : Int32) : zz_X C tb_law 4 [some (.ref 1004), some (.ref 0), some (.ref 52), some (.int v)] [] (zro N xs, zsh, M, L, a, b) = zz_o (zz_ix (v + 1) N) fun j1 => zz_o (zz_ix (v + 2) N) fun j2 => zz_o (C 95 [.ref 0, .int (xs j1), .int (xs j2)] (zro N xs, zsh, M, L, a, b)) fun r => zz_X C tb_law 5 [some (.ref 1004), some (.ref 0), some (.ref 52), some (.int v)] (r.1.toList ++ []) r.2 := (zz_X_eq sg_law _ _ _ _).trans rfl
theorem bl_5 (C : zz_C) (N : Nat) (xs : Nat → Int32) (M : Nat → Nat → Int32) (L : Nat → Nat → Int64) (a b : Nat) (v : Int32) (s0 : Int32) : zz_X C tb_law 5 [some (.ref 1004), some (.ref 0), some (.ref 52), some (.int v)] [.int s0] (zro N xs, zsh, M, L, a, b) = zz_o (zz_ix (v + 1) N) fun j1 => zz_o (zz_ix (v + 2) N) fun j2 => zz_o (C 167 [.ref 52, .int (xs j1), .int (xs j2)] (zro N xs, zsh, M, L, a, b)) fun r => zz_X C tb_law 6 [some (.ref 1004), some (.ref 0), some (.ref 52), some (.int v)] (r.1.toList ++ [.int s0]) r.2 := (zz_X_eq sg_law _ _ _ _).trans rfl
theorem bl_6 (C : zz_C) (N : Nat) (xs : Nat → Int32) (M : Nat → Nat → Int32) (L : Nat → Nat → Int64) (a b : Nat) (v : Int32) (s0 : Int32) : zz_X C tb_law 6 [some (.ref 1004), some (.ref 0), some (.ref 52), some (.int v)] [.int s0, .int s0] (zro N xs, zsh, M, L, a, b) = zz_X C tb_law 142 [some (.ref 1004), some (.ref 0), some (.ref 52), some (.int v)] [] (zro N xs, zsh, M, L, a, b) := (zz_X_eq sg_law _ _ _ _).trans (if_pos rfl)
theorem lp_0 (hN : N ≤ 384) (hi : i + 6 ≤ N) (hI : Inv M L) : ∃ M2 L2, Inv M2 L2 ∧ zz_X (zz_call_ 100) tb_law 4 [some (.ref 1004), some (.ref 0), some (.ref 52), some (.int (iI i))] [] (zro N xs, zsh, M, L, a, b) = zz_X (zz_call_ 100) tb_law 142 [some (.ref 1004), some (.ref 0), some (.ref 52), some (.int (iI i))] [] (zro N xs, zsh, M2, L2, a, b) := by
  obtain ⟨v, M1, L1, M2, L2, h1, h2, hI2⟩ := o_row (xs (i + 1)) (xs (i + 2)) hI
  have e1 := h1 100 (by omega) N xs a b
  have e2 := h2 100 (by omega) N xs a b
  obtain ⟨x, hx⟩ := zz_kd mk_95 rfl hc_95 e1
  have hv : v = .int x := Option.some.inj hx
  subst hv
  have q1 : zz_ix (iI i + 1) N = some (i + 1) := ixp (k := 1) (by omega) hN
  have q2 : zz_ix (iI i + 2) N = some (i + 2) := ixp (k := 2) (by omega) hN
  refine ⟨M2, L2, hI2, ?_⟩
  rw [bl_4, q1, o_some, q2, o_some, e1, o_some]
  refine Eq.trans (bl_5 _ _ _ _ _ _ _ _ x) ?_
  rw [q1, o_some, q2, o_some, e2, o_some]
  exact bl_6 _ _ _ _ _ _ _ _ x
theorem bl_7 (C : zz_C) (N : Nat) (xs : Nat → Int32) (M : Nat → Nat → Int32) (L : Nat → Nat → Int64) (a b : Nat) (v : Int32) : zz_X C tb_law 7 [some (.ref 1004), some (.ref 0), some (.ref 52), some (.int v)] [] (zro N xs, zsh, M, L, a, b) = zz_o (zz_ix (v + 1) N) fun j1 => zz_o (zz_ix (v + 2) N) fun j2 => zz_o (zz_ix (v + 3) N) fun j3 => zz_o (C 96 [.ref 0, .int (xs j1), .int (xs j2), .int (xs j3)] (zro N xs, zsh, M, L, a, b)) fun r => zz_X C tb_law 8 [some (.ref 1004), some (.ref 0), some (.ref 52), some (.int v)] (r.1.toList ++ []) r.2 := (zz_X_eq sg_law _ _ _ _).trans rfl
theorem bl_8 (C : zz_C) (N : Nat) (xs : Nat → Int32) (M : Nat → Nat → Int32) (L : Nat → Nat → Int64) (a b : Nat) (v : Int32) (s0 : Int32) : zz_X C tb_law 8 [some (.ref 1004), some (.ref 0), some (.ref 52), some (.int v)] [.int s0] (zro N xs, zsh, M, L, a, b) = zz_o (zz_ix (v + 1) N) fun j1 => zz_o (zz_ix (v + 2) N) fun j2 => zz_o (zz_ix (v + 3) N) fun j3 => zz_o (C 168 [.ref 52, .int (xs j1), .int (xs j2), .int (xs j3)] (zro N xs, zsh, M, L, a, b)) fun r => zz_X C tb_law 9 [some (.ref 1004), some (.ref 0), some (.ref 52), some (.int v)] (r.1.toList ++ [.int s0]) r.2 := (zz_X_eq sg_law _ _ _ _).trans rfl
theorem bl_9 (C : zz_C) (N : Nat) (xs : Nat → Int32) (M : Nat → Nat → Int32) (L : Nat → Nat → Int64) (a b : Nat) (v : Int32) (s0 : Int32) : zz_X C tb_law 9 [some (.ref 1004), some (.ref 0), some (.ref 52), some (.int v)] [.int s0, .int s0] (zro N xs, zsh, M, L, a, b) = zz_X C tb_law 142 [some (.ref 1004), some (.ref 0), some (.ref 52), some (.int v)] [] (zro N xs, zsh, M, L, a, b) := (zz_X_eq sg_law _ _ _ _).trans (if_pos rfl)
theorem lp_1 (hN : N ≤ 384) (hi : i + 6 ≤ N) (hI : Inv M L) : ∃ M2 L2, Inv M2 L2 ∧ zz_X (zz_call_ 100) tb_law 7 [some (.ref 1004), some (.ref 0), some (.ref 52), some (.int (iI i))] [] (zro N xs, zsh, M, L, a, b) = zz_X (zz_call_ 100) tb_law 142 [some (.ref 1004), some (.ref 0), some (.ref 52), some (.int (iI i))] [] (zro N xs, zsh, M2, L2, a, b) := by
  obtain ⟨v, M1, L1, M2, L2, h1, h2, hI2⟩ := o_lay (xs (i + 1)) (xs (i + 2)) (xs (i + 3)) hI
  have e1 := h1 100 (by omega) N xs a b
  have e2 := h2 100 (by omega) N xs a b
  obtain ⟨x, hx⟩ := zz_kd mk_96 rfl hc_96 e1
  have hv : v = .int x := Option.some.inj hx
  subst hv
  have q1 : zz_ix (iI i + 1) N = some (i + 1) := ixp (k := 1) (by omega) hN
  have q2 : zz_ix (iI i + 2) N = some (i + 2) := ixp (k := 2) (by omega) hN
  have q3 : zz_ix (iI i + 3) N = some (i + 3) := ixp (k := 3) (by omega) hN
  refine ⟨M2, L2, hI2, ?_⟩
  rw [bl_7, q1, o_some, q2, o_some, q3, o_some, e1, o_some]
  refine Eq.trans (bl_8 _ _ _ _ _ _ _ _ x) ?_
  rw [q1, o_some, q2, o_some, q3, o_some, e2, o_some]
  exact bl_9 _ _ _ _ _ _ _ _ x
theorem bl_10 (C : zz_C) (N : Nat) (xs : Nat → Int32) (M : Nat → Nat → Int32) (L : Nat → Nat → Int64) (a b : Nat) (v : Int32) : zz_X C tb_law 10 [some (.ref 1004), some (.ref 0), some (.ref 52), some (.int v)] [] (zro N xs, zsh, M, L, a, b) = zz_o (zz_ix (v + 1) N) fun j1 => zz_o (zz_ix (v + 2) N) fun j2 => zz_o (C 97 [.ref 0, .int (xs j1), .int (xs j2)] (zro N xs, zsh, M, L, a, b)) fun r => zz_X C tb_law 11 [some (.ref 1004), some (.ref 0), some (.ref 52), some (.int v)] (r.1.toList ++ []) r.2 := (zz_X_eq sg_law _ _ _ _).trans rfl
theorem bl_11 (C : zz_C) (N : Nat) (xs : Nat → Int32) (M : Nat → Nat → Int32) (L : Nat → Nat → Int64) (a b : Nat) (v : Int32) (s0 : Int32) : zz_X C tb_law 11 [some (.ref 1004), some (.ref 0), some (.ref 52), some (.int v)] [.int s0] (zro N xs, zsh, M, L, a, b) = zz_o (zz_ix (v + 1) N) fun j1 => zz_o (zz_ix (v + 2) N) fun j2 => zz_o (C 169 [.ref 52, .int (xs j1), .int (xs j2)] (zro N xs, zsh, M, L, a, b)) fun r => zz_X C tb_law 12 [some (.ref 1004), some (.ref 0), some (.ref 52), some (.int v)] (r.1.toList ++ [.int s0]) r.2 := (zz_X_eq sg_law _ _ _ _).trans rfl
theorem bl_12 (C : zz_C) (N : Nat) (xs : Nat → Int32) (M : Nat → Nat → Int32) (L : Nat → Nat → Int64) (a b : Nat) (v : Int32) (s0 : Int32) : zz_X C tb_law 12 [some (.ref 1004), some (.ref 0), some (.ref 52), some (.int v)] [.int s0, .int s0] (zro N xs, zsh, M, L, a, b) = zz_X C tb_law 142 [some (.ref 1004), some (.ref 0), some (.ref 52), some (.int v)] [] (zro N xs, zsh, M, L, a, b) := (zz_X_eq sg_law _ _ _ _).trans (if_pos rfl)
theorem lp_2 (hN : N ≤ 384) (hi : i + 6 ≤ N) (hI : Inv M L) : ∃ M2 L2, Inv M2 L2 ∧ zz_X (zz_call_ 100) tb_law 10 [some (.ref 1004), some (.ref 0), some (.ref 52), some (.int (iI i))] [] (zro N xs, zsh, M, L, a, b) = zz_X (zz_call_ 100) tb_law 142 [some (.ref 1004), some (.ref 0), some (.ref 52), some (.int (iI i))] [] (zro N xs, zsh, M2, L2, a, b) := by
  obtain ⟨v, M1, L1, M2, L2, h1, h2, hI2⟩ := o_at (xs (i + 1)) (xs (i + 2)) hI
  have e1 := h1 100 (by omega) N xs a b
  have e2 := h2 100 (by omega) N xs a b
  obtain ⟨x, hx⟩ := zz_kd mk_97 rfl hc_97 e1
  have hv : v = .int x := Option.some.inj hx
  subst hv
  have q1 : zz_ix (iI i + 1) N = some (i + 1) := ixp (k := 1) (by omega) hN
  have q2 : zz_ix (iI i + 2) N = some (i + 2) := ixp (k := 2) (by omega) hN
  refine ⟨M2, L2, hI2, ?_⟩
  rw [bl_10, q1, o_some, q2, o_some, e1, o_some]
  refine Eq.trans (bl_11 _ _ _ _ _ _ _ _ x) ?_
  rw [q1, o_some, q2, o_some, e2, o_some]
  exact bl_12 _ _ _ _ _ _ _ _ x
theorem bl_13 (C : zz_C) (N : Nat) (xs : Nat → Int32) (M : Nat → Nat → Int32) (L : Nat → Nat → Int64) (a b : Nat) (v : Int32) : zz_X C tb_law 13 [some (.ref 1004), some (.ref 0), some (.ref 52), some (.int v)] [] (zro N xs, zsh, M, L, a, b) = zz_o (zz_ix (v + 1) N) fun j1 => zz_o (C 98 [.ref 0, .int (xs j1)] (zro N xs, zsh, M, L, a, b)) fun r => zz_X C tb_law 14 [some (.ref 1004), some (.ref 0), some (.ref 52), some (.int v)] (r.1.toList ++ []) r.2 := (zz_X_eq sg_law _ _ _ _).trans rfl
theorem bl_14 (C : zz_C) (N : Nat) (xs : Nat → Int32) (M : Nat → Nat → Int32) (L : Nat → Nat → Int64) (a b : Nat) (v : Int32) (s0 : Int32) : zz_X C tb_law 14 [some (.ref 1004), some (.ref 0), some (.ref 52), some (.int v)] [.int s0] (zro N xs, zsh, M, L, a, b) = zz_o (zz_ix (v + 1) N) fun j1 => zz_o (C 170 [.ref 52, .int (xs j1)] (zro N xs, zsh, M, L, a, b)) fun r => zz_X C tb_law 15 [some (.ref 1004), some (.ref 0), some (.ref 52), some (.int v)] (r.1.toList ++ [.int s0]) r.2 := (zz_X_eq sg_law _ _ _ _).trans rfl
theorem bl_15 (C : zz_C) (N : Nat) (xs : Nat → Int32) (M : Nat → Nat → Int32) (L : Nat → Nat → Int64) (a b : Nat) (v : Int32) (s0 : Int32) : zz_X C tb_law 15 [some (.ref 1004), some (.ref 0), some (.ref 52), some (.int v)] [.int s0, .int s0] (zro N xs, zsh, M, L, a, b) = zz_X C tb_law 142 [some (.ref 1004), some (.ref 0), some (.ref 52), some (.int v)] [] (zro N xs, zsh, M, L, a, b) := (zz_X_eq sg_law _ _ _ _).trans (if_pos rfl)
theorem lp_3 (hN : N ≤ 384) (hi : i + 6 ≤ N) (hI : Inv M L) : ∃ M2 L2, Inv M2 L2 ∧ zz_X (zz_call_ 100) tb_law 13 [some (.ref 1004), some (.ref 0), some (.ref 52), some (.int (iI i))] [] (zro N xs, zsh, M, L, a, b) = zz_X (zz_call_ 100) tb_law 142 [some (.ref 1004), some (.ref 0), some (.ref 52), some (.int (iI i))] [] (zro N xs, zsh, M2, L2, a, b) := by
  obtain ⟨v, M1, L1, M2, L2, h1, h2, hI2⟩ := o_tear (xs (i + 1)) hI
  have e1 := h1 100 (by omega) N xs a b
  have e2 := h2 100 (by omega) N xs a b
  obtain ⟨x, hx⟩ := zz_kd mk_98 rfl hc_98 e1
  have hv : v = .int x := Option.some.inj hx
  subst hv
  have q1 : zz_ix (iI i + 1) N = some (i + 1) := ixp (k := 1) (by omega) hN
  refine ⟨M2, L2, hI2, ?_⟩
  rw [bl_13, q1, o_some, e1, o_some]
  refine Eq.trans (bl_14 _ _ _ _ _ _ _ _ x) ?_
  rw [q1, o_some, e2, o_some]
  exact bl_15 _ _ _ _ _ _ _ _ x
theorem bl_16 (C : zz_C) (N : Nat) (xs : Nat → Int32) (M : Nat → Nat → Int32) (L : Nat → Nat → Int64) (a b : Nat) (v : Int32) : zz_X C tb_law 16 [some (.ref 1004), some (.ref 0), some (.ref 52), some (.int v)] [] (zro N xs, zsh, M, L, a, b) = zz_o (zz_ix (v + 1) N) fun j1 => zz_o (zz_ix (v + 2) N) fun j2 => zz_o (zz_ix (v + 3) N) fun j3 => zz_o (zz_ix (v + 4) N) fun j4 => zz_o (zz_ix (v + 5) N) fun j5 => zz_o (C 99 [.ref 0, .int (xs j1), .int (xs j2), .int (xs j3), .int (xs j4), .int (xs j5)] (zro N xs, zsh, M, L, a, b)) fun r => zz_X C tb_law 17 [some (.ref 1004), some (.ref 0), some (.ref 52), some (.int v)] (r.1.toList ++ []) r.2 := (zz_X_eq sg_law _ _ _ _).trans rfl
theorem bl_17 (C : zz_C) (N : Nat) (xs : Nat → Int32) (M : Nat → Nat → Int32) (L : Nat → Nat → Int64) (a b : Nat) (v : Int32) (s0 : Int32) : zz_X C tb_law 17 [some (.ref 1004), some (.ref 0), some (.ref 52), some (.int v)] [.int s0] (zro N xs, zsh, M, L, a, b) = zz_o (zz_ix (v + 1) N) fun j1 => zz_o (zz_ix (v + 2) N) fun j2 => zz_o (zz_ix (v + 3) N) fun j3 => zz_o (zz_ix (v + 4) N) fun j4 => zz_o (zz_ix (v + 5) N) fun j5 => zz_o (C 172 [.ref 52, .int (xs j1), .int (xs j2), .int (xs j3), .int (xs j4), .int (xs j5)] (zro N xs, zsh, M, L, a, b)) fun r => zz_X C tb_law 18 [some (.ref 1004), some (.ref 0), some (.ref 52), some (.int v)] (r.1.toList ++ [.int s0]) r.2 := (zz_X_eq sg_law _ _ _ _).trans rfl
theorem bl_18 (C : zz_C) (N : Nat) (xs : Nat → Int32) (M : Nat → Nat → Int32) (L : Nat → Nat → Int64) (a b : Nat) (v : Int32) (s0 : Int32) : zz_X C tb_law 18 [some (.ref 1004), some (.ref 0), some (.ref 52), some (.int v)] [.int s0, .int s0] (zro N xs, zsh, M, L, a, b) = zz_X C tb_law 142 [some (.ref 1004), some (.ref 0), some (.ref 52), some (.int v)] [] (zro N xs, zsh, M, L, a, b) := (zz_X_eq sg_law _ _ _ _).trans (if_pos rfl)
theorem lp_4 (hN : N ≤ 384) (hi : i + 6 ≤ N) (hI : Inv M L) : ∃ M2 L2, Inv M2 L2 ∧ zz_X (zz_call_ 100) tb_law 16 [some (.ref 1004), some (.ref 0), some (.ref 52), some (.int (iI i))] [] (zro N xs, zsh, M, L, a, b) = zz_X (zz_call_ 100) tb_law 142 [some (.ref 1004), some (.ref 0), some (.ref 52), some (.int (iI i))] [] (zro N xs, zsh, M2, L2, a, b) := by
  obtain ⟨v, M1, L1, M2, L2, h1, h2, hI2⟩ := o_copy (xs (i + 1)) (xs (i + 2)) (xs (i + 3)) (xs (i + 4)) (xs (i + 5)) hI
  have e1 := h1 100 (by omega) N xs a b
  have e2 := h2 100 (by omega) N xs a b
  obtain ⟨x, hx⟩ := zz_kd mk_99 rfl hc_99 e1
  have hv : v = .int x := Option.some.inj hx
  subst hv
  have q1 : zz_ix (iI i + 1) N = some (i + 1) := ixp (k := 1) (by omega) hN
  have q2 : zz_ix (iI i + 2) N = some (i + 2) := ixp (k := 2) (by omega) hN
  have q3 : zz_ix (iI i + 3) N = some (i + 3) := ixp (k := 3) (by omega) hN
  have q4 : zz_ix (iI i + 4) N = some (i + 4) := ixp (k := 4) (by omega) hN
  have q5 : zz_ix (iI i + 5) N = some (i + 5) := ixp (k := 5) (by omega) hN
  refine ⟨M2, L2, hI2, ?_⟩
  rw [bl_16, q1, o_some, q2, o_some, q3, o_some, q4, o_some, q5, o_some, e1, o_some]
  refine Eq.trans (bl_17 _ _ _ _ _ _ _ _ x) ?_
  rw [q1, o_some, q2, o_some, q3, o_some, q4, o_some, q5, o_some, e2, o_some]
  exact bl_18 _ _ _ _ _ _ _ _ x
theorem bl_19 (C : zz_C) (N : Nat) (xs : Nat → Int32) (M : Nat → Nat → Int32) (L : Nat → Nat → Int64) (a b : Nat) (v : Int32) : zz_X C tb_law 19 [some (.ref 1004), some (.ref 0), some (.ref 52), some (.int v)] [] (zro N xs, zsh, M, L, a, b) = zz_o (zz_ix (v + 1) N) fun j1 => zz_o (C 100 [.ref 0, .int (xs j1)] (zro N xs, zsh, M, L, a, b)) fun r => zz_X C tb_law 20 [some (.ref 1004), some (.ref 0), some (.ref 52), some (.int v)] (r.1.toList ++ []) r.2 := (zz_X_eq sg_law _ _ _ _).trans rfl
theorem bl_20 (C : zz_C) (N : Nat) (xs : Nat → Int32) (M : Nat → Nat → Int32) (L : Nat → Nat → Int64) (a b : Nat) (v : Int32) (s0 : Int32) : zz_X C tb_law 20 [some (.ref 1004), some (.ref 0), some (.ref 52), some (.int v)] [.int s0] (zro N xs, zsh, M, L, a, b) = zz_o (zz_ix (v + 1) N) fun j1 => zz_o (C 173 [.ref 52, .int (xs j1)] (zro N xs, zsh, M, L, a, b)) fun r => zz_X C tb_law 21 [some (.ref 1004), some (.ref 0), some (.ref 52), some (.int v)] (r.1.toList ++ [.int s0]) r.2 := (zz_X_eq sg_law _ _ _ _).trans rfl
theorem bl_21 (C : zz_C) (N : Nat) (xs : Nat → Int32) (M : Nat → Nat → Int32) (L : Nat → Nat → Int64) (a b : Nat) (v : Int32) (s0 : Int32) : zz_X C tb_law 21 [some (.ref 1004), some (.ref 0), some (.ref 52), some (.int v)] [.int s0, .int s0] (zro N xs, zsh, M, L, a, b) = zz_X C tb_law 142 [some (.ref 1004), some (.ref 0), some (.ref 52), some (.int v)] [] (zro N xs, zsh, M, L, a, b) := (zz_X_eq sg_law _ _ _ _).trans (if_pos rfl)
theorem lp_5 (hN : N ≤ 384) (hi : i + 6 ≤ N) (hI : Inv M L) : ∃ M2 L2, Inv M2 L2 ∧ zz_X (zz_call_ 100) tb_law 19 [some (.ref 1004), some (.ref 0), some (.ref 52), some (.int (iI i))] [] (zro N xs, zsh, M, L, a, b) = zz_X (zz_call_ 100) tb_law 142 [some (.ref 1004), some (.ref 0), some (.ref 52), some (.int (iI i))] [] (zro N xs, zsh, M2, L2, a, b) := by
  obtain ⟨v, M1, L1, M2, L2, h1, h2, hI2⟩ := o_mean (xs (i + 1)) hI
  have e1 := h1 100 (by omega) N xs a b
  have e2 := h2 100 (by omega) N xs a b
  obtain ⟨x, hx⟩ := zz_kd mk_100 rfl hc_100 e1
  have hv : v = .int x := Option.some.inj hx
  subst hv
  have q1 : zz_ix (iI i + 1) N = some (i + 1) := ixp (k := 1) (by omega) hN
  refine ⟨M2, L2, hI2, ?_⟩
  rw [bl_19, q1, o_some, e1, o_some]
  refine Eq.trans (bl_20 _ _ _ _ _ _ _ _ x) ?_
  rw [q1, o_some, e2, o_some]
  exact bl_21 _ _ _ _ _ _ _ _ x
theorem bl_22 (C : zz_C) (N : Nat) (xs : Nat → Int32) (M : Nat → Nat → Int32) (L : Nat → Nat → Int64) (a b : Nat) (v : Int32) : zz_X C tb_law 22 [some (.ref 1004), some (.ref 0), some (.ref 52), some (.int v)] [] (zro N xs, zsh, M, L, a, b) = zz_o (zz_ix (v + 1) N) fun j1 => zz_o (zz_ix (v + 2) N) fun j2 => zz_o (C 101 [.ref 0, .int (xs j1), .int (xs j2)] (zro N xs, zsh, M, L, a, b)) fun r => zz_X C tb_law 23 [some (.ref 1004), some (.ref 0), some (.ref 52), some (.int v)] (r.1.toList ++ []) r.2 := (zz_X_eq sg_law _ _ _ _).trans rfl
theorem bl_23 (C : zz_C) (N : Nat) (xs : Nat → Int32) (M : Nat → Nat → Int32) (L : Nat → Nat → Int64) (a b : Nat) (v : Int32) (s0 : Int32) : zz_X C tb_law 23 [some (.ref 1004), some (.ref 0), some (.ref 52), some (.int v)] [.int s0] (zro N xs, zsh, M, L, a, b) = zz_o (zz_ix (v + 1) N) fun j1 => zz_o (zz_ix (v + 2) N) fun j2 => zz_o (C 174 [.ref 52, .int (xs j1), .int (xs j2)] (zro N xs, zsh, M, L, a, b)) fun r => zz_X C tb_law 24 [some (.ref 1004), some (.ref 0), some (.ref 52), some (.int v)] (r.1.toList ++ [.int s0]) r.2 := (zz_X_eq sg_law _ _ _ _).trans rfl
theorem bl_24 (C : zz_C) (N : Nat) (xs : Nat → Int32) (M : Nat → Nat → Int32) (L : Nat → Nat → Int64) (a b : Nat) (v : Int32) (s0 : Int32) : zz_X C tb_law 24 [some (.ref 1004), some (.ref 0), some (.ref 52), some (.int v)] [.int s0, .int s0] (zro N xs, zsh, M, L, a, b) = zz_X C tb_law 142 [some (.ref 1004), some (.ref 0), some (.ref 52), some (.int v)] [] (zro N xs, zsh, M, L, a, b) := (zz_X_eq sg_law _ _ _ _).trans (if_pos rfl)
theorem lp_6 (hN : N ≤ 384) (hi : i + 6 ≤ N) (hI : Inv M L) : ∃ M2 L2, Inv M2 L2 ∧ zz_X (zz_call_ 100) tb_law 22 [some (.ref 1004), some (.ref 0), some (.ref 52), some (.int (iI i))] [] (zro N xs, zsh, M, L, a, b) = zz_X (zz_call_ 100) tb_law 142 [some (.ref 1004), some (.ref 0), some (.ref 52), some (.int (iI i))] [] (zro N xs, zsh, M2, L2, a, b) := by
  obtain ⟨v, M1, L1, M2, L2, h1, h2, hI2⟩ := o_text (xs (i + 1)) (xs (i + 2)) hI
  have e1 := h1 100 (by omega) N xs a b
  have e2 := h2 100 (by omega) N xs a b
  obtain ⟨x, hx⟩ := zz_kd mk_101 rfl hc_101 e1
  have hv : v = .int x := Option.some.inj hx
  subst hv
  have q1 : zz_ix (iI i + 1) N = some (i + 1) := ixp (k := 1) (by omega) hN
  have q2 : zz_ix (iI i + 2) N = some (i + 2) := ixp (k := 2) (by omega) hN
  refine ⟨M2, L2, hI2, ?_⟩
  rw [bl_22, q1, o_some, q2, o_some, e1, o_some]
  refine Eq.trans (bl_23 _ _ _ _ _ _ _ _ x) ?_
  rw [q1, o_some, q2, o_some, e2, o_some]
  exact bl_24 _ _ _ _ _ _ _ _ x
theorem bl_25 (C : zz_C) (N : Nat) (xs : Nat → Int32) (M : Nat → Nat → Int32) (L : Nat → Nat → Int64) (a b : Nat) (v : Int32) : zz_X C tb_law 25 [some (.ref 1004), some (.ref 0), some (.ref 52), some (.int v)] [] (zro N xs, zsh, M, L, a, b) = zz_o (zz_ix (v + 1) N) fun j1 => zz_o (zz_ix (v + 2) N) fun j2 => zz_o (zz_ix (v + 3) N) fun j3 => zz_o (C 102 [.ref 0, .int (xs j1), .int (xs j2), .int (xs j3)] (zro N xs, zsh, M, L, a, b)) fun r => zz_X C tb_law 26 [some (.ref 1004), some (.ref 0), some (.ref 52), some (.int v)] (r.1.toList ++ []) r.2 := (zz_X_eq sg_law _ _ _ _).trans rfl
theorem bl_26 (C : zz_C) (N : Nat) (xs : Nat → Int32) (M : Nat → Nat → Int32) (L : Nat → Nat → Int64) (a b : Nat) (v : Int32) (s0 : Int32) : zz_X C tb_law 26 [some (.ref 1004), some (.ref 0), some (.ref 52), some (.int v)] [.int s0] (zro N xs, zsh, M, L, a, b) = zz_o (zz_ix (v + 1) N) fun j1 => zz_o (zz_ix (v + 2) N) fun j2 => zz_o (zz_ix (v + 3) N) fun j3 => zz_o (C 175 [.ref 52, .int (xs j1), .int (xs j2), .int (xs j3)] (zro N xs, zsh, M, L, a, b)) fun r => zz_X C tb_law 27 [some (.ref 1004), some (.ref 0), some (.ref 52), some (.int v)] (r.1.toList ++ [.int s0]) r.2 := (zz_X_eq sg_law _ _ _ _).trans rfl
theorem bl_27 (C : zz_C) (N : Nat) (xs : Nat → Int32) (M : Nat → Nat → Int32) (L : Nat → Nat → Int64) (a b : Nat) (v : Int32) (s0 : Int32) : zz_X C tb_law 27 [some (.ref 1004), some (.ref 0), some (.ref 52), some (.int v)] [.int s0, .int s0] (zro N xs, zsh, M, L, a, b) = zz_X C tb_law 142 [some (.ref 1004), some (.ref 0), some (.ref 52), some (.int v)] [] (zro N xs, zsh, M, L, a, b) := (zz_X_eq sg_law _ _ _ _).trans (if_pos rfl)
theorem lp_7 (hN : N ≤ 384) (hi : i + 6 ≤ N) (hI : Inv M L) : ∃ M2 L2, Inv M2 L2 ∧ zz_X (zz_call_ 100) tb_law 25 [some (.ref 1004), some (.ref 0), some (.ref 52), some (.int (iI i))] [] (zro N xs, zsh, M, L, a, b) = zz_X (zz_call_ 100) tb_law 142 [some (.ref 1004), some (.ref 0), some (.ref 52), some (.int (iI i))] [] (zro N xs, zsh, M2, L2, a, b) := by
  obtain ⟨v, M1, L1, M2, L2, h1, h2, hI2⟩ := o_put (xs (i + 1)) (xs (i + 2)) (xs (i + 3)) hI
  have e1 := h1 100 (by omega) N xs a b
  have e2 := h2 100 (by omega) N xs a b
  obtain ⟨x, hx⟩ := zz_kd mk_102 rfl hc_102 e1
  have hv : v = .int x := Option.some.inj hx
  subst hv
  have q1 : zz_ix (iI i + 1) N = some (i + 1) := ixp (k := 1) (by omega) hN
  have q2 : zz_ix (iI i + 2) N = some (i + 2) := ixp (k := 2) (by omega) hN
  have q3 : zz_ix (iI i + 3) N = some (i + 3) := ixp (k := 3) (by omega) hN
  refine ⟨M2, L2, hI2, ?_⟩
  rw [bl_25, q1, o_some, q2, o_some, q3, o_some, e1, o_some]
  refine Eq.trans (bl_26 _ _ _ _ _ _ _ _ x) ?_
  rw [q1, o_some, q2, o_some, q3, o_some, e2, o_some]
  exact bl_27 _ _ _ _ _ _ _ _ x
theorem bl_28 (C : zz_C) (N : Nat) (xs : Nat → Int32) (M : Nat → Nat → Int32) (L : Nat → Nat → Int64) (a b : Nat) (v : Int32) : zz_X C tb_law 28 [some (.ref 1004), some (.ref 0), some (.ref 52), some (.int v)] [] (zro N xs, zsh, M, L, a, b) = zz_o (zz_ix (v + 1) N) fun j1 => zz_o (C 103 [.ref 0, .int (xs j1)] (zro N xs, zsh, M, L, a, b)) fun r => zz_X C tb_law 29 [some (.ref 1004), some (.ref 0), some (.ref 52), some (.int v)] (r.1.toList ++ []) r.2 := (zz_X_eq sg_law _ _ _ _).trans rfl
theorem bl_29 (C : zz_C) (N : Nat) (xs : Nat → Int32) (M : Nat → Nat → Int32) (L : Nat → Nat → Int64) (a b : Nat) (v : Int32) (s0 : Int32) : zz_X C tb_law 29 [some (.ref 1004), some (.ref 0), some (.ref 52), some (.int v)] [.int s0] (zro N xs, zsh, M, L, a, b) = zz_o (zz_ix (v + 1) N) fun j1 => zz_o (C 183 [.ref 52, .int (xs j1)] (zro N xs, zsh, M, L, a, b)) fun r => zz_X C tb_law 30 [some (.ref 1004), some (.ref 0), some (.ref 52), some (.int v)] (r.1.toList ++ [.int s0]) r.2 := (zz_X_eq sg_law _ _ _ _).trans rfl
theorem bl_30 (C : zz_C) (N : Nat) (xs : Nat → Int32) (M : Nat → Nat → Int32) (L : Nat → Nat → Int64) (a b : Nat) (v : Int32) (s0 : Int32) : zz_X C tb_law 30 [some (.ref 1004), some (.ref 0), some (.ref 52), some (.int v)] [.int s0, .int s0] (zro N xs, zsh, M, L, a, b) = zz_X C tb_law 142 [some (.ref 1004), some (.ref 0), some (.ref 52), some (.int v)] [] (zro N xs, zsh, M, L, a, b) := (zz_X_eq sg_law _ _ _ _).trans (if_pos rfl)
theorem lp_8 (hN : N ≤ 384) (hi : i + 6 ≤ N) (hI : Inv M L) : ∃ M2 L2, Inv M2 L2 ∧ zz_X (zz_call_ 100) tb_law 28 [some (.ref 1004), some (.ref 0), some (.ref 52), some (.int (iI i))] [] (zro N xs, zsh, M, L, a, b) = zz_X (zz_call_ 100) tb_law 142 [some (.ref 1004), some (.ref 0), some (.ref 52), some (.int (iI i))] [] (zro N xs, zsh, M2, L2, a, b) := by
  obtain ⟨v, M1, L1, M2, L2, h1, h2, hI2⟩ := o_fault (xs (i + 1)) hI
  have e1 := h1 100 (by omega) N xs a b
  have e2 := h2 100 (by omega) N xs a b
  obtain ⟨x, hx⟩ := zz_kd mk_103 rfl hc_103 e1
  have hv : v = .int x := Option.some.inj hx
  subst hv
  have q1 : zz_ix (iI i + 1) N = some (i + 1) := ixp (k := 1) (by omega) hN
  refine ⟨M2, L2, hI2, ?_⟩
  rw [bl_28, q1, o_some, e1, o_some]
  refine Eq.trans (bl_29 _ _ _ _ _ _ _ _ x) ?_
  rw [q1, o_some, e2, o_some]
  exact bl_30 _ _ _ _ _ _ _ _ x
theorem bl_31 (C : zz_C) (N : Nat) (xs : Nat → Int32) (M : Nat → Nat → Int32) (L : Nat → Nat → Int64) (a b : Nat) (v : Int32) : zz_X C tb_law 31 [some (.ref 1004), some (.ref 0), some (.ref 52), some (.int v)] [] (zro N xs, zsh, M, L, a, b) = zz_o (zz_ix (v + 1) N) fun j1 => zz_o (C 104 [.ref 0, .int (xs j1)] (zro N xs, zsh, M, L, a, b)) fun r => zz_X C tb_law 32 [some (.ref 1004), some (.ref 0), some (.ref 52), some (.int v)] (r.1.toList ++ []) r.2 := (zz_X_eq sg_law _ _ _ _).trans rfl
theorem bl_32 (C : zz_C) (N : Nat) (xs : Nat → Int32) (M : Nat → Nat → Int32) (L : Nat → Nat → Int64) (a b : Nat) (v : Int32) (s0 : Int32) : zz_X C tb_law 32 [some (.ref 1004), some (.ref 0), some (.ref 52), some (.int v)] [.int s0] (zro N xs, zsh, M, L, a, b) = zz_o (zz_ix (v + 1) N) fun j1 => zz_o (C 184 [.ref 52, .int (xs j1)] (zro N xs, zsh, M, L, a, b)) fun r => zz_X C tb_law 33 [some (.ref 1004), some (.ref 0), some (.ref 52), some (.int v)] (r.1.toList ++ [.int s0]) r.2 := (zz_X_eq sg_law _ _ _ _).trans rfl
theorem bl_33 (C : zz_C) (N : Nat) (xs : Nat → Int32) (M : Nat → Nat → Int32) (L : Nat → Nat → Int64) (a b : Nat) (v : Int32) (s0 : Int32) : zz_X C tb_law 33 [some (.ref 1004), some (.ref 0), some (.ref 52), some (.int v)] [.int s0, .int s0] (zro N xs, zsh, M, L, a, b) = zz_X C tb_law 142 [some (.ref 1004), some (.ref 0), some (.ref 52), some (.int v)] [] (zro N xs, zsh, M, L, a, b) := (zz_X_eq sg_law _ _ _ _).trans (if_pos rfl)
theorem lp_9 (hN : N ≤ 384) (hi : i + 6 ≤ N) (hI : Inv M L) : ∃ M2 L2, Inv M2 L2 ∧ zz_X (zz_call_ 100) tb_law 31 [some (.ref 1004), some (.ref 0), some (.ref 52), some (.int (iI i))] [] (zro N xs, zsh, M, L, a, b) = zz_X (zz_call_ 100) tb_law 142 [some (.ref 1004), some (.ref 0), some (.ref 52), some (.int (iI i))] [] (zro N xs, zsh, M2, L2, a, b) := by
  obtain ⟨v, M1, L1, M2, L2, h1, h2, hI2⟩ := o_house (xs (i + 1)) hI
  have e1 := h1 100 (by omega) N xs a b
  have e2 := h2 100 (by omega) N xs a b
  obtain ⟨x, hx⟩ := zz_kd mk_104 rfl hc_104 e1
  have hv : v = .int x := Option.some.inj hx
  subst hv
  have q1 : zz_ix (iI i + 1) N = some (i + 1) := ixp (k := 1) (by omega) hN
  refine ⟨M2, L2, hI2, ?_⟩
  rw [bl_31, q1, o_some, e1, o_some]
  refine Eq.trans (bl_32 _ _ _ _ _ _ _ _ x) ?_
  rw [q1, o_some, e2, o_some]
  exact bl_33 _ _ _ _ _ _ _ _ x
theorem bl_34 (C : zz_C) (N : Nat) (xs : Nat → Int32) (M : Nat → Nat → Int32) (L : Nat → Nat → Int64) (a b : Nat) (v : Int32) : zz_X C tb_law 34 [some (.ref 1004), some (.ref 0), some (.ref 52), some (.int v)] [] (zro N xs, zsh, M, L, a, b) = zz_o (zz_ix (v + 1) N) fun j1 => zz_o (zz_ix (v + 2) N) fun j2 => zz_o (C 105 [.ref 0, .int (xs j1), .int (xs j2)] (zro N xs, zsh, M, L, a, b)) fun r => zz_X C tb_law 35 [some (.ref 1004), some (.ref 0), some (.ref 52), some (.int v)] (r.1.toList ++ []) r.2 := (zz_X_eq sg_law _ _ _ _).trans rfl
theorem bl_35 (C : zz_C) (N : Nat) (xs : Nat → Int32) (M : Nat → Nat → Int32) (L : Nat → Nat → Int64) (a b : Nat) (v : Int32) (s0 : Int32) : zz_X C tb_law 35 [some (.ref 1004), some (.ref 0), some (.ref 52), some (.int v)] [.int s0] (zro N xs, zsh, M, L, a, b) = zz_o (zz_ix (v + 1) N) fun j1 => zz_o (zz_ix (v + 2) N) fun j2 => zz_o (C 193 [.ref 52, .int (xs j1), .int (xs j2)] (zro N xs, zsh, M, L, a, b)) fun r => zz_X C tb_law 36 [some (.ref 1004), some (.ref 0), some (.ref 52), some (.int v)] (r.1.toList ++ [.int s0]) r.2 := (zz_X_eq sg_law _ _ _ _).trans rfl
theorem bl_36 (C : zz_C) (N : Nat) (xs : Nat → Int32) (M : Nat → Nat → Int32) (L : Nat → Nat → Int64) (a b : Nat) (v : Int32) (s0 : Int32) : zz_X C tb_law 36 [some (.ref 1004), some (.ref 0), some (.ref 52), some (.int v)] [.int s0, .int s0] (zro N xs, zsh, M, L, a, b) = zz_X C tb_law 142 [some (.ref 1004), some (.ref 0), some (.ref 52), some (.int v)] [] (zro N xs, zsh, M, L, a, b) := (zz_X_eq sg_law _ _ _ _).trans (if_pos rfl)
theorem lp_10 (hN : N ≤ 384) (hi : i + 6 ≤ N) (hI : Inv M L) : ∃ M2 L2, Inv M2 L2 ∧ zz_X (zz_call_ 100) tb_law 34 [some (.ref 1004), some (.ref 0), some (.ref 52), some (.int (iI i))] [] (zro N xs, zsh, M, L, a, b) = zz_X (zz_call_ 100) tb_law 142 [some (.ref 1004), some (.ref 0), some (.ref 52), some (.int (iI i))] [] (zro N xs, zsh, M2, L2, a, b) := by
  obtain ⟨v, M1, L1, M2, L2, h1, h2, hI2⟩ := o_piece (xs (i + 1)) (xs (i + 2)) hI
  have e1 := h1 100 (by omega) N xs a b
  have e2 := h2 100 (by omega) N xs a b
  obtain ⟨x, hx⟩ := zz_kd mk_105 rfl hc_105 e1
  have hv : v = .int x := Option.some.inj hx
  subst hv
  have q1 : zz_ix (iI i + 1) N = some (i + 1) := ixp (k := 1) (by omega) hN
  have q2 : zz_ix (iI i + 2) N = some (i + 2) := ixp (k := 2) (by omega) hN
  refine ⟨M2, L2, hI2, ?_⟩
  rw [bl_34, q1, o_some, q2, o_some, e1, o_some]
  refine Eq.trans (bl_35 _ _ _ _ _ _ _ _ x) ?_
  rw [q1, o_some, q2, o_some, e2, o_some]
  exact bl_36 _ _ _ _ _ _ _ _ x
theorem bl_37 (C : zz_C) (N : Nat) (xs : Nat → Int32) (M : Nat → Nat → Int32) (L : Nat → Nat → Int64) (a b : Nat) (v : Int32) : zz_X C tb_law 37 [some (.ref 1004), some (.ref 0), some (.ref 52), some (.int v)] [] (zro N xs, zsh, M, L, a, b) = zz_o (zz_ix (v + 1) N) fun j1 => zz_o (zz_ix (v + 2) N) fun j2 => zz_o (C 106 [.ref 0, .int (xs j1), .int (xs j2)] (zro N xs, zsh, M, L, a, b)) fun r => zz_X C tb_law 38 [some (.ref 1004), some (.ref 0), some (.ref 52), some (.int v)] (r.1.toList ++ []) r.2 := (zz_X_eq sg_law _ _ _ _).trans rfl
theorem bl_38 (C : zz_C) (N : Nat) (xs : Nat → Int32) (M : Nat → Nat → Int32) (L : Nat → Nat → Int64) (a b : Nat) (v : Int32) (s0 : Int32) : zz_X C tb_law 38 [some (.ref 1004), some (.ref 0), some (.ref 52), some (.int v)] [.int s0] (zro N xs, zsh, M, L, a, b) = zz_o (zz_ix (v + 1) N) fun j1 => zz_o (zz_ix (v + 2) N) fun j2 => zz_o (C 196 [.ref 52, .int (xs j1), .int (xs j2)] (zro N xs, zsh, M, L, a, b)) fun r => zz_X C tb_law 39 [some (.ref 1004), some (.ref 0), some (.ref 52), some (.int v)] (r.1.toList ++ [.int s0]) r.2 := (zz_X_eq sg_law _ _ _ _).trans rfl
theorem bl_39 (C : zz_C) (N : Nat) (xs : Nat → Int32) (M : Nat → Nat → Int32) (L : Nat → Nat → Int64) (a b : Nat) (v : Int32) (s0 : Int32) : zz_X C tb_law 39 [some (.ref 1004), some (.ref 0), some (.ref 52), some (.int v)] [.int s0, .int s0] (zro N xs, zsh, M, L, a, b) = zz_X C tb_law 142 [some (.ref 1004), some (.ref 0), some (.ref 52), some (.int v)] [] (zro N xs, zsh, M, L, a, b) := (zz_X_eq sg_law _ _ _ _).trans (if_pos rfl)
theorem lp_11 (hN : N ≤ 384) (hi : i + 6 ≤ N) (hI : Inv M L) : ∃ M2 L2, Inv M2 L2 ∧ zz_X (zz_call_ 100) tb_law 37 [some (.ref 1004), some (.ref 0), some (.ref 52), some (.int (iI i))] [] (zro N xs, zsh, M, L, a, b) = zz_X (zz_call_ 100) tb_law 142 [some (.ref 1004), some (.ref 0), some (.ref 52), some (.int (iI i))] [] (zro N xs, zsh, M2, L2, a, b) := by
  obtain ⟨v, M1, L1, M2, L2, h1, h2, hI2⟩ := o_mark (xs (i + 1)) (xs (i + 2)) hI
  have e1 := h1 100 (by omega) N xs a b
  have e2 := h2 100 (by omega) N xs a b
  obtain ⟨x, hx⟩ := zz_kd mk_106 rfl hc_106 e1
  have hv : v = .int x := Option.some.inj hx
  subst hv
  have q1 : zz_ix (iI i + 1) N = some (i + 1) := ixp (k := 1) (by omega) hN
  have q2 : zz_ix (iI i + 2) N = some (i + 2) := ixp (k := 2) (by omega) hN
  refine ⟨M2, L2, hI2, ?_⟩
  rw [bl_37, q1, o_some, q2, o_some, e1, o_some]
  refine Eq.trans (bl_38 _ _ _ _ _ _ _ _ x) ?_
  rw [q1, o_some, q2, o_some, e2, o_some]
  exact bl_39 _ _ _ _ _ _ _ _ x
theorem bl_40 (C : zz_C) (N : Nat) (xs : Nat → Int32) (M : Nat → Nat → Int32) (L : Nat → Nat → Int64) (a b : Nat) (v : Int32) : zz_X C tb_law 40 [some (.ref 1004), some (.ref 0), some (.ref 52), some (.int v)] [] (zro N xs, zsh, M, L, a, b) = zz_o (zz_ix (v + 1) N) fun j1 => zz_o (C 107 [.ref 0, .int (xs j1)] (zro N xs, zsh, M, L, a, b)) fun r => zz_X C tb_law 41 [some (.ref 1004), some (.ref 0), some (.ref 52), some (.int v)] (r.1.toList ++ []) r.2 := (zz_X_eq sg_law _ _ _ _).trans rfl
theorem bl_41 (C : zz_C) (N : Nat) (xs : Nat → Int32) (M : Nat → Nat → Int32) (L : Nat → Nat → Int64) (a b : Nat) (v : Int32) (s0 : Int32) : zz_X C tb_law 41 [some (.ref 1004), some (.ref 0), some (.ref 52), some (.int v)] [.int s0] (zro N xs, zsh, M, L, a, b) = zz_o (zz_ix (v + 1) N) fun j1 => zz_o (C 197 [.ref 52, .int (xs j1)] (zro N xs, zsh, M, L, a, b)) fun r => zz_X C tb_law 42 [some (.ref 1004), some (.ref 0), some (.ref 52), some (.int v)] (r.1.toList ++ [.int s0]) r.2 := (zz_X_eq sg_law _ _ _ _).trans rfl
theorem bl_42 (C : zz_C) (N : Nat) (xs : Nat → Int32) (M : Nat → Nat → Int32) (L : Nat → Nat → Int64) (a b : Nat) (v : Int32) (s0 : Int32) : zz_X C tb_law 42 [some (.ref 1004), some (.ref 0), some (.ref 52), some (.int v)] [.int s0, .int s0] (zro N xs, zsh, M, L, a, b) = zz_X C tb_law 142 [some (.ref 1004), some (.ref 0), some (.ref 52), some (.int v)] [] (zro N xs, zsh, M, L, a, b) := (zz_X_eq sg_law _ _ _ _).trans (if_pos rfl)
theorem lp_12 (hN : N ≤ 384) (hi : i + 6 ≤ N) (hI : Inv M L) : ∃ M2 L2, Inv M2 L2 ∧ zz_X (zz_call_ 100) tb_law 40 [some (.ref 1004), some (.ref 0), some (.ref 52), some (.int (iI i))] [] (zro N xs, zsh, M, L, a, b) = zz_X (zz_call_ 100) tb_law 142 [some (.ref 1004), some (.ref 0), some (.ref 52), some (.int (iI i))] [] (zro N xs, zsh, M2, L2, a, b) := by
  obtain ⟨v, M1, L1, M2, L2, h1, h2, hI2⟩ := o_heat (xs (i + 1)) hI
  have e1 := h1 100 (by omega) N xs a b
  have e2 := h2 100 (by omega) N xs a b
  obtain ⟨x, hx⟩ := zz_kd mk_107 rfl hc_107 e1
  have hv : v = .int x := Option.some.inj hx
  subst hv
  have q1 : zz_ix (iI i + 1) N = some (i + 1) := ixp (k := 1) (by omega) hN
  refine ⟨M2, L2, hI2, ?_⟩
  rw [bl_40, q1, o_some, e1, o_some]
  refine Eq.trans (bl_41 _ _ _ _ _ _ _ _ x) ?_
  rw [q1, o_some, e2, o_some]
  exact bl_42 _ _ _ _ _ _ _ _ x
theorem bl_43 (C : zz_C) (N : Nat) (xs : Nat → Int32) (M : Nat → Nat → Int32) (L : Nat → Nat → Int64) (a b : Nat) (v : Int32) : zz_X C tb_law 43 [some (.ref 1004), some (.ref 0), some (.ref 52), some (.int v)] [] (zro N xs, zsh, M, L, a, b) = zz_o (C 108 [.ref 0] (zro N xs, zsh, M, L, a, b)) fun r => zz_X C tb_law 44 [some (.ref 1004), some (.ref 0), some (.ref 52), some (.int v)] (r.1.toList ++ []) r.2 := (zz_X_eq sg_law _ _ _ _).trans rfl
theorem bl_44 (C : zz_C) (N : Nat) (xs : Nat → Int32) (M : Nat → Nat → Int32) (L : Nat → Nat → Int64) (a b : Nat) (v : Int32) (s0 : Int32) : zz_X C tb_law 44 [some (.ref 1004), some (.ref 0), some (.ref 52), some (.int v)] [.int s0] (zro N xs, zsh, M, L, a, b) = zz_o (C 203 [.ref 52] (zro N xs, zsh, M, L, a, b)) fun r => zz_X C tb_law 45 [some (.ref 1004), some (.ref 0), some (.ref 52), some (.int v)] (r.1.toList ++ [.int s0]) r.2 := (zz_X_eq sg_law _ _ _ _).trans rfl
theorem bl_45 (C : zz_C) (N : Nat) (xs : Nat → Int32) (M : Nat → Nat → Int32) (L : Nat → Nat → Int64) (a b : Nat) (v : Int32) (s0 : Int32) : zz_X C tb_law 45 [some (.ref 1004), some (.ref 0), some (.ref 52), some (.int v)] [.int s0, .int s0] (zro N xs, zsh, M, L, a, b) = zz_X C tb_law 142 [some (.ref 1004), some (.ref 0), some (.ref 52), some (.int v)] [] (zro N xs, zsh, M, L, a, b) := (zz_X_eq sg_law _ _ _ _).trans (if_pos rfl)
theorem lp_13 (hN : N ≤ 384) (hi : i + 6 ≤ N) (hI : Inv M L) : ∃ M2 L2, Inv M2 L2 ∧ zz_X (zz_call_ 100) tb_law 43 [some (.ref 1004), some (.ref 0), some (.ref 52), some (.int (iI i))] [] (zro N xs, zsh, M, L, a, b) = zz_X (zz_call_ 100) tb_law 142 [some (.ref 1004), some (.ref 0), some (.ref 52), some (.int (iI i))] [] (zro N xs, zsh, M2, L2, a, b) := by
  obtain ⟨v, M1, L1, M2, L2, h1, h2, hI2⟩ := o_day hI
  have e1 := h1 100 (by omega) N xs a b
  have e2 := h2 100 (by omega) N xs a b
  obtain ⟨x, hx⟩ := zz_kd mk_108 rfl hc_108 e1
  have hv : v = .int x := Option.some.inj hx
  subst hv
  refine ⟨M2, L2, hI2, ?_⟩
  rw [bl_43, e1, o_some]
  refine Eq.trans (bl_44 _ _ _ _ _ _ _ _ x) ?_
  rw [e2, o_some]
  exact bl_45 _ _ _ _ _ _ _ _ x
theorem bl_46 (C : zz_C) (N : Nat) (xs : Nat → Int32) (M : Nat → Nat → Int32) (L : Nat → Nat → Int64) (a b : Nat) (v : Int32) : zz_X C tb_law 46 [some (.ref 1004), some (.ref 0), some (.ref 52), some (.int v)] [] (zro N xs, zsh, M, L, a, b) = zz_o (zz_ix (v + 1) N) fun j1 => zz_o (zz_ix (v + 2) N) fun j2 => zz_o (C 109 [.ref 0, .int (xs j1), .int (xs j2)] (zro N xs, zsh, M, L, a, b)) fun r => zz_X C tb_law 47 [some (.ref 1004), some (.ref 0), some (.ref 52), some (.int v)] (r.1.toList ++ []) r.2 := (zz_X_eq sg_law _ _ _ _).trans rfl
theorem bl_47 (C : zz_C) (N : Nat) (xs : Nat → Int32) (M : Nat → Nat → Int32) (L : Nat → Nat → Int64) (a b : Nat) (v : Int32) (s0 : Int32) : zz_X C tb_law 47 [some (.ref 1004), some (.ref 0), some (.ref 52), some (.int v)] [.int s0] (zro N xs, zsh, M, L, a, b) = zz_o (zz_ix (v + 1) N) fun j1 => zz_o (zz_ix (v + 2) N) fun j2 => zz_o (C 205 [.ref 52, .int (xs j1), .int (xs j2)] (zro N xs, zsh, M, L, a, b)) fun r => zz_X C tb_law 48 [some (.ref 1004), some (.ref 0), some (.ref 52), some (.int v)] (r.1.toList ++ [.int s0]) r.2 := (zz_X_eq sg_law _ _ _ _).trans rfl
theorem bl_48 (C : zz_C) (N : Nat) (xs : Nat → Int32) (M : Nat → Nat → Int32) (L : Nat → Nat → Int64) (a b : Nat) (v : Int32) (s0 : Int32) : zz_X C tb_law 48 [some (.ref 1004), some (.ref 0), some (.ref 52), some (.int v)] [.int s0, .int s0] (zro N xs, zsh, M, L, a, b) = zz_X C tb_law 142 [some (.ref 1004), some (.ref 0), some (.ref 52), some (.int v)] [] (zro N xs, zsh, M, L, a, b) := (zz_X_eq sg_law _ _ _ _).trans (if_pos rfl)
theorem lp_14 (hN : N ≤ 384) (hi : i + 6 ≤ N) (hI : Inv M L) : ∃ M2 L2, Inv M2 L2 ∧ zz_X (zz_call_ 100) tb_law 46 [some (.ref 1004), some (.ref 0), some (.ref 52), some (.int (iI i))] [] (zro N xs, zsh, M, L, a, b) = zz_X (zz_call_ 100) tb_law 142 [some (.ref 1004), some (.ref 0), some (.ref 52), some (.int (iI i))] [] (zro N xs, zsh, M2, L2, a, b) := by
  obtain ⟨v, M1, L1, M2, L2, h1, h2, hI2⟩ := o_touch (xs (i + 1)) (xs (i + 2)) hI
  have e1 := h1 100 (by omega) N xs a b
  have e2 := h2 100 (by omega) N xs a b
  obtain ⟨x, hx⟩ := zz_kd mk_109 rfl hc_109 e1
  have hv : v = .int x := Option.some.inj hx
  subst hv
  have q1 : zz_ix (iI i + 1) N = some (i + 1) := ixp (k := 1) (by omega) hN
  have q2 : zz_ix (iI i + 2) N = some (i + 2) := ixp (k := 2) (by omega) hN
  refine ⟨M2, L2, hI2, ?_⟩
  rw [bl_46, q1, o_some, q2, o_some, e1, o_some]
  refine Eq.trans (bl_47 _ _ _ _ _ _ _ _ x) ?_
  rw [q1, o_some, q2, o_some, e2, o_some]
  exact bl_48 _ _ _ _ _ _ _ _ x
theorem bl_49 (C : zz_C) (N : Nat) (xs : Nat → Int32) (M : Nat → Nat → Int32) (L : Nat → Nat → Int64) (a b : Nat) (v : Int32) : zz_X C tb_law 49 [some (.ref 1004), some (.ref 0), some (.ref 52), some (.int v)] [] (zro N xs, zsh, M, L, a, b) = zz_o (zz_ix (v + 1) N) fun j1 => zz_o (C 110 [.ref 0, .int (xs j1)] (zro N xs, zsh, M, L, a, b)) fun r => zz_X C tb_law 50 [some (.ref 1004), some (.ref 0), some (.ref 52), some (.int v)] (r.1.toList ++ []) r.2 := (zz_X_eq sg_law _ _ _ _).trans rfl
theorem bl_50 (C : zz_C) (N : Nat) (xs : Nat → Int32) (M : Nat → Nat → Int32) (L : Nat → Nat → Int64) (a b : Nat) (v : Int32) (s0 : Int32) : zz_X C tb_law 50 [some (.ref 1004), some (.ref 0), some (.ref 52), some (.int v)] [.int s0] (zro N xs, zsh, M, L, a, b) = zz_o (zz_ix (v + 1) N) fun j1 => zz_o (C 206 [.ref 52, .int (xs j1)] (zro N xs, zsh, M, L, a, b)) fun r => zz_X C tb_law 51 [some (.ref 1004), some (.ref 0), some (.ref 52), some (.int v)] (r.1.toList ++ [.int s0]) r.2 := (zz_X_eq sg_law _ _ _ _).trans rfl
theorem bl_51 (C : zz_C) (N : Nat) (xs : Nat → Int32) (M : Nat → Nat → Int32) (L : Nat → Nat → Int64) (a b : Nat) (v : Int32) (s0 : Int32) : zz_X C tb_law 51 [some (.ref 1004), some (.ref 0), some (.ref 52), some (.int v)] [.int s0, .int s0] (zro N xs, zsh, M, L, a, b) = zz_X C tb_law 142 [some (.ref 1004), some (.ref 0), some (.ref 52), some (.int v)] [] (zro N xs, zsh, M, L, a, b) := (zz_X_eq sg_law _ _ _ _).trans (if_pos rfl)
theorem lp_15 (hN : N ≤ 384) (hi : i + 6 ≤ N) (hI : Inv M L) : ∃ M2 L2, Inv M2 L2 ∧ zz_X (zz_call_ 100) tb_law 49 [some (.ref 1004), some (.ref 0), some (.ref 52), some (.int (iI i))] [] (zro N xs, zsh, M, L, a, b) = zz_X (zz_call_ 100) tb_law 142 [some (.ref 1004), some (.ref 0), some (.ref 52), some (.int (iI i))] [] (zro N xs, zsh, M2, L2, a, b) := by
  obtain ⟨v, M1, L1, M2, L2, h1, h2, hI2⟩ := o_undo (xs (i + 1)) hI
  have e1 := h1 100 (by omega) N xs a b
  have e2 := h2 100 (by omega) N xs a b
  obtain ⟨x, hx⟩ := zz_kd mk_110 rfl hc_110 e1
  have hv : v = .int x := Option.some.inj hx
  subst hv
  have q1 : zz_ix (iI i + 1) N = some (i + 1) := ixp (k := 1) (by omega) hN
  refine ⟨M2, L2, hI2, ?_⟩
  rw [bl_49, q1, o_some, e1, o_some]
  refine Eq.trans (bl_50 _ _ _ _ _ _ _ _ x) ?_
  rw [q1, o_some, e2, o_some]
  exact bl_51 _ _ _ _ _ _ _ _ x
theorem bl_52 (C : zz_C) (N : Nat) (xs : Nat → Int32) (M : Nat → Nat → Int32) (L : Nat → Nat → Int64) (a b : Nat) (v : Int32) : zz_X C tb_law 52 [some (.ref 1004), some (.ref 0), some (.ref 52), some (.int v)] [] (zro N xs, zsh, M, L, a, b) = zz_o (zz_ix (v + 1) N) fun j1 => zz_o (C 111 [.ref 0, .int (xs j1)] (zro N xs, zsh, M, L, a, b)) fun r => zz_X C tb_law 53 [some (.ref 1004), some (.ref 0), some (.ref 52), some (.int v)] (r.1.toList ++ []) r.2 := (zz_X_eq sg_law _ _ _ _).trans rfl
theorem bl_53 (C : zz_C) (N : Nat) (xs : Nat → Int32) (M : Nat → Nat → Int32) (L : Nat → Nat → Int64) (a b : Nat) (v : Int32) (s0 : Int32) : zz_X C tb_law 53 [some (.ref 1004), some (.ref 0), some (.ref 52), some (.int v)] [.int s0] (zro N xs, zsh, M, L, a, b) = zz_o (zz_ix (v + 1) N) fun j1 => zz_o (C 207 [.ref 52, .int (xs j1)] (zro N xs, zsh, M, L, a, b)) fun r => zz_X C tb_law 54 [some (.ref 1004), some (.ref 0), some (.ref 52), some (.int v)] (r.1.toList ++ [.int s0]) r.2 := (zz_X_eq sg_law _ _ _ _).trans rfl
theorem bl_54 (C : zz_C) (N : Nat) (xs : Nat → Int32) (M : Nat → Nat → Int32) (L : Nat → Nat → Int64) (a b : Nat) (v : Int32) (s0 : Int32) : zz_X C tb_law 54 [some (.ref 1004), some (.ref 0), some (.ref 52), some (.int v)] [.int s0, .int s0] (zro N xs, zsh, M, L, a, b) = zz_X C tb_law 142 [some (.ref 1004), some (.ref 0), some (.ref 52), some (.int v)] [] (zro N xs, zsh, M, L, a, b) := (zz_X_eq sg_law _ _ _ _).trans (if_pos rfl)
theorem lp_16 (hN : N ≤ 384) (hi : i + 6 ≤ N) (hI : Inv M L) : ∃ M2 L2, Inv M2 L2 ∧ zz_X (zz_call_ 100) tb_law 52 [some (.ref 1004), some (.ref 0), some (.ref 52), some (.int (iI i))] [] (zro N xs, zsh, M, L, a, b) = zz_X (zz_call_ 100) tb_law 142 [some (.ref 1004), some (.ref 0), some (.ref 52), some (.int (iI i))] [] (zro N xs, zsh, M2, L2, a, b) := by
  obtain ⟨v, M1, L1, M2, L2, h1, h2, hI2⟩ := o_keep (xs (i + 1)) hI
  have e1 := h1 100 (by omega) N xs a b
  have e2 := h2 100 (by omega) N xs a b
  obtain ⟨x, hx⟩ := zz_kd mk_111 rfl hc_111 e1
  have hv : v = .int x := Option.some.inj hx
  subst hv
  have q1 : zz_ix (iI i + 1) N = some (i + 1) := ixp (k := 1) (by omega) hN
  refine ⟨M2, L2, hI2, ?_⟩
  rw [bl_52, q1, o_some, e1, o_some]
  refine Eq.trans (bl_53 _ _ _ _ _ _ _ _ x) ?_
  rw [q1, o_some, e2, o_some]
  exact bl_54 _ _ _ _ _ _ _ _ x
theorem bl_55 (C : zz_C) (N : Nat) (xs : Nat → Int32) (M : Nat → Nat → Int32) (L : Nat → Nat → Int64) (a b : Nat) (v : Int32) : zz_X C tb_law 55 [some (.ref 1004), some (.ref 0), some (.ref 52), some (.int v)] [] (zro N xs, zsh, M, L, a, b) = zz_o (zz_ix (v + 1) N) fun j1 => zz_o (C 112 [.ref 0, .int (xs j1)] (zro N xs, zsh, M, L, a, b)) fun r => zz_X C tb_law 56 [some (.ref 1004), some (.ref 0), some (.ref 52), some (.int v)] (r.1.toList ++ []) r.2 := (zz_X_eq sg_law _ _ _ _).trans rfl
theorem bl_56 (C : zz_C) (N : Nat) (xs : Nat → Int32) (M : Nat → Nat → Int32) (L : Nat → Nat → Int64) (a b : Nat) (v : Int32) (s0 : Int32) : zz_X C tb_law 56 [some (.ref 1004), some (.ref 0), some (.ref 52), some (.int v)] [.int s0] (zro N xs, zsh, M, L, a, b) = zz_o (zz_ix (v + 1) N) fun j1 => zz_o (C 208 [.ref 52, .int (xs j1)] (zro N xs, zsh, M, L, a, b)) fun r => zz_X C tb_law 57 [some (.ref 1004), some (.ref 0), some (.ref 52), some (.int v)] (r.1.toList ++ [.int s0]) r.2 := (zz_X_eq sg_law _ _ _ _).trans rfl
theorem bl_57 (C : zz_C) (N : Nat) (xs : Nat → Int32) (M : Nat → Nat → Int32) (L : Nat → Nat → Int64) (a b : Nat) (v : Int32) (s0 : Int32) : zz_X C tb_law 57 [some (.ref 1004), some (.ref 0), some (.ref 52), some (.int v)] [.int s0, .int s0] (zro N xs, zsh, M, L, a, b) = zz_X C tb_law 142 [some (.ref 1004), some (.ref 0), some (.ref 52), some (.int v)] [] (zro N xs, zsh, M, L, a, b) := (zz_X_eq sg_law _ _ _ _).trans (if_pos rfl)
theorem lp_17 (hN : N ≤ 384) (hi : i + 6 ≤ N) (hI : Inv M L) : ∃ M2 L2, Inv M2 L2 ∧ zz_X (zz_call_ 100) tb_law 55 [some (.ref 1004), some (.ref 0), some (.ref 52), some (.int (iI i))] [] (zro N xs, zsh, M, L, a, b) = zz_X (zz_call_ 100) tb_law 142 [some (.ref 1004), some (.ref 0), some (.ref 52), some (.int (iI i))] [] (zro N xs, zsh, M2, L2, a, b) := by
  obtain ⟨v, M1, L1, M2, L2, h1, h2, hI2⟩ := o_on (xs (i + 1)) hI
  have e1 := h1 100 (by omega) N xs a b
  have e2 := h2 100 (by omega) N xs a b
  obtain ⟨x, hx⟩ := zz_kd mk_112 rfl hc_112 e1
  have hv : v = .int x := Option.some.inj hx
  subst hv
  have q1 : zz_ix (iI i + 1) N = some (i + 1) := ixp (k := 1) (by omega) hN
  refine ⟨M2, L2, hI2, ?_⟩
  rw [bl_55, q1, o_some, e1, o_some]
  refine Eq.trans (bl_56 _ _ _ _ _ _ _ _ x) ?_
  rw [q1, o_some, e2, o_some]
  exact bl_57 _ _ _ _ _ _ _ _ x
theorem bl_58 (C : zz_C) (N : Nat) (xs : Nat → Int32) (M : Nat → Nat → Int32) (L : Nat → Nat → Int64) (a b : Nat) (v : Int32) : zz_X C tb_law 58 [some (.ref 1004), some (.ref 0), some (.ref 52), some (.int v)] [] (zro N xs, zsh, M, L, a, b) = zz_o (zz_ix (v + 1) N) fun j1 => zz_o (zz_ix (v + 2) N) fun j2 => zz_o (C 113 [.ref 0, .int (xs j1), .int (xs j2)] (zro N xs, zsh, M, L, a, b)) fun r => zz_X C tb_law 59 [some (.ref 1004), some (.ref 0), some (.ref 52), some (.int v)] (r.1.toList ++ []) r.2 := (zz_X_eq sg_law _ _ _ _).trans rfl
theorem bl_59 (C : zz_C) (N : Nat) (xs : Nat → Int32) (M : Nat → Nat → Int32) (L : Nat → Nat → Int64) (a b : Nat) (v : Int32) (s0 : Int32) : zz_X C tb_law 59 [some (.ref 1004), some (.ref 0), some (.ref 52), some (.int v)] [.int s0] (zro N xs, zsh, M, L, a, b) = zz_o (zz_ix (v + 1) N) fun j1 => zz_o (zz_ix (v + 2) N) fun j2 => zz_o (C 210 [.ref 52, .int (xs j1), .int (xs j2)] (zro N xs, zsh, M, L, a, b)) fun r => zz_X C tb_law 60 [some (.ref 1004), some (.ref 0), some (.ref 52), some (.int v)] (r.1.toList ++ [.int s0]) r.2 := (zz_X_eq sg_law _ _ _ _).trans rfl
theorem bl_60 (C : zz_C) (N : Nat) (xs : Nat → Int32) (M : Nat → Nat → Int32) (L : Nat → Nat → Int64) (a b : Nat) (v : Int32) (s0 : Int32) : zz_X C tb_law 60 [some (.ref 1004), some (.ref 0), some (.ref 52), some (.int v)] [.int s0, .int s0] (zro N xs, zsh, M, L, a, b) = zz_X C tb_law 142 [some (.ref 1004), some (.ref 0), some (.ref 52), some (.int v)] [] (zro N xs, zsh, M, L, a, b) := (zz_X_eq sg_law _ _ _ _).trans (if_pos rfl)
theorem lp_18 (hN : N ≤ 384) (hi : i + 6 ≤ N) (hI : Inv M L) : ∃ M2 L2, Inv M2 L2 ∧ zz_X (zz_call_ 100) tb_law 58 [some (.ref 1004), some (.ref 0), some (.ref 52), some (.int (iI i))] [] (zro N xs, zsh, M, L, a, b) = zz_X (zz_call_ 100) tb_law 142 [some (.ref 1004), some (.ref 0), some (.ref 52), some (.int (iI i))] [] (zro N xs, zsh, M2, L2, a, b) := by
  obtain ⟨v, M1, L1, M2, L2, h1, h2, hI2⟩ := o_minute (xs (i + 1)) (xs (i + 2)) hI
  have e1 := h1 100 (by omega) N xs a b
  have e2 := h2 100 (by omega) N xs a b
  obtain ⟨x, hx⟩ := zz_kd mk_113 rfl hc_113 e1
  have hv : v = .int x := Option.some.inj hx
  subst hv
  have q1 : zz_ix (iI i + 1) N = some (i + 1) := ixp (k := 1) (by omega) hN
  have q2 : zz_ix (iI i + 2) N = some (i + 2) := ixp (k := 2) (by omega) hN
  refine ⟨M2, L2, hI2, ?_⟩
  rw [bl_58, q1, o_some, q2, o_some, e1, o_some]
  refine Eq.trans (bl_59 _ _ _ _ _ _ _ _ x) ?_
  rw [q1, o_some, q2, o_some, e2, o_some]
  exact bl_60 _ _ _ _ _ _ _ _ x
theorem bl_61 (C : zz_C) (N : Nat) (xs : Nat → Int32) (M : Nat → Nat → Int32) (L : Nat → Nat → Int64) (a b : Nat) (v : Int32) : zz_X C tb_law 61 [some (.ref 1004), some (.ref 0), some (.ref 52), some (.int v)] [] (zro N xs, zsh, M, L, a, b) = zz_o (zz_ix (v + 1) N) fun j1 => zz_o (zz_ix (v + 2) N) fun j2 => zz_o (C 114 [.ref 0, .int (xs j1), .int (xs j2)] (zro N xs, zsh, M, L, a, b)) fun r => zz_X C tb_law 62 [some (.ref 1004), some (.ref 0), some (.ref 52), some (.int v)] (r.1.toList ++ []) r.2 := (zz_X_eq sg_law _ _ _ _).trans rfl
theorem bl_62 (C : zz_C) (N : Nat) (xs : Nat → Int32) (M : Nat → Nat → Int32) (L : Nat → Nat → Int64) (a b : Nat) (v : Int32) (s0 : Int32) : zz_X C tb_law 62 [some (.ref 1004), some (.ref 0), some (.ref 52), some (.int v)] [.int s0] (zro N xs, zsh, M, L, a, b) = zz_o (zz_ix (v + 1) N) fun j1 => zz_o (zz_ix (v + 2) N) fun j2 => zz_o (C 215 [.ref 52, .int (xs j1), .int (xs j2)] (zro N xs, zsh, M, L, a, b)) fun r => zz_X C tb_law 63 [some (.ref 1004), some (.ref 0), some (.ref 52), some (.int v)] (r.1.toList ++ [.int s0]) r.2 := (zz_X_eq sg_law _ _ _ _).trans rfl
theorem bl_63 (C : zz_C) (N : Nat) (xs : Nat → Int32) (M : Nat → Nat → Int32) (L : Nat → Nat → Int64) (a b : Nat) (v : Int32) (s0 : Int32) : zz_X C tb_law 63 [some (.ref 1004), some (.ref 0), some (.ref 52), some (.int v)] [.int s0, .int s0] (zro N xs, zsh, M, L, a, b) = zz_X C tb_law 142 [some (.ref 1004), some (.ref 0), some (.ref 52), some (.int v)] [] (zro N xs, zsh, M, L, a, b) := (zz_X_eq sg_law _ _ _ _).trans (if_pos rfl)
theorem lp_19 (hN : N ≤ 384) (hi : i + 6 ≤ N) (hI : Inv M L) : ∃ M2 L2, Inv M2 L2 ∧ zz_X (zz_call_ 100) tb_law 61 [some (.ref 1004), some (.ref 0), some (.ref 52), some (.int (iI i))] [] (zro N xs, zsh, M, L, a, b) = zz_X (zz_call_ 100) tb_law 142 [some (.ref 1004), some (.ref 0), some (.ref 52), some (.int (iI i))] [] (zro N xs, zsh, M2, L2, a, b) := by
  obtain ⟨v, M1, L1, M2, L2, h1, h2, hI2⟩ := o_meet (xs (i + 1)) (xs (i + 2)) hI
  have e1 := h1 100 (by omega) N xs a b
  have e2 := h2 100 (by omega) N xs a b
  obtain ⟨x, hx⟩ := zz_kd mk_114 rfl hc_114 e1
  have hv : v = .int x := Option.some.inj hx
  subst hv
  have q1 : zz_ix (iI i + 1) N = some (i + 1) := ixp (k := 1) (by omega) hN
  have q2 : zz_ix (iI i + 2) N = some (i + 2) := ixp (k := 2) (by omega) hN
  refine ⟨M2, L2, hI2, ?_⟩
  rw [bl_61, q1, o_some, q2, o_some, e1, o_some]
  refine Eq.trans (bl_62 _ _ _ _ _ _ _ _ x) ?_
  rw [q1, o_some, q2, o_some, e2, o_some]
  exact bl_63 _ _ _ _ _ _ _ _ x
theorem bl_64 (C : zz_C) (N : Nat) (xs : Nat → Int32) (M : Nat → Nat → Int32) (L : Nat → Nat → Int64) (a b : Nat) (v : Int32) : zz_X C tb_law 64 [some (.ref 1004), some (.ref 0), some (.ref 52), some (.int v)] [] (zro N xs, zsh, M, L, a, b) = zz_o (zz_ix (v + 1) N) fun j1 => zz_o (C 115 [.ref 0, .int (xs j1)] (zro N xs, zsh, M, L, a, b)) fun r => zz_X C tb_law 65 [some (.ref 1004), some (.ref 0), some (.ref 52), some (.int v)] (r.1.toList ++ []) r.2 := (zz_X_eq sg_law _ _ _ _).trans rfl
theorem bl_65 (C : zz_C) (N : Nat) (xs : Nat → Int32) (M : Nat → Nat → Int32) (L : Nat → Nat → Int64) (a b : Nat) (v : Int32) (s0 : Int32) : zz_X C tb_law 65 [some (.ref 1004), some (.ref 0), some (.ref 52), some (.int v)] [.int s0] (zro N xs, zsh, M, L, a, b) = zz_o (zz_ix (v + 1) N) fun j1 => zz_o (C 216 [.ref 52, .int (xs j1)] (zro N xs, zsh, M, L, a, b)) fun r => zz_X C tb_law 66 [some (.ref 1004), some (.ref 0), some (.ref 52), some (.int v)] (r.1.toList ++ [.int s0]) r.2 := (zz_X_eq sg_law _ _ _ _).trans rfl
theorem bl_66 (C : zz_C) (N : Nat) (xs : Nat → Int32) (M : Nat → Nat → Int32) (L : Nat → Nat → Int64) (a b : Nat) (v : Int32) (s0 : Int32) : zz_X C tb_law 66 [some (.ref 1004), some (.ref 0), some (.ref 52), some (.int v)] [.int s0, .int s0] (zro N xs, zsh, M, L, a, b) = zz_X C tb_law 142 [some (.ref 1004), some (.ref 0), some (.ref 52), some (.int v)] [] (zro N xs, zsh, M, L, a, b) := (zz_X_eq sg_law _ _ _ _).trans (if_pos rfl)
theorem lp_20 (hN : N ≤ 384) (hi : i + 6 ≤ N) (hI : Inv M L) : ∃ M2 L2, Inv M2 L2 ∧ zz_X (zz_call_ 100) tb_law 64 [some (.ref 1004), some (.ref 0), some (.ref 52), some (.int (iI i))] [] (zro N xs, zsh, M, L, a, b) = zz_X (zz_call_ 100) tb_law 142 [some (.ref 1004), some (.ref 0), some (.ref 52), some (.int (iI i))] [] (zro N xs, zsh, M2, L2, a, b) := by
  obtain ⟨v, M1, L1, M2, L2, h1, h2, hI2⟩ := o_meets (xs (i + 1)) hI
  have e1 := h1 100 (by omega) N xs a b
  have e2 := h2 100 (by omega) N xs a b
  obtain ⟨x, hx⟩ := zz_kd mk_115 rfl hc_115 e1
  have hv : v = .int x := Option.some.inj hx
  subst hv
  have q1 : zz_ix (iI i + 1) N = some (i + 1) := ixp (k := 1) (by omega) hN
  refine ⟨M2, L2, hI2, ?_⟩
  rw [bl_64, q1, o_some, e1, o_some]
  refine Eq.trans (bl_65 _ _ _ _ _ _ _ _ x) ?_
  rw [q1, o_some, e2, o_some]
  exact bl_66 _ _ _ _ _ _ _ _ x
theorem bl_67 (C : zz_C) (N : Nat) (xs : Nat → Int32) (M : Nat → Nat → Int32) (L : Nat → Nat → Int64) (a b : Nat) (v : Int32) : zz_X C tb_law 67 [some (.ref 1004), some (.ref 0), some (.ref 52), some (.int v)] [] (zro N xs, zsh, M, L, a, b) = zz_o (C 116 [.ref 0] (zro N xs, zsh, M, L, a, b)) fun r => zz_X C tb_law 68 [some (.ref 1004), some (.ref 0), some (.ref 52), some (.int v)] (r.1.toList ++ []) r.2 := (zz_X_eq sg_law _ _ _ _).trans rfl
theorem bl_68 (C : zz_C) (N : Nat) (xs : Nat → Int32) (M : Nat → Nat → Int32) (L : Nat → Nat → Int64) (a b : Nat) (v : Int32) (s0 : Int32) : zz_X C tb_law 68 [some (.ref 1004), some (.ref 0), some (.ref 52), some (.int v)] [.int s0] (zro N xs, zsh, M, L, a, b) = zz_o (C 217 [.ref 52] (zro N xs, zsh, M, L, a, b)) fun r => zz_X C tb_law 69 [some (.ref 1004), some (.ref 0), some (.ref 52), some (.int v)] (r.1.toList ++ [.int s0]) r.2 := (zz_X_eq sg_law _ _ _ _).trans rfl
theorem bl_69 (C : zz_C) (N : Nat) (xs : Nat → Int32) (M : Nat → Nat → Int32) (L : Nat → Nat → Int64) (a b : Nat) (v : Int32) (s0 : Int32) : zz_X C tb_law 69 [some (.ref 1004), some (.ref 0), some (.ref 52), some (.int v)] [.int s0, .int s0] (zro N xs, zsh, M, L, a, b) = zz_X C tb_law 142 [some (.ref 1004), some (.ref 0), some (.ref 52), some (.int v)] [] (zro N xs, zsh, M, L, a, b) := (zz_X_eq sg_law _ _ _ _).trans (if_pos rfl)
theorem lp_21 (hN : N ≤ 384) (hi : i + 6 ≤ N) (hI : Inv M L) : ∃ M2 L2, Inv M2 L2 ∧ zz_X (zz_call_ 100) tb_law 67 [some (.ref 1004), some (.ref 0), some (.ref 52), some (.int (iI i))] [] (zro N xs, zsh, M, L, a, b) = zz_X (zz_call_ 100) tb_law 142 [some (.ref 1004), some (.ref 0), some (.ref 52), some (.int (iI i))] [] (zro N xs, zsh, M2, L2, a, b) := by
  obtain ⟨v, M1, L1, M2, L2, h1, h2, hI2⟩ := o_soon hI
  have e1 := h1 100 (by omega) N xs a b
  have e2 := h2 100 (by omega) N xs a b
  obtain ⟨x, hx⟩ := zz_kd mk_116 rfl hc_116 e1
  have hv : v = .int x := Option.some.inj hx
  subst hv
  refine ⟨M2, L2, hI2, ?_⟩
  rw [bl_67, e1, o_some]
  refine Eq.trans (bl_68 _ _ _ _ _ _ _ _ x) ?_
  rw [e2, o_some]
  exact bl_69 _ _ _ _ _ _ _ _ x
theorem bl_70 (C : zz_C) (N : Nat) (xs : Nat → Int32) (M : Nat → Nat → Int32) (L : Nat → Nat → Int64) (a b : Nat) (v : Int32) : zz_X C tb_law 70 [some (.ref 1004), some (.ref 0), some (.ref 52), some (.int v)] [] (zro N xs, zsh, M, L, a, b) = zz_o (zz_ix (v + 1) N) fun j1 => zz_o (zz_ix (v + 2) N) fun j2 => zz_o (zz_ix (v + 3) N) fun j3 => zz_o (C 117 [.ref 0, .int (xs j1), .int (xs j2), .int (xs j3)] (zro N xs, zsh, M, L, a, b)) fun r => zz_X C tb_law 71 [some (.ref 1004), some (.ref 0), some (.ref 52), some (.int v)] (r.1.toList ++ []) r.2 := (zz_X_eq sg_law _ _ _ _).trans rfl
theorem bl_71 (C : zz_C) (N : Nat) (xs : Nat → Int32) (M : Nat → Nat → Int32) (L : Nat → Nat → Int64) (a b : Nat) (v : Int32) (s0 : Int32) : zz_X C tb_law 71 [some (.ref 1004), some (.ref 0), some (.ref 52), some (.int v)] [.int s0] (zro N xs, zsh, M, L, a, b) = zz_o (zz_ix (v + 1) N) fun j1 => zz_o (zz_ix (v + 2) N) fun j2 => zz_o (zz_ix (v + 3) N) fun j3 => zz_o (C 218 [.ref 52, .int (xs j1), .int (xs j2), .int (xs j3)] (zro N xs, zsh, M, L, a, b)) fun r => zz_X C tb_law 72 [some (.ref 1004), some (.ref 0), some (.ref 52), some (.int v)] (r.1.toList ++ [.int s0]) r.2 := (zz_X_eq sg_law _ _ _ _).trans rfl
theorem bl_72 (C : zz_C) (N : Nat) (xs : Nat → Int32) (M : Nat → Nat → Int32) (L : Nat → Nat → Int64) (a b : Nat) (v : Int32) (s0 : Int32) : zz_X C tb_law 72 [some (.ref 1004), some (.ref 0), some (.ref 52), some (.int v)] [.int s0, .int s0] (zro N xs, zsh, M, L, a, b) = zz_X C tb_law 142 [some (.ref 1004), some (.ref 0), some (.ref 52), some (.int v)] [] (zro N xs, zsh, M, L, a, b) := (zz_X_eq sg_law _ _ _ _).trans (if_pos rfl)
theorem lp_22 (hN : N ≤ 384) (hi : i + 6 ≤ N) (hI : Inv M L) : ∃ M2 L2, Inv M2 L2 ∧ zz_X (zz_call_ 100) tb_law 70 [some (.ref 1004), some (.ref 0), some (.ref 52), some (.int (iI i))] [] (zro N xs, zsh, M, L, a, b) = zz_X (zz_call_ 100) tb_law 142 [some (.ref 1004), some (.ref 0), some (.ref 52), some (.int (iI i))] [] (zro N xs, zsh, M2, L2, a, b) := by
  obtain ⟨v, M1, L1, M2, L2, h1, h2, hI2⟩ := o_often (xs (i + 1)) (xs (i + 2)) (xs (i + 3)) hI
  have e1 := h1 100 (by omega) N xs a b
  have e2 := h2 100 (by omega) N xs a b
  obtain ⟨x, hx⟩ := zz_kd mk_117 rfl hc_117 e1
  have hv : v = .int x := Option.some.inj hx
  subst hv
  have q1 : zz_ix (iI i + 1) N = some (i + 1) := ixp (k := 1) (by omega) hN
  have q2 : zz_ix (iI i + 2) N = some (i + 2) := ixp (k := 2) (by omega) hN
  have q3 : zz_ix (iI i + 3) N = some (i + 3) := ixp (k := 3) (by omega) hN
  refine ⟨M2, L2, hI2, ?_⟩
  rw [bl_70, q1, o_some, q2, o_some, q3, o_some, e1, o_some]
  refine Eq.trans (bl_71 _ _ _ _ _ _ _ _ x) ?_
  rw [q1, o_some, q2, o_some, q3, o_some, e2, o_some]
  exact bl_72 _ _ _ _ _ _ _ _ x
theorem bl_73 (C : zz_C) (N : Nat) (xs : Nat → Int32) (M : Nat → Nat → Int32) (L : Nat → Nat → Int64) (a b : Nat) (v : Int32) : zz_X C tb_law 73 [some (.ref 1004), some (.ref 0), some (.ref 52), some (.int v)] [] (zro N xs, zsh, M, L, a, b) = zz_o (zz_ix (v + 1) N) fun j1 => zz_o (C 118 [.ref 0, .int (xs j1)] (zro N xs, zsh, M, L, a, b)) fun r => zz_X C tb_law 74 [some (.ref 1004), some (.ref 0), some (.ref 52), some (.int v)] (r.1.toList ++ []) r.2 := (zz_X_eq sg_law _ _ _ _).trans rfl
theorem bl_74 (C : zz_C) (N : Nat) (xs : Nat → Int32) (M : Nat → Nat → Int32) (L : Nat → Nat → Int64) (a b : Nat) (v : Int32) (s0 : Int32) : zz_X C tb_law 74 [some (.ref 1004), some (.ref 0), some (.ref 52), some (.int v)] [.int s0] (zro N xs, zsh, M, L, a, b) = zz_o (zz_ix (v + 1) N) fun j1 => zz_o (C 220 [.ref 52, .int (xs j1)] (zro N xs, zsh, M, L, a, b)) fun r => zz_X C tb_law 75 [some (.ref 1004), some (.ref 0), some (.ref 52), some (.int v)] (r.1.toList ++ [.int s0]) r.2 := (zz_X_eq sg_law _ _ _ _).trans rfl
theorem bl_75 (C : zz_C) (N : Nat) (xs : Nat → Int32) (M : Nat → Nat → Int32) (L : Nat → Nat → Int64) (a b : Nat) (v : Int32) (s0 : Int32) : zz_X C tb_law 75 [some (.ref 1004), some (.ref 0), some (.ref 52), some (.int v)] [.int s0, .int s0] (zro N xs, zsh, M, L, a, b) = zz_X C tb_law 142 [some (.ref 1004), some (.ref 0), some (.ref 52), some (.int v)] [] (zro N xs, zsh, M, L, a, b) := (zz_X_eq sg_law _ _ _ _).trans (if_pos rfl)
theorem lp_23 (hN : N ≤ 384) (hi : i + 6 ≤ N) (hI : Inv M L) : ∃ M2 L2, Inv M2 L2 ∧ zz_X (zz_call_ 100) tb_law 73 [some (.ref 1004), some (.ref 0), some (.ref 52), some (.int (iI i))] [] (zro N xs, zsh, M, L, a, b) = zz_X (zz_call_ 100) tb_law 142 [some (.ref 1004), some (.ref 0), some (.ref 52), some (.int (iI i))] [] (zro N xs, zsh, M2, L2, a, b) := by
  obtain ⟨v, M1, L1, M2, L2, h1, h2, hI2⟩ := o_sounds (xs (i + 1)) hI
  have e1 := h1 100 (by omega) N xs a b
  have e2 := h2 100 (by omega) N xs a b
  obtain ⟨x, hx⟩ := zz_kd mk_118 rfl hc_118 e1
  have hv : v = .int x := Option.some.inj hx
  subst hv
  have q1 : zz_ix (iI i + 1) N = some (i + 1) := ixp (k := 1) (by omega) hN
  refine ⟨M2, L2, hI2, ?_⟩
  rw [bl_73, q1, o_some, e1, o_some]
  refine Eq.trans (bl_74 _ _ _ _ _ _ _ _ x) ?_
  rw [q1, o_some, e2, o_some]
  exact bl_75 _ _ _ _ _ _ _ _ x
theorem bl_76 (C : zz_C) (N : Nat) (xs : Nat → Int32) (M : Nat → Nat → Int32) (L : Nat → Nat → Int64) (a b : Nat) (v : Int32) : zz_X C tb_law 76 [some (.ref 1004), some (.ref 0), some (.ref 52), some (.int v)] [] (zro N xs, zsh, M, L, a, b) = zz_o (zz_ix (v + 1) N) fun j1 => zz_o (zz_ix (v + 2) N) fun j2 => zz_o (C 119 [.ref 0, .int (xs j1), .int (xs j2)] (zro N xs, zsh, M, L, a, b)) fun r => zz_X C tb_law 77 [some (.ref 1004), some (.ref 0), some (.ref 52), some (.int v)] (r.1.toList ++ []) r.2 := (zz_X_eq sg_law _ _ _ _).trans rfl
theorem bl_77 (C : zz_C) (N : Nat) (xs : Nat → Int32) (M : Nat → Nat → Int32) (L : Nat → Nat → Int64) (a b : Nat) (v : Int32) (s0 : Int32) : zz_X C tb_law 77 [some (.ref 1004), some (.ref 0), some (.ref 52), some (.int v)] [.int s0] (zro N xs, zsh, M, L, a, b) = zz_o (zz_ix (v + 1) N) fun j1 => zz_o (zz_ix (v + 2) N) fun j2 => zz_o (C 221 [.ref 52, .int (xs j1), .int (xs j2)] (zro N xs, zsh, M, L, a, b)) fun r => zz_X C tb_law 78 [some (.ref 1004), some (.ref 0), some (.ref 52), some (.int v)] (r.1.toList ++ [.int s0]) r.2 := (zz_X_eq sg_law _ _ _ _).trans rfl
theorem bl_78 (C : zz_C) (N : Nat) (xs : Nat → Int32) (M : Nat → Nat → Int32) (L : Nat → Nat → Int64) (a b : Nat) (v : Int32) (s0 : Int32) : zz_X C tb_law 78 [some (.ref 1004), some (.ref 0), some (.ref 52), some (.int v)] [.int s0, .int s0] (zro N xs, zsh, M, L, a, b) = zz_X C tb_law 142 [some (.ref 1004), some (.ref 0), some (.ref 52), some (.int v)] [] (zro N xs, zsh, M, L, a, b) := (zz_X_eq sg_law _ _ _ _).trans (if_pos rfl)
theorem lp_24 (hN : N ≤ 384) (hi : i + 6 ≤ N) (hI : Inv M L) : ∃ M2 L2, Inv M2 L2 ∧ zz_X (zz_call_ 100) tb_law 76 [some (.ref 1004), some (.ref 0), some (.ref 52), some (.int (iI i))] [] (zro N xs, zsh, M, L, a, b) = zz_X (zz_call_ 100) tb_law 142 [some (.ref 1004), some (.ref 0), some (.ref 52), some (.int (iI i))] [] (zro N xs, zsh, M2, L2, a, b) := by
  obtain ⟨v, M1, L1, M2, L2, h1, h2, hI2⟩ := o_room (xs (i + 1)) (xs (i + 2)) hI
  have e1 := h1 100 (by omega) N xs a b
  have e2 := h2 100 (by omega) N xs a b
  obtain ⟨x, hx⟩ := zz_kd mk_119 rfl hc_119 e1
  have hv : v = .int x := Option.some.inj hx
  subst hv
  have q1 : zz_ix (iI i + 1) N = some (i + 1) := ixp (k := 1) (by omega) hN
  have q2 : zz_ix (iI i + 2) N = some (i + 2) := ixp (k := 2) (by omega) hN
  refine ⟨M2, L2, hI2, ?_⟩
  rw [bl_76, q1, o_some, q2, o_some, e1, o_some]
  refine Eq.trans (bl_77 _ _ _ _ _ _ _ _ x) ?_
  rw [q1, o_some, q2, o_some, e2, o_some]
  exact bl_78 _ _ _ _ _ _ _ _ x
theorem bl_79 (C : zz_C) (N : Nat) (xs : Nat → Int32) (M : Nat → Nat → Int32) (L : Nat → Nat → Int64) (a b : Nat) (v : Int32) : zz_X C tb_law 79 [some (.ref 1004), some (.ref 0), some (.ref 52), some (.int v)] [] (zro N xs, zsh, M, L, a, b) = zz_o (zz_ix (v + 1) N) fun j1 => zz_o (zz_ix (v + 2) N) fun j2 => zz_o (zz_ix (v + 3) N) fun j3 => zz_o (C 120 [.ref 0, .int (xs j1), .int (xs j2), .int (xs j3)] (zro N xs, zsh, M, L, a, b)) fun r => zz_X C tb_law 80 [some (.ref 1004), some (.ref 0), some (.ref 52), some (.int v)] (r.1.toList ++ []) r.2 := (zz_X_eq sg_law _ _ _ _).trans rfl
theorem bl_80 (C : zz_C) (N : Nat) (xs : Nat → Int32) (M : Nat → Nat → Int32) (L : Nat → Nat → Int64) (a b : Nat) (v : Int32) (s0 : Int32) : zz_X C tb_law 80 [some (.ref 1004), some (.ref 0), some (.ref 52), some (.int v)] [.int s0] (zro N xs, zsh, M, L, a, b) = zz_o (zz_ix (v + 1) N) fun j1 => zz_o (zz_ix (v + 2) N) fun j2 => zz_o (zz_ix (v + 3) N) fun j3 => zz_o (C 222 [.ref 52, .int (xs j1), .int (xs j2), .int (xs j3)] (zro N xs, zsh, M, L, a, b)) fun r => zz_X C tb_law 81 [some (.ref 1004), some (.ref 0), some (.ref 52), some (.int v)] (r.1.toList ++ [.int s0]) r.2 := (zz_X_eq sg_law _ _ _ _).trans rfl
theorem bl_81 (C : zz_C) (N : Nat) (xs : Nat → Int32) (M : Nat → Nat → Int32) (L : Nat → Nat → Int64) (a b : Nat) (v : Int32) (s0 : Int32) : zz_X C tb_law 81 [some (.ref 1004), some (.ref 0), some (.ref 52), some (.int v)] [.int s0, .int s0] (zro N xs, zsh, M, L, a, b) = zz_X C tb_law 142 [some (.ref 1004), some (.ref 0), some (.ref 52), some (.int v)] [] (zro N xs, zsh, M, L, a, b) := (zz_X_eq sg_law _ _ _ _).trans (if_pos rfl)
theorem lp_25 (hN : N ≤ 384) (hi : i + 6 ≤ N) (hI : Inv M L) : ∃ M2 L2, Inv M2 L2 ∧ zz_X (zz_call_ 100) tb_law 79 [some (.ref 1004), some (.ref 0), some (.ref 52), some (.int (iI i))] [] (zro N xs, zsh, M, L, a, b) = zz_X (zz_call_ 100) tb_law 142 [some (.ref 1004), some (.ref 0), some (.ref 52), some (.int (iI i))] [] (zro N xs, zsh, M2, L2, a, b) := by
  obtain ⟨v, M1, L1, M2, L2, h1, h2, hI2⟩ := o_right (xs (i + 1)) (xs (i + 2)) (xs (i + 3)) hI
  have e1 := h1 100 (by omega) N xs a b
  have e2 := h2 100 (by omega) N xs a b
  obtain ⟨x, hx⟩ := zz_kd mk_120 rfl hc_120 e1
  have hv : v = .int x := Option.some.inj hx
  subst hv
  have q1 : zz_ix (iI i + 1) N = some (i + 1) := ixp (k := 1) (by omega) hN
  have q2 : zz_ix (iI i + 2) N = some (i + 2) := ixp (k := 2) (by omega) hN
  have q3 : zz_ix (iI i + 3) N = some (i + 3) := ixp (k := 3) (by omega) hN
  refine ⟨M2, L2, hI2, ?_⟩
  rw [bl_79, q1, o_some, q2, o_some, q3, o_some, e1, o_some]
  refine Eq.trans (bl_80 _ _ _ _ _ _ _ _ x) ?_
  rw [q1, o_some, q2, o_some, q3, o_some, e2, o_some]
  exact bl_81 _ _ _ _ _ _ _ _ x
theorem bl_82 (C : zz_C) (N : Nat) (xs : Nat → Int32) (M : Nat → Nat → Int32) (L : Nat → Nat → Int64) (a b : Nat) (v : Int32) : zz_X C tb_law 82 [some (.ref 1004), some (.ref 0), some (.ref 52), some (.int v)] [] (zro N xs, zsh, M, L, a, b) = zz_o (zz_ix (v + 1) N) fun j1 => zz_o (zz_ix (v + 2) N) fun j2 => zz_o (C 121 [.ref 0, .int (xs j1), .int (xs j2)] (zro N xs, zsh, M, L, a, b)) fun r => zz_X C tb_law 83 [some (.ref 1004), some (.ref 0), some (.ref 52), some (.int v)] (r.1.toList ++ []) r.2 := (zz_X_eq sg_law _ _ _ _).trans rfl
theorem bl_83 (C : zz_C) (N : Nat) (xs : Nat → Int32) (M : Nat → Nat → Int32) (L : Nat → Nat → Int64) (a b : Nat) (v : Int32) (s0 : Int32) : zz_X C tb_law 83 [some (.ref 1004), some (.ref 0), some (.ref 52), some (.int v)] [.int s0] (zro N xs, zsh, M, L, a, b) = zz_o (zz_ix (v + 1) N) fun j1 => zz_o (zz_ix (v + 2) N) fun j2 => zz_o (C 227 [.ref 52, .int (xs j1), .int (xs j2)] (zro N xs, zsh, M, L, a, b)) fun r => zz_X C tb_law 84 [some (.ref 1004), some (.ref 0), some (.ref 52), some (.int v)] (r.1.toList ++ [.int s0]) r.2 := (zz_X_eq sg_law _ _ _ _).trans rfl
theorem bl_84 (C : zz_C) (N : Nat) (xs : Nat → Int32) (M : Nat → Nat → Int32) (L : Nat → Nat → Int64) (a b : Nat) (v : Int32) (s0 : Int32) : zz_X C tb_law 84 [some (.ref 1004), some (.ref 0), some (.ref 52), some (.int v)] [.int s0, .int s0] (zro N xs, zsh, M, L, a, b) = zz_X C tb_law 142 [some (.ref 1004), some (.ref 0), some (.ref 52), some (.int v)] [] (zro N xs, zsh, M, L, a, b) := (zz_X_eq sg_law _ _ _ _).trans (if_pos rfl)
theorem lp_26 (hN : N ≤ 384) (hi : i + 6 ≤ N) (hI : Inv M L) : ∃ M2 L2, Inv M2 L2 ∧ zz_X (zz_call_ 100) tb_law 82 [some (.ref 1004), some (.ref 0), some (.ref 52), some (.int (iI i))] [] (zro N xs, zsh, M, L, a, b) = zz_X (zz_call_ 100) tb_law 142 [some (.ref 1004), some (.ref 0), some (.ref 52), some (.int (iI i))] [] (zro N xs, zsh, M2, L2, a, b) := by
  obtain ⟨v, M1, L1, M2, L2, h1, h2, hI2⟩ := o_apart (xs (i + 1)) (xs (i + 2)) hI
  have e1 := h1 100 (by omega) N xs a b
  have e2 := h2 100 (by omega) N xs a b
  obtain ⟨x, hx⟩ := zz_kd mk_121 rfl hc_121 e1
  have hv : v = .int x := Option.some.inj hx
  subst hv
  have q1 : zz_ix (iI i + 1) N = some (i + 1) := ixp (k := 1) (by omega) hN
  have q2 : zz_ix (iI i + 2) N = some (i + 2) := ixp (k := 2) (by omega) hN
  refine ⟨M2, L2, hI2, ?_⟩
  rw [bl_82, q1, o_some, q2, o_some, e1, o_some]
  refine Eq.trans (bl_83 _ _ _ _ _ _ _ _ x) ?_
  rw [q1, o_some, q2, o_some, e2, o_some]
  exact bl_84 _ _ _ _ _ _ _ _ x
theorem bl_85 (C : zz_C) (N : Nat) (xs : Nat → Int32) (M : Nat → Nat → Int32) (L : Nat → Nat → Int64) (a b : Nat) (v : Int32) : zz_X C tb_law 85 [some (.ref 1004), some (.ref 0), some (.ref 52), some (.int v)] [] (zro N xs, zsh, M, L, a, b) = zz_o (zz_ix (v + 1) N) fun j1 => zz_o (C 122 [.ref 0, .int (xs j1)] (zro N xs, zsh, M, L, a, b)) fun r => zz_X C tb_law 86 [some (.ref 1004), some (.ref 0), some (.ref 52), some (.int v)] (r.1.toList ++ []) r.2 := (zz_X_eq sg_law _ _ _ _).trans rfl
theorem bl_86 (C : zz_C) (N : Nat) (xs : Nat → Int32) (M : Nat → Nat → Int32) (L : Nat → Nat → Int64) (a b : Nat) (v : Int32) (s0 : Int32) : zz_X C tb_law 86 [some (.ref 1004), some (.ref 0), some (.ref 52), some (.int v)] [.int s0] (zro N xs, zsh, M, L, a, b) = zz_o (zz_ix (v + 1) N) fun j1 => zz_o (C 229 [.ref 52, .int (xs j1)] (zro N xs, zsh, M, L, a, b)) fun r => zz_X C tb_law 87 [some (.ref 1004), some (.ref 0), some (.ref 52), some (.int v)] (r.1.toList ++ [.int s0]) r.2 := (zz_X_eq sg_law _ _ _ _).trans rfl
theorem bl_87 (C : zz_C) (N : Nat) (xs : Nat → Int32) (M : Nat → Nat → Int32) (L : Nat → Nat → Int64) (a b : Nat) (v : Int32) (s0 : Int32) : zz_X C tb_law 87 [some (.ref 1004), some (.ref 0), some (.ref 52), some (.int v)] [.int s0, .int s0] (zro N xs, zsh, M, L, a, b) = zz_X C tb_law 142 [some (.ref 1004), some (.ref 0), some (.ref 52), some (.int v)] [] (zro N xs, zsh, M, L, a, b) := (zz_X_eq sg_law _ _ _ _).trans (if_pos rfl)
theorem lp_27 (hN : N ≤ 384) (hi : i + 6 ≤ N) (hI : Inv M L) : ∃ M2 L2, Inv M2 L2 ∧ zz_X (zz_call_ 100) tb_law 85 [some (.ref 1004), some (.ref 0), some (.ref 52), some (.int (iI i))] [] (zro N xs, zsh, M, L, a, b) = zz_X (zz_call_ 100) tb_law 142 [some (.ref 1004), some (.ref 0), some (.ref 52), some (.int (iI i))] [] (zro N xs, zsh, M2, L2, a, b) := by
  obtain ⟨v, M1, L1, M2, L2, h1, h2, hI2⟩ := o_stairs (xs (i + 1)) hI
  have e1 := h1 100 (by omega) N xs a b
  have e2 := h2 100 (by omega) N xs a b
  obtain ⟨x, hx⟩ := zz_kd mk_122 rfl hc_122 e1
  have hv : v = .int x := Option.some.inj hx
  subst hv
  have q1 : zz_ix (iI i + 1) N = some (i + 1) := ixp (k := 1) (by omega) hN
  refine ⟨M2, L2, hI2, ?_⟩
  rw [bl_85, q1, o_some, e1, o_some]
  refine Eq.trans (bl_86 _ _ _ _ _ _ _ _ x) ?_
  rw [q1, o_some, e2, o_some]
  exact bl_87 _ _ _ _ _ _ _ _ x
theorem bl_88 (C : zz_C) (N : Nat) (xs : Nat → Int32) (M : Nat → Nat → Int32) (L : Nat → Nat → Int64) (a b : Nat) (v : Int32) : zz_X C tb_law 88 [some (.ref 1004), some (.ref 0), some (.ref 52), some (.int v)] [] (zro N xs, zsh, M, L, a, b) = zz_o (zz_ix (v + 1) N) fun j1 => zz_o (C 123 [.ref 0, .int (xs j1)] (zro N xs, zsh, M, L, a, b)) fun r => zz_X C tb_law 89 [some (.ref 1004), some (.ref 0), some (.ref 52), some (.int v)] (r.1.toList ++ []) r.2 := (zz_X_eq sg_law _ _ _ _).trans rfl
theorem bl_89 (C : zz_C) (N : Nat) (xs : Nat → Int32) (M : Nat → Nat → Int32) (L : Nat → Nat → Int64) (a b : Nat) (v : Int32) (s0 : Int32) : zz_X C tb_law 89 [some (.ref 1004), some (.ref 0), some (.ref 52), some (.int v)] [.int s0] (zro N xs, zsh, M, L, a, b) = zz_o (zz_ix (v + 1) N) fun j1 => zz_o (C 230 [.ref 52, .int (xs j1)] (zro N xs, zsh, M, L, a, b)) fun r => zz_X C tb_law 90 [some (.ref 1004), some (.ref 0), some (.ref 52), some (.int v)] (r.1.toList ++ [.int s0]) r.2 := (zz_X_eq sg_law _ _ _ _).trans rfl
theorem bl_90 (C : zz_C) (N : Nat) (xs : Nat → Int32) (M : Nat → Nat → Int32) (L : Nat → Nat → Int64) (a b : Nat) (v : Int32) (s0 : Int32) : zz_X C tb_law 90 [some (.ref 1004), some (.ref 0), some (.ref 52), some (.int v)] [.int s0, .int s0] (zro N xs, zsh, M, L, a, b) = zz_X C tb_law 142 [some (.ref 1004), some (.ref 0), some (.ref 52), some (.int v)] [] (zro N xs, zsh, M, L, a, b) := (zz_X_eq sg_law _ _ _ _).trans (if_pos rfl)
theorem lp_28 (hN : N ≤ 384) (hi : i + 6 ≤ N) (hI : Inv M L) : ∃ M2 L2, Inv M2 L2 ∧ zz_X (zz_call_ 100) tb_law 88 [some (.ref 1004), some (.ref 0), some (.ref 52), some (.int (iI i))] [] (zro N xs, zsh, M, L, a, b) = zz_X (zz_call_ 100) tb_law 142 [some (.ref 1004), some (.ref 0), some (.ref 52), some (.int (iI i))] [] (zro N xs, zsh, M2, L2, a, b) := by
  obtain ⟨v, M1, L1, M2, L2, h1, h2, hI2⟩ := o_doomed (xs (i + 1)) hI
  have e1 := h1 100 (by omega) N xs a b
  have e2 := h2 100 (by omega) N xs a b
  obtain ⟨x, hx⟩ := zz_kd mk_123 rfl hc_123 e1
  have hv : v = .int x := Option.some.inj hx
  subst hv
  have q1 : zz_ix (iI i + 1) N = some (i + 1) := ixp (k := 1) (by omega) hN
  refine ⟨M2, L2, hI2, ?_⟩
  rw [bl_88, q1, o_some, e1, o_some]
  refine Eq.trans (bl_89 _ _ _ _ _ _ _ _ x) ?_
  rw [q1, o_some, e2, o_some]
  exact bl_90 _ _ _ _ _ _ _ _ x
theorem bl_91 (C : zz_C) (N : Nat) (xs : Nat → Int32) (M : Nat → Nat → Int32) (L : Nat → Nat → Int64) (a b : Nat) (v : Int32) : zz_X C tb_law 91 [some (.ref 1004), some (.ref 0), some (.ref 52), some (.int v)] [] (zro N xs, zsh, M, L, a, b) = zz_o (zz_ix (v + 1) N) fun j1 => zz_o (C 124 [.ref 0, .int (xs j1)] (zro N xs, zsh, M, L, a, b)) fun r => zz_X C tb_law 92 [some (.ref 1004), some (.ref 0), some (.ref 52), some (.int v)] (r.1.toList ++ []) r.2 := (zz_X_eq sg_law _ _ _ _).trans rfl
theorem bl_92 (C : zz_C) (N : Nat) (xs : Nat → Int32) (M : Nat → Nat → Int32) (L : Nat → Nat → Int64) (a b : Nat) (v : Int32) (s0 : Int32) : zz_X C tb_law 92 [some (.ref 1004), some (.ref 0), some (.ref 52), some (.int v)] [.int s0] (zro N xs, zsh, M, L, a, b) = zz_o (zz_ix (v + 1) N) fun j1 => zz_o (C 231 [.ref 52, .int (xs j1)] (zro N xs, zsh, M, L, a, b)) fun r => zz_X C tb_law 93 [some (.ref 1004), some (.ref 0), some (.ref 52), some (.int v)] (r.1.toList ++ [.int s0]) r.2 := (zz_X_eq sg_law _ _ _ _).trans rfl
theorem bl_93 (C : zz_C) (N : Nat) (xs : Nat → Int32) (M : Nat → Nat → Int32) (L : Nat → Nat → Int64) (a b : Nat) (v : Int32) (s0 : Int32) : zz_X C tb_law 93 [some (.ref 1004), some (.ref 0), some (.ref 52), some (.int v)] [.int s0, .int s0] (zro N xs, zsh, M, L, a, b) = zz_X C tb_law 142 [some (.ref 1004), some (.ref 0), some (.ref 52), some (.int v)] [] (zro N xs, zsh, M, L, a, b) := (zz_X_eq sg_law _ _ _ _).trans (if_pos rfl)
theorem lp_29 (hN : N ≤ 384) (hi : i + 6 ≤ N) (hI : Inv M L) : ∃ M2 L2, Inv M2 L2 ∧ zz_X (zz_call_ 100) tb_law 91 [some (.ref 1004), some (.ref 0), some (.ref 52), some (.int (iI i))] [] (zro N xs, zsh, M, L, a, b) = zz_X (zz_call_ 100) tb_law 142 [some (.ref 1004), some (.ref 0), some (.ref 52), some (.int (iI i))] [] (zro N xs, zsh, M2, L2, a, b) := by
  obtain ⟨v, M1, L1, M2, L2, h1, h2, hI2⟩ := o_out (xs (i + 1)) hI
  have e1 := h1 100 (by omega) N xs a b
  have e2 := h2 100 (by omega) N xs a b
  obtain ⟨x, hx⟩ := zz_kd mk_124 rfl hc_124 e1
  have hv : v = .int x := Option.some.inj hx
  subst hv
  have q1 : zz_ix (iI i + 1) N = some (i + 1) := ixp (k := 1) (by omega) hN
  refine ⟨M2, L2, hI2, ?_⟩
  rw [bl_91, q1, o_some, e1, o_some]
  refine Eq.trans (bl_92 _ _ _ _ _ _ _ _ x) ?_
  rw [q1, o_some, e2, o_some]
  exact bl_93 _ _ _ _ _ _ _ _ x
theorem bl_94 (C : zz_C) (N : Nat) (xs : Nat → Int32) (M : Nat → Nat → Int32) (L : Nat → Nat → Int64) (a b : Nat) (v : Int32) : zz_X C tb_law 94 [some (.ref 1004), some (.ref 0), some (.ref 52), some (.int v)] [] (zro N xs, zsh, M, L, a, b) = zz_o (zz_ix (v + 1) N) fun j1 => zz_o (C 125 [.ref 0, .int (xs j1)] (zro N xs, zsh, M, L, a, b)) fun r => zz_X C tb_law 95 [some (.ref 1004), some (.ref 0), some (.ref 52), some (.int v)] (r.1.toList ++ []) r.2 := (zz_X_eq sg_law _ _ _ _).trans rfl
theorem bl_95 (C : zz_C) (N : Nat) (xs : Nat → Int32) (M : Nat → Nat → Int32) (L : Nat → Nat → Int64) (a b : Nat) (v : Int32) (s0 : Int32) : zz_X C tb_law 95 [some (.ref 1004), some (.ref 0), some (.ref 52), some (.int v)] [.int s0] (zro N xs, zsh, M, L, a, b) = zz_o (zz_ix (v + 1) N) fun j1 => zz_o (C 232 [.ref 52, .int (xs j1)] (zro N xs, zsh, M, L, a, b)) fun r => zz_X C tb_law 96 [some (.ref 1004), some (.ref 0), some (.ref 52), some (.int v)] (r.1.toList ++ [.int s0]) r.2 := (zz_X_eq sg_law _ _ _ _).trans rfl
theorem bl_96 (C : zz_C) (N : Nat) (xs : Nat → Int32) (M : Nat → Nat → Int32) (L : Nat → Nat → Int64) (a b : Nat) (v : Int32) (s0 : Int32) : zz_X C tb_law 96 [some (.ref 1004), some (.ref 0), some (.ref 52), some (.int v)] [.int s0, .int s0] (zro N xs, zsh, M, L, a, b) = zz_X C tb_law 142 [some (.ref 1004), some (.ref 0), some (.ref 52), some (.int v)] [] (zro N xs, zsh, M, L, a, b) := (zz_X_eq sg_law _ _ _ _).trans (if_pos rfl)
theorem lp_30 (hN : N ≤ 384) (hi : i + 6 ≤ N) (hI : Inv M L) : ∃ M2 L2, Inv M2 L2 ∧ zz_X (zz_call_ 100) tb_law 94 [some (.ref 1004), some (.ref 0), some (.ref 52), some (.int (iI i))] [] (zro N xs, zsh, M, L, a, b) = zz_X (zz_call_ 100) tb_law 142 [some (.ref 1004), some (.ref 0), some (.ref 52), some (.int (iI i))] [] (zro N xs, zsh, M2, L2, a, b) := by
  obtain ⟨v, M1, L1, M2, L2, h1, h2, hI2⟩ := o_late (xs (i + 1)) hI
  have e1 := h1 100 (by omega) N xs a b
  have e2 := h2 100 (by omega) N xs a b
  obtain ⟨x, hx⟩ := zz_kd mk_125 rfl hc_125 e1
  have hv : v = .int x := Option.some.inj hx
  subst hv
  have q1 : zz_ix (iI i + 1) N = some (i + 1) := ixp (k := 1) (by omega) hN
  refine ⟨M2, L2, hI2, ?_⟩
  rw [bl_94, q1, o_some, e1, o_some]
  refine Eq.trans (bl_95 _ _ _ _ _ _ _ _ x) ?_
  rw [q1, o_some, e2, o_some]
  exact bl_96 _ _ _ _ _ _ _ _ x
theorem bl_97 (C : zz_C) (N : Nat) (xs : Nat → Int32) (M : Nat → Nat → Int32) (L : Nat → Nat → Int64) (a b : Nat) (v : Int32) : zz_X C tb_law 97 [some (.ref 1004), some (.ref 0), some (.ref 52), some (.int v)] [] (zro N xs, zsh, M, L, a, b) = zz_o (zz_ix (v + 1) N) fun j1 => zz_o (zz_ix (v + 2) N) fun j2 => zz_o (C 126 [.ref 0, .int (xs j1), .int (xs j2)] (zro N xs, zsh, M, L, a, b)) fun r => zz_X C tb_law 98 [some (.ref 1004), some (.ref 0), some (.ref 52), some (.int v)] (r.1.toList ++ []) r.2 := (zz_X_eq sg_law _ _ _ _).trans rfl
theorem bl_98 (C : zz_C) (N : Nat) (xs : Nat → Int32) (M : Nat → Nat → Int32) (L : Nat → Nat → Int64) (a b : Nat) (v : Int32) (s0 : Int32) : zz_X C tb_law 98 [some (.ref 1004), some (.ref 0), some (.ref 52), some (.int v)] [.int s0] (zro N xs, zsh, M, L, a, b) = zz_o (zz_ix (v + 1) N) fun j1 => zz_o (zz_ix (v + 2) N) fun j2 => zz_o (C 235 [.ref 52, .int (xs j1), .int (xs j2)] (zro N xs, zsh, M, L, a, b)) fun r => zz_X C tb_law 99 [some (.ref 1004), some (.ref 0), some (.ref 52), some (.int v)] (r.1.toList ++ [.int s0]) r.2 := (zz_X_eq sg_law _ _ _ _).trans rfl
theorem bl_99 (C : zz_C) (N : Nat) (xs : Nat → Int32) (M : Nat → Nat → Int32) (L : Nat → Nat → Int64) (a b : Nat) (v : Int32) (s0 : Int32) : zz_X C tb_law 99 [some (.ref 1004), some (.ref 0), some (.ref 52), some (.int v)] [.int s0, .int s0] (zro N xs, zsh, M, L, a, b) = zz_X C tb_law 142 [some (.ref 1004), some (.ref 0), some (.ref 52), some (.int v)] [] (zro N xs, zsh, M, L, a, b) := (zz_X_eq sg_law _ _ _ _).trans (if_pos rfl)
theorem lp_31 (hN : N ≤ 384) (hi : i + 6 ≤ N) (hI : Inv M L) : ∃ M2 L2, Inv M2 L2 ∧ zz_X (zz_call_ 100) tb_law 97 [some (.ref 1004), some (.ref 0), some (.ref 52), some (.int (iI i))] [] (zro N xs, zsh, M, L, a, b) = zz_X (zz_call_ 100) tb_law 142 [some (.ref 1004), some (.ref 0), some (.ref 52), some (.int (iI i))] [] (zro N xs, zsh, M2, L2, a, b) := by
  obtain ⟨v, M1, L1, M2, L2, h1, h2, hI2⟩ := o_rates (xs (i + 1)) (xs (i + 2)) hI
  have e1 := h1 100 (by omega) N xs a b
  have e2 := h2 100 (by omega) N xs a b
  obtain ⟨x, hx⟩ := zz_kd mk_126 rfl hc_126 e1
  have hv : v = .int x := Option.some.inj hx
  subst hv
  have q1 : zz_ix (iI i + 1) N = some (i + 1) := ixp (k := 1) (by omega) hN
  have q2 : zz_ix (iI i + 2) N = some (i + 2) := ixp (k := 2) (by omega) hN
  refine ⟨M2, L2, hI2, ?_⟩
  rw [bl_97, q1, o_some, q2, o_some, e1, o_some]
  refine Eq.trans (bl_98 _ _ _ _ _ _ _ _ x) ?_
  rw [q1, o_some, q2, o_some, e2, o_some]
  exact bl_99 _ _ _ _ _ _ _ _ x
theorem bl_100 (C : zz_C) (N : Nat) (xs : Nat → Int32) (M : Nat → Nat → Int32) (L : Nat → Nat → Int64) (a b : Nat) (v : Int32) : zz_X C tb_law 100 [some (.ref 1004), some (.ref 0), some (.ref 52), some (.int v)] [] (zro N xs, zsh, M, L, a, b) = zz_o (zz_ix (v + 1) N) fun j1 => zz_o (zz_ix (v + 2) N) fun j2 => zz_o (C 127 [.ref 0, .int (xs j1), .int (xs j2)] (zro N xs, zsh, M, L, a, b)) fun r => zz_X C tb_law 101 [some (.ref 1004), some (.ref 0), some (.ref 52), some (.int v)] (r.1.toList ++ []) r.2 := (zz_X_eq sg_law _ _ _ _).trans rfl
theorem bl_101 (C : zz_C) (N : Nat) (xs : Nat → Int32) (M : Nat → Nat → Int32) (L : Nat → Nat → Int64) (a b : Nat) (v : Int32) (s0 : Int32) : zz_X C tb_law 101 [some (.ref 1004), some (.ref 0), some (.ref 52), some (.int v)] [.int s0] (zro N xs, zsh, M, L, a, b) = zz_o (zz_ix (v + 1) N) fun j1 => zz_o (zz_ix (v + 2) N) fun j2 => zz_o (C 236 [.ref 52, .int (xs j1), .int (xs j2)] (zro N xs, zsh, M, L, a, b)) fun r => zz_X C tb_law 102 [some (.ref 1004), some (.ref 0), some (.ref 52), some (.int v)] (r.1.toList ++ [.int s0]) r.2 := (zz_X_eq sg_law _ _ _ _).trans rfl
theorem bl_102 (C : zz_C) (N : Nat) (xs : Nat → Int32) (M : Nat → Nat → Int32) (L : Nat → Nat → Int64) (a b : Nat) (v : Int32) (s0 : Int32) : zz_X C tb_law 102 [some (.ref 1004), some (.ref 0), some (.ref 52), some (.int v)] [.int s0, .int s0] (zro N xs, zsh, M, L, a, b) = zz_X C tb_law 142 [some (.ref 1004), some (.ref 0), some (.ref 52), some (.int v)] [] (zro N xs, zsh, M, L, a, b) := (zz_X_eq sg_law _ _ _ _).trans (if_pos rfl)
theorem lp_32 (hN : N ≤ 384) (hi : i + 6 ≤ N) (hI : Inv M L) : ∃ M2 L2, Inv M2 L2 ∧ zz_X (zz_call_ 100) tb_law 100 [some (.ref 1004), some (.ref 0), some (.ref 52), some (.int (iI i))] [] (zro N xs, zsh, M, L, a, b) = zz_X (zz_call_ 100) tb_law 142 [some (.ref 1004), some (.ref 0), some (.ref 52), some (.int (iI i))] [] (zro N xs, zsh, M2, L2, a, b) := by
  obtain ⟨v, M1, L1, M2, L2, h1, h2, hI2⟩ := o_kinds (xs (i + 1)) (xs (i + 2)) hI
  have e1 := h1 100 (by omega) N xs a b
  have e2 := h2 100 (by omega) N xs a b
  obtain ⟨x, hx⟩ := zz_kd mk_127 rfl hc_127 e1
  have hv : v = .int x := Option.some.inj hx
  subst hv
  have q1 : zz_ix (iI i + 1) N = some (i + 1) := ixp (k := 1) (by omega) hN
  have q2 : zz_ix (iI i + 2) N = some (i + 2) := ixp (k := 2) (by omega) hN
  refine ⟨M2, L2, hI2, ?_⟩
  rw [bl_100, q1, o_some, q2, o_some, e1, o_some]
  refine Eq.trans (bl_101 _ _ _ _ _ _ _ _ x) ?_
  rw [q1, o_some, q2, o_some, e2, o_some]
  exact bl_102 _ _ _ _ _ _ _ _ x
theorem bl_103 (C : zz_C) (N : Nat) (xs : Nat → Int32) (M : Nat → Nat → Int32) (L : Nat → Nat → Int64) (a b : Nat) (v : Int32) : zz_X C tb_law 103 [some (.ref 1004), some (.ref 0), some (.ref 52), some (.int v)] [] (zro N xs, zsh, M, L, a, b) = zz_o (zz_ix (v + 1) N) fun j1 => zz_o (zz_ix (v + 2) N) fun j2 => zz_o (C 128 [.ref 0, .int (xs j1), .int (xs j2)] (zro N xs, zsh, M, L, a, b)) fun r => zz_X C tb_law 104 [some (.ref 1004), some (.ref 0), some (.ref 52), some (.int v)] (r.1.toList ++ []) r.2 := (zz_X_eq sg_law _ _ _ _).trans rfl
theorem bl_104 (C : zz_C) (N : Nat) (xs : Nat → Int32) (M : Nat → Nat → Int32) (L : Nat → Nat → Int64) (a b : Nat) (v : Int32) (s0 : Int32) : zz_X C tb_law 104 [some (.ref 1004), some (.ref 0), some (.ref 52), some (.int v)] [.int s0] (zro N xs, zsh, M, L, a, b) = zz_o (zz_ix (v + 1) N) fun j1 => zz_o (zz_ix (v + 2) N) fun j2 => zz_o (C 237 [.ref 52, .int (xs j1), .int (xs j2)] (zro N xs, zsh, M, L, a, b)) fun r => zz_X C tb_law 105 [some (.ref 1004), some (.ref 0), some (.ref 52), some (.int v)] (r.1.toList ++ [.int s0]) r.2 := (zz_X_eq sg_law _ _ _ _).trans rfl
theorem bl_105 (C : zz_C) (N : Nat) (xs : Nat → Int32) (M : Nat → Nat → Int32) (L : Nat → Nat → Int64) (a b : Nat) (v : Int32) (s0 : Int32) : zz_X C tb_law 105 [some (.ref 1004), some (.ref 0), some (.ref 52), some (.int v)] [.int s0, .int s0] (zro N xs, zsh, M, L, a, b) = zz_X C tb_law 142 [some (.ref 1004), some (.ref 0), some (.ref 52), some (.int v)] [] (zro N xs, zsh, M, L, a, b) := (zz_X_eq sg_law _ _ _ _).trans (if_pos rfl)
theorem lp_33 (hN : N ≤ 384) (hi : i + 6 ≤ N) (hI : Inv M L) : ∃ M2 L2, Inv M2 L2 ∧ zz_X (zz_call_ 100) tb_law 103 [some (.ref 1004), some (.ref 0), some (.ref 52), some (.int (iI i))] [] (zro N xs, zsh, M, L, a, b) = zz_X (zz_call_ 100) tb_law 142 [some (.ref 1004), some (.ref 0), some (.ref 52), some (.int (iI i))] [] (zro N xs, zsh, M2, L2, a, b) := by
  obtain ⟨v, M1, L1, M2, L2, h1, h2, hI2⟩ := o_from (xs (i + 1)) (xs (i + 2)) hI
  have e1 := h1 100 (by omega) N xs a b
  have e2 := h2 100 (by omega) N xs a b
  obtain ⟨x, hx⟩ := zz_kd mk_128 rfl hc_128 e1
  have hv : v = .int x := Option.some.inj hx
  subst hv
  have q1 : zz_ix (iI i + 1) N = some (i + 1) := ixp (k := 1) (by omega) hN
  have q2 : zz_ix (iI i + 2) N = some (i + 2) := ixp (k := 2) (by omega) hN
  refine ⟨M2, L2, hI2, ?_⟩
  rw [bl_103, q1, o_some, q2, o_some, e1, o_some]
  refine Eq.trans (bl_104 _ _ _ _ _ _ _ _ x) ?_
  rw [q1, o_some, q2, o_some, e2, o_some]
  exact bl_105 _ _ _ _ _ _ _ _ x
theorem bl_106 (C : zz_C) (N : Nat) (xs : Nat → Int32) (M : Nat → Nat → Int32) (L : Nat → Nat → Int64) (a b : Nat) (v : Int32) : zz_X C tb_law 106 [some (.ref 1004), some (.ref 0), some (.ref 52), some (.int v)] [] (zro N xs, zsh, M, L, a, b) = zz_o (zz_ix (v + 1) N) fun j1 => zz_o (C 129 [.ref 0, .int (xs j1)] (zro N xs, zsh, M, L, a, b)) fun r => zz_X C tb_law 107 [some (.ref 1004), some (.ref 0), some (.ref 52), some (.int v)] (r.1.toList ++ []) r.2 := (zz_X_eq sg_law _ _ _ _).trans rfl
theorem bl_107 (C : zz_C) (N : Nat) (xs : Nat → Int32) (M : Nat → Nat → Int32) (L : Nat → Nat → Int64) (a b : Nat) (v : Int32) (s0 : Int32) : zz_X C tb_law 107 [some (.ref 1004), some (.ref 0), some (.ref 52), some (.int v)] [.int s0] (zro N xs, zsh, M, L, a, b) = zz_o (zz_ix (v + 1) N) fun j1 => zz_o (C 243 [.ref 52, .int (xs j1)] (zro N xs, zsh, M, L, a, b)) fun r => zz_X C tb_law 108 [some (.ref 1004), some (.ref 0), some (.ref 52), some (.int v)] (r.1.toList ++ [.int s0]) r.2 := (zz_X_eq sg_law _ _ _ _).trans rfl
theorem bl_108 (C : zz_C) (N : Nat) (xs : Nat → Int32) (M : Nat → Nat → Int32) (L : Nat → Nat → Int64) (a b : Nat) (v : Int32) (s0 : Int32) : zz_X C tb_law 108 [some (.ref 1004), some (.ref 0), some (.ref 52), some (.int v)] [.int s0, .int s0] (zro N xs, zsh, M, L, a, b) = zz_X C tb_law 142 [some (.ref 1004), some (.ref 0), some (.ref 52), some (.int v)] [] (zro N xs, zsh, M, L, a, b) := (zz_X_eq sg_law _ _ _ _).trans (if_pos rfl)
theorem lp_34 (hN : N ≤ 384) (hi : i + 6 ≤ N) (hI : Inv M L) : ∃ M2 L2, Inv M2 L2 ∧ zz_X (zz_call_ 100) tb_law 106 [some (.ref 1004), some (.ref 0), some (.ref 52), some (.int (iI i))] [] (zro N xs, zsh, M, L, a, b) = zz_X (zz_call_ 100) tb_law 142 [some (.ref 1004), some (.ref 0), some (.ref 52), some (.int (iI i))] [] (zro N xs, zsh, M2, L2, a, b) := by
  obtain ⟨v, M1, L1, M2, L2, h1, h2, hI2⟩ := o_cat (xs (i + 1)) hI
  have e1 := h1 100 (by omega) N xs a b
  have e2 := h2 100 (by omega) N xs a b
  obtain ⟨x, hx⟩ := zz_kd mk_129 rfl hc_129 e1
  have hv : v = .int x := Option.some.inj hx
  subst hv
  have q1 : zz_ix (iI i + 1) N = some (i + 1) := ixp (k := 1) (by omega) hN
  refine ⟨M2, L2, hI2, ?_⟩
  rw [bl_106, q1, o_some, e1, o_some]
  refine Eq.trans (bl_107 _ _ _ _ _ _ _ _ x) ?_
  rw [q1, o_some, e2, o_some]
  exact bl_108 _ _ _ _ _ _ _ _ x
theorem bl_109 (C : zz_C) (N : Nat) (xs : Nat → Int32) (M : Nat → Nat → Int32) (L : Nat → Nat → Int64) (a b : Nat) (v : Int32) : zz_X C tb_law 109 [some (.ref 1004), some (.ref 0), some (.ref 52), some (.int v)] [] (zro N xs, zsh, M, L, a, b) = zz_o (zz_ix (v + 1) N) fun j1 => zz_o (C 130 [.ref 0, .int (xs j1)] (zro N xs, zsh, M, L, a, b)) fun r => zz_X C tb_law 110 [some (.ref 1004), some (.ref 0), some (.ref 52), some (.int v)] (r.1.toList ++ []) r.2 := (zz_X_eq sg_law _ _ _ _).trans rfl
theorem bl_110 (C : zz_C) (N : Nat) (xs : Nat → Int32) (M : Nat → Nat → Int32) (L : Nat → Nat → Int64) (a b : Nat) (v : Int32) (s0 : Int32) : zz_X C tb_law 110 [some (.ref 1004), some (.ref 0), some (.ref 52), some (.int v)] [.int s0] (zro N xs, zsh, M, L, a, b) = zz_o (zz_ix (v + 1) N) fun j1 => zz_o (C 244 [.ref 52, .int (xs j1)] (zro N xs, zsh, M, L, a, b)) fun r => zz_X C tb_law 111 [some (.ref 1004), some (.ref 0), some (.ref 52), some (.int v)] (r.1.toList ++ [.int s0]) r.2 := (zz_X_eq sg_law _ _ _ _).trans rfl
theorem bl_111 (C : zz_C) (N : Nat) (xs : Nat → Int32) (M : Nat → Nat → Int32) (L : Nat → Nat → Int64) (a b : Nat) (v : Int32) (s0 : Int32) : zz_X C tb_law 111 [some (.ref 1004), some (.ref 0), some (.ref 52), some (.int v)] [.int s0, .int s0] (zro N xs, zsh, M, L, a, b) = zz_X C tb_law 142 [some (.ref 1004), some (.ref 0), some (.ref 52), some (.int v)] [] (zro N xs, zsh, M, L, a, b) := (zz_X_eq sg_law _ _ _ _).trans (if_pos rfl)
theorem lp_35 (hN : N ≤ 384) (hi : i + 6 ≤ N) (hI : Inv M L) : ∃ M2 L2, Inv M2 L2 ∧ zz_X (zz_call_ 100) tb_law 109 [some (.ref 1004), some (.ref 0), some (.ref 52), some (.int (iI i))] [] (zro N xs, zsh, M, L, a, b) = zz_X (zz_call_ 100) tb_law 142 [some (.ref 1004), some (.ref 0), some (.ref 52), some (.int (iI i))] [] (zro N xs, zsh, M2, L2, a, b) := by
  obtain ⟨v, M1, L1, M2, L2, h1, h2, hI2⟩ := o_first (xs (i + 1)) hI
  have e1 := h1 100 (by omega) N xs a b
  have e2 := h2 100 (by omega) N xs a b
  obtain ⟨x, hx⟩ := zz_kd mk_130 rfl hc_130 e1
  have hv : v = .int x := Option.some.inj hx
  subst hv
  have q1 : zz_ix (iI i + 1) N = some (i + 1) := ixp (k := 1) (by omega) hN
  refine ⟨M2, L2, hI2, ?_⟩
  rw [bl_109, q1, o_some, e1, o_some]
  refine Eq.trans (bl_110 _ _ _ _ _ _ _ _ x) ?_
  rw [q1, o_some, e2, o_some]
  exact bl_111 _ _ _ _ _ _ _ _ x
theorem bl_112 (C : zz_C) (N : Nat) (xs : Nat → Int32) (M : Nat → Nat → Int32) (L : Nat → Nat → Int64) (a b : Nat) (v : Int32) : zz_X C tb_law 112 [some (.ref 1004), some (.ref 0), some (.ref 52), some (.int v)] [] (zro N xs, zsh, M, L, a, b) = zz_o (zz_ix (v + 1) N) fun j1 => zz_o (zz_ix (v + 2) N) fun j2 => zz_o (zz_ix (v + 3) N) fun j3 => zz_o (zz_ix (v + 4) N) fun j4 => zz_o (C 131 [.ref 0, .int (xs j1), .int (xs j2), .int (xs j3), .int (xs j4)] (zro N xs, zsh, M, L, a, b)) fun r => zz_X C tb_law 113 [some (.ref 1004), some (.ref 0), some (.ref 52), some (.int v)] (r.1.toList ++ []) r.2 := (zz_X_eq sg_law _ _ _ _).trans rfl
theorem bl_113 (C : zz_C) (N : Nat) (xs : Nat → Int32) (M : Nat → Nat → Int32) (L : Nat → Nat → Int64) (a b : Nat) (v : Int32) (s0 : Int32) : zz_X C tb_law 113 [some (.ref 1004), some (.ref 0), some (.ref 52), some (.int v)] [.int s0] (zro N xs, zsh, M, L, a, b) = zz_o (zz_ix (v + 1) N) fun j1 => zz_o (zz_ix (v + 2) N) fun j2 => zz_o (zz_ix (v + 3) N) fun j3 => zz_o (zz_ix (v + 4) N) fun j4 => zz_o (C 247 [.ref 52, .int (xs j1), .int (xs j2), .int (xs j3), .int (xs j4)] (zro N xs, zsh, M, L, a, b)) fun r => zz_X C tb_law 114 [some (.ref 1004), some (.ref 0), some (.ref 52), some (.int v)] (r.1.toList ++ [.int s0]) r.2 := (zz_X_eq sg_law _ _ _ _).trans rfl
theorem bl_114 (C : zz_C) (N : Nat) (xs : Nat → Int32) (M : Nat → Nat → Int32) (L : Nat → Nat → Int64) (a b : Nat) (v : Int32) (s0 : Int32) : zz_X C tb_law 114 [some (.ref 1004), some (.ref 0), some (.ref 52), some (.int v)] [.int s0, .int s0] (zro N xs, zsh, M, L, a, b) = zz_X C tb_law 142 [some (.ref 1004), some (.ref 0), some (.ref 52), some (.int v)] [] (zro N xs, zsh, M, L, a, b) := (zz_X_eq sg_law _ _ _ _).trans (if_pos rfl)
theorem lp_36 (hN : N ≤ 384) (hi : i + 6 ≤ N) (hI : Inv M L) : ∃ M2 L2, Inv M2 L2 ∧ zz_X (zz_call_ 100) tb_law 112 [some (.ref 1004), some (.ref 0), some (.ref 52), some (.int (iI i))] [] (zro N xs, zsh, M, L, a, b) = zz_X (zz_call_ 100) tb_law 142 [some (.ref 1004), some (.ref 0), some (.ref 52), some (.int (iI i))] [] (zro N xs, zsh, M2, L2, a, b) := by
  obtain ⟨v, M1, L1, M2, L2, h1, h2, hI2⟩ := o_odds (xs (i + 1)) (xs (i + 2)) (xs (i + 3)) (xs (i + 4)) hI
  have e1 := h1 100 (by omega) N xs a b
  have e2 := h2 100 (by omega) N xs a b
  obtain ⟨x, hx⟩ := zz_kd mk_131 rfl hc_131 e1
  have hv : v = .int x := Option.some.inj hx
  subst hv
  have q1 : zz_ix (iI i + 1) N = some (i + 1) := ixp (k := 1) (by omega) hN
  have q2 : zz_ix (iI i + 2) N = some (i + 2) := ixp (k := 2) (by omega) hN
  have q3 : zz_ix (iI i + 3) N = some (i + 3) := ixp (k := 3) (by omega) hN
  have q4 : zz_ix (iI i + 4) N = some (i + 4) := ixp (k := 4) (by omega) hN
  refine ⟨M2, L2, hI2, ?_⟩
  rw [bl_112, q1, o_some, q2, o_some, q3, o_some, q4, o_some, e1, o_some]
  refine Eq.trans (bl_113 _ _ _ _ _ _ _ _ x) ?_
  rw [q1, o_some, q2, o_some, q3, o_some, q4, o_some, e2, o_some]
  exact bl_114 _ _ _ _ _ _ _ _ x
theorem bl_115 (C : zz_C) (N : Nat) (xs : Nat → Int32) (M : Nat → Nat → Int32) (L : Nat → Nat → Int64) (a b : Nat) (v : Int32) : zz_X C tb_law 115 [some (.ref 1004), some (.ref 0), some (.ref 52), some (.int v)] [] (zro N xs, zsh, M, L, a, b) = zz_o (zz_ix (v + 1) N) fun j1 => zz_o (zz_ix (v + 2) N) fun j2 => zz_o (zz_ix (v + 3) N) fun j3 => zz_o (C 132 [.ref 0, .int (xs j1), .int (xs j2), .int (xs j3)] (zro N xs, zsh, M, L, a, b)) fun r => zz_X C tb_law 116 [some (.ref 1004), some (.ref 0), some (.ref 52), some (.int v)] (r.1.toList ++ []) r.2 := (zz_X_eq sg_law _ _ _ _).trans rfl
theorem bl_116 (C : zz_C) (N : Nat) (xs : Nat → Int32) (M : Nat → Nat → Int32) (L : Nat → Nat → Int64) (a b : Nat) (v : Int32) (s0 : Int32) : zz_X C tb_law 116 [some (.ref 1004), some (.ref 0), some (.ref 52), some (.int v)] [.int s0] (zro N xs, zsh, M, L, a, b) = zz_o (zz_ix (v + 1) N) fun j1 => zz_o (zz_ix (v + 2) N) fun j2 => zz_o (zz_ix (v + 3) N) fun j3 => zz_o (C 248 [.ref 52, .int (xs j1), .int (xs j2), .int (xs j3)] (zro N xs, zsh, M, L, a, b)) fun r => zz_X C tb_law 117 [some (.ref 1004), some (.ref 0), some (.ref 52), some (.int v)] (r.1.toList ++ [.int s0]) r.2 := (zz_X_eq sg_law _ _ _ _).trans rfl
theorem bl_117 (C : zz_C) (N : Nat) (xs : Nat → Int32) (M : Nat → Nat → Int32) (L : Nat → Nat → Int64) (a b : Nat) (v : Int32) (s0 : Int32) : zz_X C tb_law 117 [some (.ref 1004), some (.ref 0), some (.ref 52), some (.int v)] [.int s0, .int s0] (zro N xs, zsh, M, L, a, b) = zz_X C tb_law 142 [some (.ref 1004), some (.ref 0), some (.ref 52), some (.int v)] [] (zro N xs, zsh, M, L, a, b) := (zz_X_eq sg_law _ _ _ _).trans (if_pos rfl)
theorem lp_37 (hN : N ≤ 384) (hi : i + 6 ≤ N) (hI : Inv M L) : ∃ M2 L2, Inv M2 L2 ∧ zz_X (zz_call_ 100) tb_law 115 [some (.ref 1004), some (.ref 0), some (.ref 52), some (.int (iI i))] [] (zro N xs, zsh, M, L, a, b) = zz_X (zz_call_ 100) tb_law 142 [some (.ref 1004), some (.ref 0), some (.ref 52), some (.int (iI i))] [] (zro N xs, zsh, M2, L2, a, b) := by
  obtain ⟨v, M1, L1, M2, L2, h1, h2, hI2⟩ := o_mid (xs (i + 1)) (xs (i + 2)) (xs (i + 3)) hI
  have e1 := h1 100 (by omega) N xs a b
  have e2 := h2 100 (by omega) N xs a b
  obtain ⟨x, hx⟩ := zz_kd mk_132 rfl hc_132 e1
  have hv : v = .int x := Option.some.inj hx
  subst hv
  have q1 : zz_ix (iI i + 1) N = some (i + 1) := ixp (k := 1) (by omega) hN
  have q2 : zz_ix (iI i + 2) N = some (i + 2) := ixp (k := 2) (by omega) hN
  have q3 : zz_ix (iI i + 3) N = some (i + 3) := ixp (k := 3) (by omega) hN
  refine ⟨M2, L2, hI2, ?_⟩
  rw [bl_115, q1, o_some, q2, o_some, q3, o_some, e1, o_some]
  refine Eq.trans (bl_116 _ _ _ _ _ _ _ _ x) ?_
  rw [q1, o_some, q2, o_some, q3, o_some, e2, o_some]
  exact bl_117 _ _ _ _ _ _ _ _ x
theorem bl_118 (C : zz_C) (N : Nat) (xs : Nat → Int32) (M : Nat → Nat → Int32) (L : Nat → Nat → Int64) (a b : Nat) (v : Int32) : zz_X C tb_law 118 [some (.ref 1004), some (.ref 0), some (.ref 52), some (.int v)] [] (zro N xs, zsh, M, L, a, b) = zz_o (zz_ix (v + 1) N) fun j1 => zz_o (zz_ix (v + 2) N) fun j2 => zz_o (C 133 [.ref 0, .int (xs j1), .int (xs j2)] (zro N xs, zsh, M, L, a, b)) fun r => zz_X C tb_law 119 [some (.ref 1004), some (.ref 0), some (.ref 52), some (.int v)] (r.1.toList ++ []) r.2 := (zz_X_eq sg_law _ _ _ _).trans rfl
theorem bl_119 (C : zz_C) (N : Nat) (xs : Nat → Int32) (M : Nat → Nat → Int32) (L : Nat → Nat → Int64) (a b : Nat) (v : Int32) (s0 : Int32) : zz_X C tb_law 119 [some (.ref 1004), some (.ref 0), some (.ref 52), some (.int v)] [.int s0] (zro N xs, zsh, M, L, a, b) = zz_o (zz_ix (v + 1) N) fun j1 => zz_o (zz_ix (v + 2) N) fun j2 => zz_o (C 249 [.ref 52, .int (xs j1), .int (xs j2)] (zro N xs, zsh, M, L, a, b)) fun r => zz_X C tb_law 120 [some (.ref 1004), some (.ref 0), some (.ref 52), some (.int v)] (r.1.toList ++ [.int s0]) r.2 := (zz_X_eq sg_law _ _ _ _).trans rfl
theorem bl_120 (C : zz_C) (N : Nat) (xs : Nat → Int32) (M : Nat → Nat → Int32) (L : Nat → Nat → Int64) (a b : Nat) (v : Int32) (s0 : Int32) : zz_X C tb_law 120 [some (.ref 1004), some (.ref 0), some (.ref 52), some (.int v)] [.int s0, .int s0] (zro N xs, zsh, M, L, a, b) = zz_X C tb_law 142 [some (.ref 1004), some (.ref 0), some (.ref 52), some (.int v)] [] (zro N xs, zsh, M, L, a, b) := (zz_X_eq sg_law _ _ _ _).trans (if_pos rfl)
theorem lp_38 (hN : N ≤ 384) (hi : i + 6 ≤ N) (hI : Inv M L) : ∃ M2 L2, Inv M2 L2 ∧ zz_X (zz_call_ 100) tb_law 118 [some (.ref 1004), some (.ref 0), some (.ref 52), some (.int (iI i))] [] (zro N xs, zsh, M, L, a, b) = zz_X (zz_call_ 100) tb_law 142 [some (.ref 1004), some (.ref 0), some (.ref 52), some (.int (iI i))] [] (zro N xs, zsh, M2, L2, a, b) := by
  obtain ⟨v, M1, L1, M2, L2, h1, h2, hI2⟩ := o_lots (xs (i + 1)) (xs (i + 2)) hI
  have e1 := h1 100 (by omega) N xs a b
  have e2 := h2 100 (by omega) N xs a b
  obtain ⟨x, hx⟩ := zz_kd mk_133 rfl hc_133 e1
  have hv : v = .int x := Option.some.inj hx
  subst hv
  have q1 : zz_ix (iI i + 1) N = some (i + 1) := ixp (k := 1) (by omega) hN
  have q2 : zz_ix (iI i + 2) N = some (i + 2) := ixp (k := 2) (by omega) hN
  refine ⟨M2, L2, hI2, ?_⟩
  rw [bl_118, q1, o_some, q2, o_some, e1, o_some]
  refine Eq.trans (bl_119 _ _ _ _ _ _ _ _ x) ?_
  rw [q1, o_some, q2, o_some, e2, o_some]
  exact bl_120 _ _ _ _ _ _ _ _ x
theorem bl_121 (C : zz_C) (N : Nat) (xs : Nat → Int32) (M : Nat → Nat → Int32) (L : Nat → Nat → Int64) (a b : Nat) (v : Int32) : zz_X C tb_law 121 [some (.ref 1004), some (.ref 0), some (.ref 52), some (.int v)] [] (zro N xs, zsh, M, L, a, b) = zz_o (C 134 [.ref 0] (zro N xs, zsh, M, L, a, b)) fun r => zz_X C tb_law 122 [some (.ref 1004), some (.ref 0), some (.ref 52), some (.int v)] (r.1.toList ++ []) r.2 := (zz_X_eq sg_law _ _ _ _).trans rfl
theorem bl_122 (C : zz_C) (N : Nat) (xs : Nat → Int32) (M : Nat → Nat → Int32) (L : Nat → Nat → Int64) (a b : Nat) (v : Int32) (s0 : Int32) : zz_X C tb_law 122 [some (.ref 1004), some (.ref 0), some (.ref 52), some (.int v)] [.int s0] (zro N xs, zsh, M, L, a, b) = zz_o (C 250 [.ref 52] (zro N xs, zsh, M, L, a, b)) fun r => zz_X C tb_law 123 [some (.ref 1004), some (.ref 0), some (.ref 52), some (.int v)] (r.1.toList ++ [.int s0]) r.2 := (zz_X_eq sg_law _ _ _ _).trans rfl
theorem bl_123 (C : zz_C) (N : Nat) (xs : Nat → Int32) (M : Nat → Nat → Int32) (L : Nat → Nat → Int64) (a b : Nat) (v : Int32) (s0 : Int32) : zz_X C tb_law 123 [some (.ref 1004), some (.ref 0), some (.ref 52), some (.int v)] [.int s0, .int s0] (zro N xs, zsh, M, L, a, b) = zz_X C tb_law 142 [some (.ref 1004), some (.ref 0), some (.ref 52), some (.int v)] [] (zro N xs, zsh, M, L, a, b) := (zz_X_eq sg_law _ _ _ _).trans (if_pos rfl)
theorem lp_39 (hN : N ≤ 384) (hi : i + 6 ≤ N) (hI : Inv M L) : ∃ M2 L2, Inv M2 L2 ∧ zz_X (zz_call_ 100) tb_law 121 [some (.ref 1004), some (.ref 0), some (.ref 52), some (.int (iI i))] [] (zro N xs, zsh, M, L, a, b) = zz_X (zz_call_ 100) tb_law 142 [some (.ref 1004), some (.ref 0), some (.ref 52), some (.int (iI i))] [] (zro N xs, zsh, M2, L2, a, b) := by
  obtain ⟨v, M1, L1, M2, L2, h1, h2, hI2⟩ := o_asked hI
  have e1 := h1 100 (by omega) N xs a b
  have e2 := h2 100 (by omega) N xs a b
  obtain ⟨x, hx⟩ := zz_kd mk_134 rfl hc_134 e1
  have hv : v = .int x := Option.some.inj hx
  subst hv
  refine ⟨M2, L2, hI2, ?_⟩
  rw [bl_121, e1, o_some]
  refine Eq.trans (bl_122 _ _ _ _ _ _ _ _ x) ?_
  rw [e2, o_some]
  exact bl_123 _ _ _ _ _ _ _ _ x
theorem bl_124 (C : zz_C) (N : Nat) (xs : Nat → Int32) (M : Nat → Nat → Int32) (L : Nat → Nat → Int64) (a b : Nat) (v : Int32) : zz_X C tb_law 124 [some (.ref 1004), some (.ref 0), some (.ref 52), some (.int v)] [] (zro N xs, zsh, M, L, a, b) = zz_o (C 135 [.ref 0] (zro N xs, zsh, M, L, a, b)) fun r => zz_X C tb_law 125 [some (.ref 1004), some (.ref 0), some (.ref 52), some (.int v)] (r.1.toList ++ []) r.2 := (zz_X_eq sg_law _ _ _ _).trans rfl
theorem bl_125 (C : zz_C) (N : Nat) (xs : Nat → Int32) (M : Nat → Nat → Int32) (L : Nat → Nat → Int64) (a b : Nat) (v : Int32) (s0 : Int64) : zz_X C tb_law 125 [some (.ref 1004), some (.ref 0), some (.ref 52), some (.int v)] [.long s0] (zro N xs, zsh, M, L, a, b) = zz_o (C 251 [.ref 52] (zro N xs, zsh, M, L, a, b)) fun r => zz_X C tb_law 126 [some (.ref 1004), some (.ref 0), some (.ref 52), some (.int v)] (r.1.toList ++ [.long s0]) r.2 := (zz_X_eq sg_law _ _ _ _).trans rfl
theorem bl_126 (C : zz_C) (N : Nat) (xs : Nat → Int32) (M : Nat → Nat → Int32) (L : Nat → Nat → Int64) (a b : Nat) (v : Int32) (s0 : Int64) : zz_X C tb_law 126 [some (.ref 1004), some (.ref 0), some (.ref 52), some (.int v)] [.long s0, .long s0] (zro N xs, zsh, M, L, a, b) = zz_X C tb_law 142 [some (.ref 1004), some (.ref 0), some (.ref 52), some (.int v)] [] (zro N xs, zsh, M, L, a, b) := (zz_X_eq sg_law _ _ _ _).trans (if_pos (lg_self s0))
theorem lp_40 (hN : N ≤ 384) (hi : i + 6 ≤ N) (hI : Inv M L) : ∃ M2 L2, Inv M2 L2 ∧ zz_X (zz_call_ 100) tb_law 124 [some (.ref 1004), some (.ref 0), some (.ref 52), some (.int (iI i))] [] (zro N xs, zsh, M, L, a, b) = zz_X (zz_call_ 100) tb_law 142 [some (.ref 1004), some (.ref 0), some (.ref 52), some (.int (iI i))] [] (zro N xs, zsh, M2, L2, a, b) := by
  obtain ⟨v, M1, L1, M2, L2, h1, h2, hI2⟩ := o_upper hI
  have e1 := h1 100 (by omega) N xs a b
  have e2 := h2 100 (by omega) N xs a b
  obtain ⟨x, hx⟩ := zz_kd mk_135 rfl hc_135 e1
  have hv : v = .long x := Option.some.inj hx
  subst hv
  refine ⟨M2, L2, hI2, ?_⟩
  rw [bl_124, e1, o_some]
  refine Eq.trans (bl_125 _ _ _ _ _ _ _ _ x) ?_
  rw [e2, o_some]
  exact bl_126 _ _ _ _ _ _ _ _ x
theorem bl_127 (C : zz_C) (N : Nat) (xs : Nat → Int32) (M : Nat → Nat → Int32) (L : Nat → Nat → Int64) (a b : Nat) (v : Int32) : zz_X C tb_law 127 [some (.ref 1004), some (.ref 0), some (.ref 52), some (.int v)] [] (zro N xs, zsh, M, L, a, b) = zz_o (C 136 [.ref 0] (zro N xs, zsh, M, L, a, b)) fun r => zz_X C tb_law 128 [some (.ref 1004), some (.ref 0), some (.ref 52), some (.int v)] (r.1.toList ++ []) r.2 := (zz_X_eq sg_law _ _ _ _).trans rfl
theorem bl_128 (C : zz_C) (N : Nat) (xs : Nat → Int32) (M : Nat → Nat → Int32) (L : Nat → Nat → Int64) (a b : Nat) (v : Int32) (s0 : Int64) : zz_X C tb_law 128 [some (.ref 1004), some (.ref 0), some (.ref 52), some (.int v)] [.long s0] (zro N xs, zsh, M, L, a, b) = zz_o (C 252 [.ref 52] (zro N xs, zsh, M, L, a, b)) fun r => zz_X C tb_law 129 [some (.ref 1004), some (.ref 0), some (.ref 52), some (.int v)] (r.1.toList ++ [.long s0]) r.2 := (zz_X_eq sg_law _ _ _ _).trans rfl
theorem bl_129 (C : zz_C) (N : Nat) (xs : Nat → Int32) (M : Nat → Nat → Int32) (L : Nat → Nat → Int64) (a b : Nat) (v : Int32) (s0 : Int64) : zz_X C tb_law 129 [some (.ref 1004), some (.ref 0), some (.ref 52), some (.int v)] [.long s0, .long s0] (zro N xs, zsh, M, L, a, b) = zz_X C tb_law 142 [some (.ref 1004), some (.ref 0), some (.ref 52), some (.int v)] [] (zro N xs, zsh, M, L, a, b) := (zz_X_eq sg_law _ _ _ _).trans (if_pos (lg_self s0))
theorem lp_41 (hN : N ≤ 384) (hi : i + 6 ≤ N) (hI : Inv M L) : ∃ M2 L2, Inv M2 L2 ∧ zz_X (zz_call_ 100) tb_law 127 [some (.ref 1004), some (.ref 0), some (.ref 52), some (.int (iI i))] [] (zro N xs, zsh, M, L, a, b) = zz_X (zz_call_ 100) tb_law 142 [some (.ref 1004), some (.ref 0), some (.ref 52), some (.int (iI i))] [] (zro N xs, zsh, M2, L2, a, b) := by
  obtain ⟨v, M1, L1, M2, L2, h1, h2, hI2⟩ := o_lower hI
  have e1 := h1 100 (by omega) N xs a b
  have e2 := h2 100 (by omega) N xs a b
  obtain ⟨x, hx⟩ := zz_kd mk_136 rfl hc_136 e1
  have hv : v = .long x := Option.some.inj hx
  subst hv
  refine ⟨M2, L2, hI2, ?_⟩
  rw [bl_127, e1, o_some]
  refine Eq.trans (bl_128 _ _ _ _ _ _ _ _ x) ?_
  rw [e2, o_some]
  exact bl_129 _ _ _ _ _ _ _ _ x
theorem bl_130 (C : zz_C) (N : Nat) (xs : Nat → Int32) (M : Nat → Nat → Int32) (L : Nat → Nat → Int64) (a b : Nat) (v : Int32) : zz_X C tb_law 130 [some (.ref 1004), some (.ref 0), some (.ref 52), some (.int v)] [] (zro N xs, zsh, M, L, a, b) = zz_o (zz_ix (v + 1) N) fun j1 => zz_o (C 137 [.ref 0, .int (xs j1)] (zro N xs, zsh, M, L, a, b)) fun r => zz_X C tb_law 131 [some (.ref 1004), some (.ref 0), some (.ref 52), some (.int v)] (r.1.toList ++ []) r.2 := (zz_X_eq sg_law _ _ _ _).trans rfl
theorem bl_131 (C : zz_C) (N : Nat) (xs : Nat → Int32) (M : Nat → Nat → Int32) (L : Nat → Nat → Int64) (a b : Nat) (v : Int32) (s0 : Int32) : zz_X C tb_law 131 [some (.ref 1004), some (.ref 0), some (.ref 52), some (.int v)] [.int s0] (zro N xs, zsh, M, L, a, b) = zz_o (zz_ix (v + 1) N) fun j1 => zz_o (C 255 [.ref 52, .int (xs j1)] (zro N xs, zsh, M, L, a, b)) fun r => zz_X C tb_law 132 [some (.ref 1004), some (.ref 0), some (.ref 52), some (.int v)] (r.1.toList ++ [.int s0]) r.2 := (zz_X_eq sg_law _ _ _ _).trans rfl
theorem bl_132 (C : zz_C) (N : Nat) (xs : Nat → Int32) (M : Nat → Nat → Int32) (L : Nat → Nat → Int64) (a b : Nat) (v : Int32) (s0 : Int32) : zz_X C tb_law 132 [some (.ref 1004), some (.ref 0), some (.ref 52), some (.int v)] [.int s0, .int s0] (zro N xs, zsh, M, L, a, b) = zz_X C tb_law 142 [some (.ref 1004), some (.ref 0), some (.ref 52), some (.int v)] [] (zro N xs, zsh, M, L, a, b) := (zz_X_eq sg_law _ _ _ _).trans (if_pos rfl)
theorem lp_42 (hN : N ≤ 384) (hi : i + 6 ≤ N) (hI : Inv M L) : ∃ M2 L2, Inv M2 L2 ∧ zz_X (zz_call_ 100) tb_law 130 [some (.ref 1004), some (.ref 0), some (.ref 52), some (.int (iI i))] [] (zro N xs, zsh, M, L, a, b) = zz_X (zz_call_ 100) tb_law 142 [some (.ref 1004), some (.ref 0), some (.ref 52), some (.int (iI i))] [] (zro N xs, zsh, M2, L2, a, b) := by
  obtain ⟨v, M1, L1, M2, L2, h1, h2, hI2⟩ := o_count (xs (i + 1)) hI
  have e1 := h1 100 (by omega) N xs a b
  have e2 := h2 100 (by omega) N xs a b
  obtain ⟨x, hx⟩ := zz_kd mk_137 rfl hc_137 e1
  have hv : v = .int x := Option.some.inj hx
  subst hv
  have q1 : zz_ix (iI i + 1) N = some (i + 1) := ixp (k := 1) (by omega) hN
  refine ⟨M2, L2, hI2, ?_⟩
  rw [bl_130, q1, o_some, e1, o_some]
  refine Eq.trans (bl_131 _ _ _ _ _ _ _ _ x) ?_
  rw [q1, o_some, e2, o_some]
  exact bl_132 _ _ _ _ _ _ _ _ x
theorem bl_133 (C : zz_C) (N : Nat) (xs : Nat → Int32) (M : Nat → Nat → Int32) (L : Nat → Nat → Int64) (a b : Nat) (v : Int32) : zz_X C tb_law 133 [some (.ref 1004), some (.ref 0), some (.ref 52), some (.int v)] [] (zro N xs, zsh, M, L, a, b) = zz_o (C 138 [.ref 0] (zro N xs, zsh, M, L, a, b)) fun r => zz_X C tb_law 134 [some (.ref 1004), some (.ref 0), some (.ref 52), some (.int v)] (r.1.toList ++ []) r.2 := (zz_X_eq sg_law _ _ _ _).trans rfl
theorem bl_134 (C : zz_C) (N : Nat) (xs : Nat → Int32) (M : Nat → Nat → Int32) (L : Nat → Nat → Int64) (a b : Nat) (v : Int32) (s0 : Int32) : zz_X C tb_law 134 [some (.ref 1004), some (.ref 0), some (.ref 52), some (.int v)] [.int s0] (zro N xs, zsh, M, L, a, b) = zz_o (C 256 [.ref 52] (zro N xs, zsh, M, L, a, b)) fun r => zz_X C tb_law 135 [some (.ref 1004), some (.ref 0), some (.ref 52), some (.int v)] (r.1.toList ++ [.int s0]) r.2 := (zz_X_eq sg_law _ _ _ _).trans rfl
theorem bl_135 (C : zz_C) (N : Nat) (xs : Nat → Int32) (M : Nat → Nat → Int32) (L : Nat → Nat → Int64) (a b : Nat) (v : Int32) (s0 : Int32) : zz_X C tb_law 135 [some (.ref 1004), some (.ref 0), some (.ref 52), some (.int v)] [.int s0, .int s0] (zro N xs, zsh, M, L, a, b) = zz_X C tb_law 142 [some (.ref 1004), some (.ref 0), some (.ref 52), some (.int v)] [] (zro N xs, zsh, M, L, a, b) := (zz_X_eq sg_law _ _ _ _).trans (if_pos rfl)
theorem lp_43 (hN : N ≤ 384) (hi : i + 6 ≤ N) (hI : Inv M L) : ∃ M2 L2, Inv M2 L2 ∧ zz_X (zz_call_ 100) tb_law 133 [some (.ref 1004), some (.ref 0), some (.ref 52), some (.int (iI i))] [] (zro N xs, zsh, M, L, a, b) = zz_X (zz_call_ 100) tb_law 142 [some (.ref 1004), some (.ref 0), some (.ref 52), some (.int (iI i))] [] (zro N xs, zsh, M2, L2, a, b) := by
  obtain ⟨v, M1, L1, M2, L2, h1, h2, hI2⟩ := o_finding hI
  have e1 := h1 100 (by omega) N xs a b
  have e2 := h2 100 (by omega) N xs a b
  obtain ⟨x, hx⟩ := zz_kd mk_138 rfl hc_138 e1
  have hv : v = .int x := Option.some.inj hx
  subst hv
  refine ⟨M2, L2, hI2, ?_⟩
  rw [bl_133, e1, o_some]
  refine Eq.trans (bl_134 _ _ _ _ _ _ _ _ x) ?_
  rw [e2, o_some]
  exact bl_135 _ _ _ _ _ _ _ _ x
theorem bl_136 (C : zz_C) (N : Nat) (xs : Nat → Int32) (M : Nat → Nat → Int32) (L : Nat → Nat → Int64) (a b : Nat) (v : Int32) : zz_X C tb_law 136 [some (.ref 1004), some (.ref 0), some (.ref 52), some (.int v)] [] (zro N xs, zsh, M, L, a, b) = zz_o (zz_ix (v + 1) N) fun j1 => zz_o (C 139 [.ref 0, .int (xs j1)] (zro N xs, zsh, M, L, a, b)) fun r => zz_X C tb_law 137 [some (.ref 1004), some (.ref 0), some (.ref 52), some (.int v)] (r.1.toList ++ []) r.2 := (zz_X_eq sg_law _ _ _ _).trans rfl
theorem bl_137 (C : zz_C) (N : Nat) (xs : Nat → Int32) (M : Nat → Nat → Int32) (L : Nat → Nat → Int64) (a b : Nat) (v : Int32) (s0 : Int32) : zz_X C tb_law 137 [some (.ref 1004), some (.ref 0), some (.ref 52), some (.int v)] [.int s0] (zro N xs, zsh, M, L, a, b) = zz_o (zz_ix (v + 1) N) fun j1 => zz_o (C 257 [.ref 52, .int (xs j1)] (zro N xs, zsh, M, L, a, b)) fun r => zz_X C tb_law 138 [some (.ref 1004), some (.ref 0), some (.ref 52), some (.int v)] (r.1.toList ++ [.int s0]) r.2 := (zz_X_eq sg_law _ _ _ _).trans rfl
theorem bl_138 (C : zz_C) (N : Nat) (xs : Nat → Int32) (M : Nat → Nat → Int32) (L : Nat → Nat → Int64) (a b : Nat) (v : Int32) (s0 : Int32) : zz_X C tb_law 138 [some (.ref 1004), some (.ref 0), some (.ref 52), some (.int v)] [.int s0, .int s0] (zro N xs, zsh, M, L, a, b) = zz_X C tb_law 142 [some (.ref 1004), some (.ref 0), some (.ref 52), some (.int v)] [] (zro N xs, zsh, M, L, a, b) := (zz_X_eq sg_law _ _ _ _).trans (if_pos rfl)
theorem lp_44 (hN : N ≤ 384) (hi : i + 6 ≤ N) (hI : Inv M L) : ∃ M2 L2, Inv M2 L2 ∧ zz_X (zz_call_ 100) tb_law 136 [some (.ref 1004), some (.ref 0), some (.ref 52), some (.int (iI i))] [] (zro N xs, zsh, M, L, a, b) = zz_X (zz_call_ 100) tb_law 142 [some (.ref 1004), some (.ref 0), some (.ref 52), some (.int (iI i))] [] (zro N xs, zsh, M2, L2, a, b) := by
  obtain ⟨v, M1, L1, M2, L2, h1, h2, hI2⟩ := o_findings (xs (i + 1)) hI
  have e1 := h1 100 (by omega) N xs a b
  have e2 := h2 100 (by omega) N xs a b
  obtain ⟨x, hx⟩ := zz_kd mk_139 rfl hc_139 e1
  have hv : v = .int x := Option.some.inj hx
  subst hv
  have q1 : zz_ix (iI i + 1) N = some (i + 1) := ixp (k := 1) (by omega) hN
  refine ⟨M2, L2, hI2, ?_⟩
  rw [bl_136, q1, o_some, e1, o_some]
  refine Eq.trans (bl_137 _ _ _ _ _ _ _ _ x) ?_
  rw [q1, o_some, e2, o_some]
  exact bl_138 _ _ _ _ _ _ _ _ x
theorem bl_139 (C : zz_C) (N : Nat) (xs : Nat → Int32) (M : Nat → Nat → Int32) (L : Nat → Nat → Int64) (a b : Nat) (v : Int32) : zz_X C tb_law 139 [some (.ref 1004), some (.ref 0), some (.ref 52), some (.int v)] [] (zro N xs, zsh, M, L, a, b) = zz_o (C 140 [.ref 0] (zro N xs, zsh, M, L, a, b)) fun r => zz_X C tb_law 140 [some (.ref 1004), some (.ref 0), some (.ref 52), some (.int v)] (r.1.toList ++ []) r.2 := (zz_X_eq sg_law _ _ _ _).trans rfl
theorem bl_140 (C : zz_C) (N : Nat) (xs : Nat → Int32) (M : Nat → Nat → Int32) (L : Nat → Nat → Int64) (a b : Nat) (v : Int32) (s0 : Int64) : zz_X C tb_law 140 [some (.ref 1004), some (.ref 0), some (.ref 52), some (.int v)] [.long s0] (zro N xs, zsh, M, L, a, b) = zz_o (C 259 [.ref 52] (zro N xs, zsh, M, L, a, b)) fun r => zz_X C tb_law 141 [some (.ref 1004), some (.ref 0), some (.ref 52), some (.int v)] (r.1.toList ++ [.long s0]) r.2 := (zz_X_eq sg_law _ _ _ _).trans rfl
theorem bl_141 (C : zz_C) (N : Nat) (xs : Nat → Int32) (M : Nat → Nat → Int32) (L : Nat → Nat → Int64) (a b : Nat) (v : Int32) (s0 : Int64) : zz_X C tb_law 141 [some (.ref 1004), some (.ref 0), some (.ref 52), some (.int v)] [.long s0, .long s0] (zro N xs, zsh, M, L, a, b) = zz_X C tb_law 142 [some (.ref 1004), some (.ref 0), some (.ref 52), some (.int v)] [] (zro N xs, zsh, M, L, a, b) := (zz_X_eq sg_law _ _ _ _).trans (if_pos (lg_self s0))
theorem lp_45 (hN : N ≤ 384) (hi : i + 6 ≤ N) (hI : Inv M L) : ∃ M2 L2, Inv M2 L2 ∧ zz_X (zz_call_ 100) tb_law 139 [some (.ref 1004), some (.ref 0), some (.ref 52), some (.int (iI i))] [] (zro N xs, zsh, M, L, a, b) = zz_X (zz_call_ 100) tb_law 142 [some (.ref 1004), some (.ref 0), some (.ref 52), some (.int (iI i))] [] (zro N xs, zsh, M2, L2, a, b) := by
  obtain ⟨v, M1, L1, M2, L2, h1, h2, hI2⟩ := o_digest hI
  have e1 := h1 100 (by omega) N xs a b
  have e2 := h2 100 (by omega) N xs a b
  obtain ⟨x, hx⟩ := zz_kd mk_140 rfl hc_140 e1
  have hv : v = .long x := Option.some.inj hx
  subst hv
  refine ⟨M2, L2, hI2, ?_⟩
  rw [bl_139, e1, o_some]
  refine Eq.trans (bl_140 _ _ _ _ _ _ _ _ x) ?_
  rw [e2, o_some]
  exact bl_141 _ _ _ _ _ _ _ _ x
theorem lp_all (n : Nat) (hn : n < 46) (hN : N ≤ 384) (hi : i + 6 ≤ N) (hI : Inv M L) : ∃ M2 L2, Inv M2 L2 ∧ zz_X (zz_call_ 100) tb_law (4 + 3 * n) [some (.ref 1004), some (.ref 0), some (.ref 52), some (.int (iI i))] [] (zro N xs, zsh, M, L, a, b) = zz_X (zz_call_ 100) tb_law 142 [some (.ref 1004), some (.ref 0), some (.ref 52), some (.int (iI i))] [] (zro N xs, zsh, M2, L2, a, b) := by
  match n, hn with
  | 0, _ => exact lp_0 hN hi hI
  | 1, _ => exact lp_1 hN hi hI
  | 2, _ => exact lp_2 hN hi hI
  | 3, _ => exact lp_3 hN hi hI
  | 4, _ => exact lp_4 hN hi hI
  | 5, _ => exact lp_5 hN hi hI
  | 6, _ => exact lp_6 hN hi hI
  | 7, _ => exact lp_7 hN hi hI
  | 8, _ => exact lp_8 hN hi hI
  | 9, _ => exact lp_9 hN hi hI
  | 10, _ => exact lp_10 hN hi hI
  | 11, _ => exact lp_11 hN hi hI
  | 12, _ => exact lp_12 hN hi hI
  | 13, _ => exact lp_13 hN hi hI
  | 14, _ => exact lp_14 hN hi hI
  | 15, _ => exact lp_15 hN hi hI
  | 16, _ => exact lp_16 hN hi hI
  | 17, _ => exact lp_17 hN hi hI
  | 18, _ => exact lp_18 hN hi hI
  | 19, _ => exact lp_19 hN hi hI
  | 20, _ => exact lp_20 hN hi hI
  | 21, _ => exact lp_21 hN hi hI
  | 22, _ => exact lp_22 hN hi hI
  | 23, _ => exact lp_23 hN hi hI
  | 24, _ => exact lp_24 hN hi hI
  | 25, _ => exact lp_25 hN hi hI
  | 26, _ => exact lp_26 hN hi hI
  | 27, _ => exact lp_27 hN hi hI
  | 28, _ => exact lp_28 hN hi hI
  | 29, _ => exact lp_29 hN hi hI
  | 30, _ => exact lp_30 hN hi hI
  | 31, _ => exact lp_31 hN hi hI
  | 32, _ => exact lp_32 hN hi hI
  | 33, _ => exact lp_33 hN hi hI
  | 34, _ => exact lp_34 hN hi hI
  | 35, _ => exact lp_35 hN hi hI
  | 36, _ => exact lp_36 hN hi hI
  | 37, _ => exact lp_37 hN hi hI
  | 38, _ => exact lp_38 hN hi hI
  | 39, _ => exact lp_39 hN hi hI
  | 40, _ => exact lp_40 hN hi hI
  | 41, _ => exact lp_41 hN hi hI
  | 42, _ => exact lp_42 hN hi hI
  | 43, _ => exact lp_43 hN hi hI
  | 44, _ => exact lp_44 hN hi hI
  | 45, _ => exact lp_45 hN hi hI
  | n + 46, h => exact absurd h (by omega)
theorem ts_at : ∀ n, n < 46 → ([4, 7, 10, 13, 16, 19, 22, 25, 28, 31, 34, 37, 40, 43, 46, 49, 52, 55, 58, 61, 64, 67, 70, 73, 76, 79, 82, 85, 88, 91, 94, 97, 100, 103, 106, 109, 112, 115, 118, 121, 124, 127, 130, 133, 136, 139] : List Nat)[n]? = some (4 + 3 * n) := by decide
theorem lp_tsw (x : Int32) (hN : N ≤ 384) (hi : i + 6 ≤ N) (hI : Inv M L) : ∃ M2 L2, Inv M2 L2 ∧ zz_tsw (zz_X (zz_call_ 100) tb_law) 0 [4, 7, 10, 13, 16, 19, 22, 25, 28, 31, 34, 37, 40, 43, 46, 49, 52, 55, 58, 61, 64, 67, 70, 73, 76, 79, 82, 85, 88, 91, 94, 97, 100, 103, 106, 109, 112, 115, 118, 121, 124, 127, 130, 133, 136, 139] 142 x [some (.ref 1004), some (.ref 0), some (.ref 52), some (.int (iI i))] [] (zro N xs, zsh, M, L, a, b) = zz_X (zz_call_ 100) tb_law 142 [some (.ref 1004), some (.ref 0), some (.ref 52), some (.int (iI i))] [] (zro N xs, zsh, M2, L2, a, b) := by
  unfold zz_tsw
  by_cases q : x.toInt < 0
  · exact ⟨M, L, hI, if_pos q⟩
  · rw [if_neg q]
    by_cases hn : (x.toInt - 0).toNat < 46
    · obtain ⟨M2, L2, h1, h2⟩ := lp_all (xs := xs) (a := a) (b := b) (x.toInt - 0).toNat hn hN hi hI
      refine ⟨M2, L2, h1, ?_⟩
      rw [ts_at _ hn]
      exact h2
    · refine ⟨M, L, hI, ?_⟩
      rw [List.getElem?_eq_none (by show 46 ≤ _; omega)]
end ZV
theorem oN {N : Nat} : Int32.ofNat N = iI N := by
  exact ofNat_iI N
theorem lp_loop {N : Nat} (hN : N ≤ 384) (xs : Nat → Int32) (a b : Nat) : ∀ (c i : Nat) (M : Nat → Nat → Int32) (L : Nat → Nat → Int64), i ≤ 400 → N < i + c + 6 → Inv M L → ∃ m', zz_X (zz_call_ 100) tb_law 3 [some (.ref 1004), some (.ref 0), some (.ref 52), some (.int (iI i))] [] (zro N xs, zsh, M, L, a, b) = some (some (.int 1), m')
  | c, i, M, L, h4, hc, hI => by
    by_cases q : i + 6 ≤ N
    · cases c with
      | zero => omega
      | succ c =>
        obtain ⟨M2, L2, h1, h2⟩ := lp_tsw (a := a) (b := b) (xs i &&& 63) hN q hI
        obtain ⟨m', h3⟩ := lp_loop hN xs a b c (i + 6) M2 L2 (by omega) (by omega) h1
        refine ⟨m', ?_⟩
        rw [bl_3, oN, show (6 : Int32) = iI 6 from rfl, iI_sub, if_neg (by rw [t_lt, iI_to (by omega) (by omega), iI_to (by omega) (by omega)]; omega), ix_nat (by omega) (by omega), o_some, h2, bl_142, show (6 : Int32) = iI 6 from rfl, iI_add]
        exact h3
    · refine ⟨(zro N xs, zsh, M, L, a, b), ?_⟩
      rw [bl_3, oN, show (6 : Int32) = iI 6 from rfl, iI_sub, if_pos (by rw [t_lt, iI_to (by omega) (by omega), iI_to (by omega) (by omega)]; omega), bl_143]
theorem zz_law {N : Nat} (hN : N ≤ 384) (xs : Nat → Int32) : ∃ m', zz_X (zz_call_ 100) tb_law 0 [some (.ref 1004), none, none, none] [] (zro N xs, [], fun _ _ => 0, fun _ _ => 0, 600000, 7302250) = some (some (.int 1), m') := by
  obtain ⟨m', h⟩ := lp_loop hN xs 599698 7290215 N 0 mI_e mL_e (by omega) (by omega) zz_inv0
  exact ⟨m', (zz_init N xs).trans h⟩

theorem zz_law {N : Nat} (hN : N ≤ 384) (xs : Nat → Int32) : ∃ m', zz_X (zz_call_ 100) tb_law 0 [some (.ref 1004), none, none, none] [] (zro N xs, [], fun _ _ => 0, fun _ _ => 0, 600000, 7302250) = some (some (.int 1), m') := by
  sorry

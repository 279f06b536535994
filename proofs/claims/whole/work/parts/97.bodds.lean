/-! odds: both alike. -/
def wy (p : Nat) : Nat → Nat → Nat
  | 0, a => if a = 0 then 1 else 0
  | d + 1, a => wy p d a * (12 - p) + (if a = 0 then 0 else wy p d (a - 1) * p)
def wfA (a p : Nat) : Nat → Nat
  | 0 => 1
  | k + 1 => wfA a p k * (if k < a then p else 12 - p)
def wfB (n : Nat) : Nat → Nat
  | 0 => 1
  | k + 1 => wfB n k * (n - k) / (k + 1)
def wf (a n p : Nat) : Nat := wfA a p n * wfB n a
theorem wf_wy : ∀ n, n < 7 → ∀ p, p < 13 → ∀ a, a < 7 → wy p n a = 1 * (if a ≤ n then wf a n p else 0) := by decide +kernel
theorem wf_w0 : ∀ n, n < 7 → ∀ p, p < 13 → ∀ a, a < 7 → wy 0 n a = 12 ^ n * (if a ≤ 0 then wf a 0 p else 0) := by decide +kernel
theorem wy_sum : ∀ n, n < 7 → ∀ p, p < 13 → sN (wy p n) 7 = 12 ^ n := by decide +kernel
theorem wfB_b : ∀ n, n < 7 → ∀ k, k < 7 → wfB n k ≤ 1000 := by decide +kernel
theorem sN_mul (c : Nat) (f : Nat → Nat) : ∀ n, sN (fun a => c * f a) n = c * sN f n
  | 0 => rfl
  | n + 1 => by
    show sN (fun a => c * f a) n + c * f n = c * (sN f n + f n)
    rw [sN_mul c f n, Nat.mul_add]
theorem sN_cut {f : Nat → Nat} {m : Nat} : ∀ {n : Nat}, m ≤ n → (∀ a, m ≤ a → a < n → f a = 0) → sN f n = sN f m
  | 0, h, _ => by rw [show m = 0 by omega]
  | n + 1, h, hz => by
    by_cases q : m = n + 1
    · rw [q]
    · show sN f n + f n = sN f m
      rw [sN_cut (show m ≤ n by omega) (fun a h1 h2 => hz a h1 (by omega)), hz n (by omega) (by omega), Nat.add_zero]
theorem sN_le2 {f g : Nat → Nat} : ∀ {n : Nat}, (∀ a, a < n → f a ≤ g a) → sN f n ≤ sN g n
  | 0, _ => Nat.le_refl _
  | n + 1, h => Nat.add_le_add (sN_le2 (fun a ha => h a (by omega))) (h n (by omega))
theorem tn_rg {m s a : Nat} (hm : m < 60) (ha : a < 60) (hs : s ≤ 9) : tn (rg m s) a = rg ((m + a) % 60) s := by
  have hl : rg m s < 2 ^ 60 := tn_lt _ _
  apply Nat.eq_of_testBit_eq
  intro x
  rw [Bool.eq_iff_iff, tn_bit hl ha, rg_bit hs hm, rg_bit hs (show (m + a) % 60 < 60 by omega)]
  simp only [Bool.and_eq_true, decide_eq_true_eq]
  omega
abbrev Po (V : Vw) (i j n a b : Nat) : Prop := met ((V.minAt i n + (a : Int)) % 60) (span (V.kind i)) ((V.minAt j n + (b : Int)) % 60) (span (V.kind j))
theorem Po_b {V : Vw} {i j n a b : Nat} (ha : a < 60) (hb : b < 60) : tn (bt V n i) a &&& tn (bt V n j) b ≠ 0 ↔ Po V i j n a b := by
  have h1 := minAt_b V i n
  have h2 := minAt_b V j n
  have h3 := span_b (V.kind i)
  have h4 := span_b (V.kind j)
  show tn (rg (V.minAt i n).toNat (span (V.kind i))) a &&& tn (rg (V.minAt j n).toNat (span (V.kind j))) b ≠ 0 ↔ _
  rw [tn_rg (by omega) ha (by omega), tn_rg (by omega) hb (by omega)]
  have e := met_bits (a := ((V.minAt i n).toNat + a) % 60) (b := ((V.minAt j n).toNat + b) % 60) (s := span (V.kind i)) (t := span (V.kind j)) (by omega) (by omega) (by omega) (by omega)
  rw [show ((((V.minAt i n).toNat + a) % 60 : Nat) : Int) = (V.minAt i n + (a : Int)) % 60 by omega, show ((((V.minAt j n).toNat + b) % 60 : Nat) : Int) = (V.minAt j n + (b : Int)) % 60 by omega] at e
  exact e
/-- all ways in which they meet, with these weights -/
def cel (P : Nat → Nat → Prop) [∀ a b, Decidable (P a b)] (u w : Nat → Nat) (a b : Nat) : Nat := if P a b then u a * w b else 0
def tot (P : Nat → Nat → Prop) [∀ a b, Decidable (P a b)] (u w : Nat → Nat) (m k : Nat) : Nat := sN (fun a => sN (cel P u w a) k) m
theorem tot_sc (P : Nat → Nat → Prop) [∀ a b, Decidable (P a b)] {u w v x : Nat → Nat} {F G : Nat} (hu : ∀ a, a < 7 → u a = F * v a) (hw : ∀ a, a < 7 → w a = G * x a) : tot P u w 7 7 = F * G * tot P v x 7 7 := by
  unfold tot
  rw [← sN_mul]
  refine sN_cg (fun a ha => ?_)
  rw [← sN_mul]
  refine sN_cg (fun b hb => ?_)
  unfold cel
  by_cases q : P a b
  · rw [if_pos q, if_pos q, hu a ha, hw b hb, Nat.mul_assoc F G, Nat.mul_left_comm G, Nat.mul_assoc F]
  · rw [if_neg q, if_neg q, Nat.mul_zero]
theorem tot_cut (P : Nat → Nat → Prop) [∀ a b, Decidable (P a b)] {v x f g : Nat → Nat} {m k : Nat} (hm : m ≤ 6) (hk : k ≤ 6) (hv : ∀ a, a < 7 → v a = if a ≤ m then f a else 0) (hx : ∀ a, a < 7 → x a = if a ≤ k then g a else 0) : tot P v x 7 7 = tot P f g (m + 1) (k + 1) := by
  unfold tot
  have e1 : sN (fun a => sN (cel P v x a) 7) 7 = sN (fun a => sN (cel P v x a) 7) (m + 1) := sN_cut (by omega) (fun a h1 h2 => by
    have : ∀ b, b < 7 → cel P v x a b = 0 := fun b hb => by
      unfold cel
      by_cases q : P a b
      · rw [if_pos q, hv a h2, if_neg (by omega), Nat.zero_mul]
      · rw [if_neg q]
    rw [sN_cut (m := 0) (by omega) (fun b _ hb => this b hb)]
    rfl)
  rw [e1]
  refine sN_cg (fun a ha => ?_)
  rw [sN_cut (m := k + 1) (by omega) (fun b h1 h2 => by
    unfold cel
    by_cases q : P a b
    · rw [if_pos q, hx b h2, if_neg (by omega), Nat.mul_zero]
    · rw [if_neg q])]
  refine sN_cg (fun b hb => ?_)
  unfold cel
  by_cases q : P a b
  · rw [if_pos q, if_pos q, hv a (by omega), if_pos (by omega), hx b (by omega), if_pos (by omega)]
  · rw [if_neg q, if_neg q]
theorem tot_le (P : Nat → Nat → Prop) [∀ a b, Decidable (P a b)] {u w : Nat → Nat} : tot P u w 7 7 ≤ sN u 7 * sN w 7 := by
  unfold tot
  have e : sN u 7 * sN w 7 = sN (fun a => sN w 7 * u a) 7 := by rw [sN_mul, Nat.mul_comm]
  rw [e]
  refine sN_le2 (fun a ha => ?_)
  rw [Nat.mul_comm, ← sN_mul]
  refine sN_le2 (fun b hb => ?_)
  unfold cel
  by_cases q : P a b
  · rw [if_pos q]; exact Nat.le_refl _
  · rw [if_neg q]; exact Nat.zero_le _
section ZR
variable (M : Nat → Nat → Int32) (L : Nat → Nat → Int64)
theorem l_93a {d : Nat} (N : Nat) (xs : Nat → Int32) (p n : Nat) (hp : p ≤ 12) (hn : n ≤ 6) : ∀ (c e : Nat) (o : Option Value), e + c = n → zz_X (zz_call_ d) tb_93 5 [some (.ref 49), some (.int (iI p)), some (.int (iI n)), some (.int (iI e)), o] [] (zm N xs M (sL L 49 (fun a => lI (wy p e a)) 7)) = some (none, zm N xs M (sL L 49 (fun a => lI (wy p n a)) 7))
  | 0, e, o, hc => by
    rw [b_93a_5, if_pos (by rw [t_le, iI_to (by omega) (by omega), iI_to (by omega) (by omega)]; omega), b_93a_10, show e = n by omega]
  | c + 1, e, o, hc => by
    rw [b_93a_5, if_neg (by rw [t_le, iI_to (by omega) (by omega), iI_to (by omega) (by omega)]; omega)]
    have hl := upto (fun k : Nat => zz_X (zz_call_ d) tb_93 6 [some (.ref 49), some (.int (iI p)), some (.int (iI n)), some (.int (iI e)), some (.int (iI (6 - (k : Int))))] [] (zm N xs M (sL L 49 (fun x => lI ((if 7 - k ≤ x then wy p (e + 1) x else wy p e x : Nat) : Int)) 7))) 7 (fun k hk => by
      show zz_X (zz_call_ d) tb_93 6 _ _ _ = zz_X (zz_call_ d) tb_93 6 _ _ _
      have eu : zz_wL (sL L 49 (fun x => lI ((if 7 - k ≤ x then wy p (e + 1) x else wy p e x : Nat) : Int)) 7) 49 (6 - k) (lI ((wy p (e + 1) (6 - k) : Nat) : Int)) = sL L 49 (fun x => lI ((if 7 - (k + 1) ≤ x then wy p (e + 1) x else wy p e x : Nat) : Int)) 7 := sL_u (by omega) (fun y hy => by
        by_cases q : y = 6 - k
        · rw [if_pos q, q, if_pos (by omega)]
        · rw [if_neg q]
          by_cases q2 : 7 - k ≤ y
          · rw [if_pos q2, if_pos (by omega)]
          · rw [if_neg q2, if_neg (by omega)])
      have eL : ∀ y, y < 7 - k → sL L 49 (fun x => lI ((if 7 - k ≤ x then wy p (e + 1) x else wy p e x : Nat) : Int)) 7 49 y = lI ((wy p e y : Nat) : Int) := fun y hy => by
        rw [sL_in (show y < 7 by omega)]
        show lI ((if 7 - k ≤ y then wy p (e + 1) y else wy p e y : Nat) : Int) = _
        rw [if_neg (by omega)]
      have ep : (12 - iI p).toInt64 = lI ((12 - p : Nat) : Int) := by rw [show (12 : Int32) = iI 12 from rfl, iI_sub, show (12 : Int) - (p : Int) = ((12 - p : Nat) : Int) by omega, iI_long (by omega) (by omega)]
      rw [b_93a_6, if_neg (by rw [t_lt, show (0 : Int32).toInt = 0 from rfl, iI_to (by omega) (by omega)]; omega), show (6 : Int) - (k : Int) = ((6 - k : Nat) : Int) by omega, ix_nat (by omega) (by omega), o_some, eL (6 - k) (by omega), ep, lI_mul]
      by_cases q : 6 - k = 0
      · rw [if_pos (by rw [q]; rfl), b_93a_8, ix_nat (by omega) (by omega), o_some, show (0 : Int64) = lI 0 from rfl, lI_add, show ((wy p e (6 - k) : Nat) : Int) * ((12 - p : Nat) : Int) + 0 = ((wy p (e + 1) (6 - k) : Nat) : Int) by
          show _ = ((wy p e (6 - k) * (12 - p) + (if 6 - k = 0 then 0 else wy p e (6 - k - 1) * p) : Nat) : Int)
          rw [if_pos q, Nat.add_zero, Int.add_zero]
          exact (Int.natCast_mul _ _).symm, eu, show (-1 : Int32) = iI (-1) from rfl, iI_add, show ((6 - k : Nat) : Int) + -1 = 6 - ((k + 1 : Nat) : Int) by omega]
      · rw [if_neg (by rw [t_eq, show (0 : Int32).toInt = 0 from rfl, iI_to (by omega) (by omega)]; omega), b_93a_7, show (1 : Int32) = iI 1 from rfl, iI_sub, show ((6 - k : Nat) : Int) - 1 = ((6 - k - 1 : Nat) : Int) by omega, ix_nat (by omega) (by omega), o_some, eL (6 - k - 1) (by omega), iI_long (by omega) (by omega), lI_mul, b_93a_8, ix_nat (by omega) (by omega), o_some, lI_add, show ((wy p e (6 - k) : Nat) : Int) * ((12 - p : Nat) : Int) + ((wy p e (6 - k - 1) : Nat) : Int) * (p : Int) = ((wy p (e + 1) (6 - k) : Nat) : Int) by
          show _ = ((wy p e (6 - k) * (12 - p) + (if 6 - k = 0 then 0 else wy p e (6 - k - 1) * p) : Nat) : Int)
          rw [if_neg q, Int.natCast_add, Int.natCast_mul, Int.natCast_mul], eu, show (-1 : Int32) = iI (-1) from rfl, iI_add, show ((6 - k : Nat) : Int) + -1 = 6 - ((k + 1 : Nat) : Int) by omega])
    have e0 : sL L 49 (fun x => lI ((if 7 - 0 ≤ x then wy p (e + 1) x else wy p e x : Nat) : Int)) 7 = sL L 49 (fun a => lI (wy p e a)) 7 := sL_cg (fun y hy => by rw [if_neg (by omega)])
    have e7 : sL L 49 (fun x => lI ((if 7 - 7 ≤ x then wy p (e + 1) x else wy p e x : Nat) : Int)) 7 = sL L 49 (fun a => lI (wy p (e + 1) a)) 7 := sL_cg (fun y hy => by rw [if_pos (by omega)])
    rw [e0, e7] at hl
    refine Eq.trans hl ?_
    rw [b_93a_6, if_pos (by rw [t_lt, show (0 : Int32).toInt = 0 from rfl, iI_to (by omega) (by omega)]; omega), b_93a_9, show (1 : Int32) = iI 1 from rfl, iI_add]
    exact l_93a N xs p n hp hn c (e + 1) _ (by omega)
theorem s_93a (p n : Nat) (hp : p ≤ 12) (hn : n ≤ 6) : zc 1 93 [.ref 49, .int (iI p), .int (iI n)] M L none M (sL L 49 (fun a => lI (wy p n a)) 7) := by
  refine zc_of (n := 0) (ls := [some (.ref 49), some (.int (iI p)), some (.int (iI n)), none, none]) mk_93 rfl rfl rfl rfl (fun d hd N xs => ?_)
  rw [b_93a_0]
  have hl := upto (fun k : Nat => zz_X (zz_call_ d) tb_93 1 [some (.ref 49), some (.int (iI p)), some (.int (iI n)), some (.int (iI k)), none] [] (zm N xs M (sL L 49 (fun a => lI (wy p 0 a)) k))) 7 (fun k hk => by
    show zz_X (zz_call_ d) tb_93 1 _ _ _ = zz_X (zz_call_ d) tb_93 1 _ _ _
    have es := sL_s L 49 (fun a => lI (wy p 0 a)) k
    rw [b_93a_1, if_neg (by rw [t_le, show (7 : Int32).toInt = 7 from rfl, iI_to (by omega) (by omega)]; omega)]
    by_cases q : k = 0
    · subst q
      rw [if_pos (show iI ((0 : Nat) : Int) = (0 : Int32) from rfl), b_93a_3, ix_nat (by omega) (by omega), o_some, show (1 : Int64) = (fun a => lI (wy p 0 a : Nat)) 0 from rfl, es]
      rfl
    · rw [if_neg (by rw [t_eq, show (0 : Int32).toInt = 0 from rfl, iI_to (by omega) (by omega)]; omega), b_93a_2, b_93a_3, ix_nat (by omega) (by omega), o_some, show (0 : Int64) = (fun a => lI (wy p 0 a : Nat)) k by
        show (0 : Int64) = lI ((if k = 0 then 1 else 0 : Nat) : Int)
        rw [if_neg q]
        rfl, es, show (1 : Int32) = iI 1 from rfl, iI_add]
      rfl)
  simp only [sL_0] at hl
  refine Eq.trans hl ?_
  rw [b_93a_1, if_pos (by rw [t_le, show (7 : Int32).toInt = 7 from rfl, iI_to (by omega) (by omega)]; omega), b_93a_4]
  exact l_93a M L N xs p n hp hn n 0 none (by omega)
theorem g_93a (p n : Nat) (hp : p ≤ 12) (hn : n ≤ 6) {d N : Nat} {xs : Nat → Int32} {tb_ : List zz_B} {t_ : Nat} {ls_ : zz_L} {rest_ : List Value} (hd_ : 1 ≤ d) : (zz_o (zz_call_ d 93 [.ref 49, .int (iI p), .int (iI n)] (zm N xs M L)) fun r => zz_X (zz_call_ d) tb_ t_ ls_ (r.1.toList ++ rest_) r.2) = zz_X (zz_call_ d) tb_ t_ ls_ rest_ (zm N xs M (sL L 49 (fun a => lI (wy p n a)) 7)) := (s_93a M L p n hp hn).gov hd_
theorem l_93b {d : Nat} (N : Nat) (xs : Nat → Int32) (p n : Nat) (hp : p ≤ 12) (hn : n ≤ 6) : ∀ (c e : Nat) (o : Option Value), e + c = n → zz_X (zz_call_ d) tb_93 5 [some (.ref 50), some (.int (iI p)), some (.int (iI n)), some (.int (iI e)), o] [] (zm N xs M (sL L 50 (fun a => lI (wy p e a)) 7)) = some (none, zm N xs M (sL L 50 (fun a => lI (wy p n a)) 7))
  | 0, e, o, hc => by
    rw [b_93b_5, if_pos (by rw [t_le, iI_to (by omega) (by omega), iI_to (by omega) (by omega)]; omega), b_93b_10, show e = n by omega]
  | c + 1, e, o, hc => by
    rw [b_93b_5, if_neg (by rw [t_le, iI_to (by omega) (by omega), iI_to (by omega) (by omega)]; omega)]
    have hl := upto (fun k : Nat => zz_X (zz_call_ d) tb_93 6 [some (.ref 50), some (.int (iI p)), some (.int (iI n)), some (.int (iI e)), some (.int (iI (6 - (k : Int))))] [] (zm N xs M (sL L 50 (fun x => lI ((if 7 - k ≤ x then wy p (e + 1) x else wy p e x : Nat) : Int)) 7))) 7 (fun k hk => by
      show zz_X (zz_call_ d) tb_93 6 _ _ _ = zz_X (zz_call_ d) tb_93 6 _ _ _
      have eu : zz_wL (sL L 50 (fun x => lI ((if 7 - k ≤ x then wy p (e + 1) x else wy p e x : Nat) : Int)) 7) 50 (6 - k) (lI ((wy p (e + 1) (6 - k) : Nat) : Int)) = sL L 50 (fun x => lI ((if 7 - (k + 1) ≤ x then wy p (e + 1) x else wy p e x : Nat) : Int)) 7 := sL_u (by omega) (fun y hy => by
        by_cases q : y = 6 - k
        · rw [if_pos q, q, if_pos (by omega)]
        · rw [if_neg q]
          by_cases q2 : 7 - k ≤ y
          · rw [if_pos q2, if_pos (by omega)]
          · rw [if_neg q2, if_neg (by omega)])
      have eL : ∀ y, y < 7 - k → sL L 50 (fun x => lI ((if 7 - k ≤ x then wy p (e + 1) x else wy p e x : Nat) : Int)) 7 50 y = lI ((wy p e y : Nat) : Int) := fun y hy => by
        rw [sL_in (show y < 7 by omega)]
        show lI ((if 7 - k ≤ y then wy p (e + 1) y else wy p e y : Nat) : Int) = _
        rw [if_neg (by omega)]
      have ep : (12 - iI p).toInt64 = lI ((12 - p : Nat) : Int) := by rw [show (12 : Int32) = iI 12 from rfl, iI_sub, show (12 : Int) - (p : Int) = ((12 - p : Nat) : Int) by omega, iI_long (by omega) (by omega)]
      rw [b_93b_6, if_neg (by rw [t_lt, show (0 : Int32).toInt = 0 from rfl, iI_to (by omega) (by omega)]; omega), show (6 : Int) - (k : Int) = ((6 - k : Nat) : Int) by omega, ix_nat (by omega) (by omega), o_some, eL (6 - k) (by omega), ep, lI_mul]
      by_cases q : 6 - k = 0
      · rw [if_pos (by rw [q]; rfl), b_93b_8, ix_nat (by omega) (by omega), o_some, show (0 : Int64) = lI 0 from rfl, lI_add, show ((wy p e (6 - k) : Nat) : Int) * ((12 - p : Nat) : Int) + 0 = ((wy p (e + 1) (6 - k) : Nat) : Int) by
          show _ = ((wy p e (6 - k) * (12 - p) + (if 6 - k = 0 then 0 else wy p e (6 - k - 1) * p) : Nat) : Int)
          rw [if_pos q, Nat.add_zero, Int.add_zero]
          exact (Int.natCast_mul _ _).symm, eu, show (-1 : Int32) = iI (-1) from rfl, iI_add, show ((6 - k : Nat) : Int) + -1 = 6 - ((k + 1 : Nat) : Int) by omega]
      · rw [if_neg (by rw [t_eq, show (0 : Int32).toInt = 0 from rfl, iI_to (by omega) (by omega)]; omega), b_93b_7, show (1 : Int32) = iI 1 from rfl, iI_sub, show ((6 - k : Nat) : Int) - 1 = ((6 - k - 1 : Nat) : Int) by omega, ix_nat (by omega) (by omega), o_some, eL (6 - k - 1) (by omega), iI_long (by omega) (by omega), lI_mul, b_93b_8, ix_nat (by omega) (by omega), o_some, lI_add, show ((wy p e (6 - k) : Nat) : Int) * ((12 - p : Nat) : Int) + ((wy p e (6 - k - 1) : Nat) : Int) * (p : Int) = ((wy p (e + 1) (6 - k) : Nat) : Int) by
          show _ = ((wy p e (6 - k) * (12 - p) + (if 6 - k = 0 then 0 else wy p e (6 - k - 1) * p) : Nat) : Int)
          rw [if_neg q, Int.natCast_add, Int.natCast_mul, Int.natCast_mul], eu, show (-1 : Int32) = iI (-1) from rfl, iI_add, show ((6 - k : Nat) : Int) + -1 = 6 - ((k + 1 : Nat) : Int) by omega])
    have e0 : sL L 50 (fun x => lI ((if 7 - 0 ≤ x then wy p (e + 1) x else wy p e x : Nat) : Int)) 7 = sL L 50 (fun a => lI (wy p e a)) 7 := sL_cg (fun y hy => by rw [if_neg (by omega)])
    have e7 : sL L 50 (fun x => lI ((if 7 - 7 ≤ x then wy p (e + 1) x else wy p e x : Nat) : Int)) 7 = sL L 50 (fun a => lI (wy p (e + 1) a)) 7 := sL_cg (fun y hy => by rw [if_pos (by omega)])
    rw [e0, e7] at hl
    refine Eq.trans hl ?_
    rw [b_93b_6, if_pos (by rw [t_lt, show (0 : Int32).toInt = 0 from rfl, iI_to (by omega) (by omega)]; omega), b_93b_9, show (1 : Int32) = iI 1 from rfl, iI_add]
    exact l_93b N xs p n hp hn c (e + 1) _ (by omega)
theorem s_93b (p n : Nat) (hp : p ≤ 12) (hn : n ≤ 6) : zc 1 93 [.ref 50, .int (iI p), .int (iI n)] M L none M (sL L 50 (fun a => lI (wy p n a)) 7) := by
  refine zc_of (n := 0) (ls := [some (.ref 50), some (.int (iI p)), some (.int (iI n)), none, none]) mk_93 rfl rfl rfl rfl (fun d hd N xs => ?_)
  rw [b_93b_0]
  have hl := upto (fun k : Nat => zz_X (zz_call_ d) tb_93 1 [some (.ref 50), some (.int (iI p)), some (.int (iI n)), some (.int (iI k)), none] [] (zm N xs M (sL L 50 (fun a => lI (wy p 0 a)) k))) 7 (fun k hk => by
    show zz_X (zz_call_ d) tb_93 1 _ _ _ = zz_X (zz_call_ d) tb_93 1 _ _ _
    have es := sL_s L 50 (fun a => lI (wy p 0 a)) k
    rw [b_93b_1, if_neg (by rw [t_le, show (7 : Int32).toInt = 7 from rfl, iI_to (by omega) (by omega)]; omega)]
    by_cases q : k = 0
    · subst q
      rw [if_pos (show iI ((0 : Nat) : Int) = (0 : Int32) from rfl), b_93b_3, ix_nat (by omega) (by omega), o_some, show (1 : Int64) = (fun a => lI (wy p 0 a : Nat)) 0 from rfl, es]
      rfl
    · rw [if_neg (by rw [t_eq, show (0 : Int32).toInt = 0 from rfl, iI_to (by omega) (by omega)]; omega), b_93b_2, b_93b_3, ix_nat (by omega) (by omega), o_some, show (0 : Int64) = (fun a => lI (wy p 0 a : Nat)) k by
        show (0 : Int64) = lI ((if k = 0 then 1 else 0 : Nat) : Int)
        rw [if_neg q]
        rfl, es, show (1 : Int32) = iI 1 from rfl, iI_add]
      rfl)
  simp only [sL_0] at hl
  refine Eq.trans hl ?_
  rw [b_93b_1, if_pos (by rw [t_le, show (7 : Int32).toInt = 7 from rfl, iI_to (by omega) (by omega)]; omega), b_93b_4]
  exact l_93b M L N xs p n hp hn n 0 none (by omega)
theorem g_93b (p n : Nat) (hp : p ≤ 12) (hn : n ≤ 6) {d N : Nat} {xs : Nat → Int32} {tb_ : List zz_B} {t_ : Nat} {ls_ : zz_L} {rest_ : List Value} (hd_ : 1 ≤ d) : (zz_o (zz_call_ d 93 [.ref 50, .int (iI p), .int (iI n)] (zm N xs M L)) fun r => zz_X (zz_call_ d) tb_ t_ ls_ (r.1.toList ++ rest_) r.2) = zz_X (zz_call_ d) tb_ t_ ls_ rest_ (zm N xs M (sL L 50 (fun a => lI (wy p n a)) 7)) := (s_93b M L p n hp hn).gov hd_
theorem s_246 (a n p : Nat) (ha : a ≤ n) (hn : n ≤ 6) (hp : p ≤ 12) : zc 1 246 [.int (iI a), .int (iI n), .int (iI p)] M L (some (.long (lI (wf a n p)))) M L := by
  refine zc_of (n := 0) (ls := [some (.int (iI a)), some (.int (iI n)), some (.int (iI p)), none, none, none, none, none]) mk_246 rfl rfl rfl rfl (fun d hd N xs => ?_)
  have ep : (12 - iI p).toInt64 = lI ((12 - p : Nat) : Int) := by rw [show (12 : Int32) = iI 12 from rfl, iI_sub, show (12 : Int) - (p : Int) = ((12 - p : Nat) : Int) by omega, iI_long (by omega) (by omega)]
  rw [b_246_0]
  have hl := upto (fun k : Nat => zz_X (zz_call_ d) tb_246 1 [some (.int (iI a)), some (.int (iI n)), some (.int (iI p)), some (.long (lI (wfA a p k))), none, some (.int (iI k)), none, none] [] (zm N xs M L)) n (fun k hk => by
    show zz_X (zz_call_ d) tb_246 1 _ _ _ = zz_X (zz_call_ d) tb_246 1 _ _ _
    have ew : wfA a p (k + 1) = wfA a p k * (if k < a then p else 12 - p) := rfl
    rw [b_246_1, if_neg (by rw [t_le, iI_to (by omega) (by omega), iI_to (by omega) (by omega)]; omega)]
    by_cases q : k < a
    · rw [if_neg (by rw [t_le, iI_to (by omega) (by omega), iI_to (by omega) (by omega)]; omega), b_246_3, iI_long (by omega) (by omega), lI_mul, ew, if_pos q, show (1 : Int32) = iI 1 from rfl, iI_add, Int.natCast_mul]
      rfl
    · rw [if_pos (by rw [t_le, iI_to (by omega) (by omega), iI_to (by omega) (by omega)]; omega), b_246_2, b_246_3, ep, lI_mul, ew, if_neg q, show (1 : Int32) = iI 1 from rfl, iI_add, Int.natCast_mul]
      rfl)
  refine Eq.trans hl ?_
  show zz_X (zz_call_ d) tb_246 1 _ _ _ = _
  rw [b_246_1, if_pos (by rw [t_le]; omega), b_246_4]
  have hl2 := upto (fun k : Nat => zz_X (zz_call_ d) tb_246 5 [some (.int (iI a)), some (.int (iI n)), some (.int (iI p)), some (.long (lI (wfA a p n))), none, some (.long (lI (wfB n k))), none, some (.int (iI k))] [] (zm N xs M L)) a (fun k hk => by
    show zz_X (zz_call_ d) tb_246 5 _ _ _ = zz_X (zz_call_ d) tb_246 5 _ _ _
    have ew : wfB n (k + 1) = wfB n k * (n - k) / (k + 1) := rfl
    have hb := wfB_b n (by omega) k (by omega)
    have hb2 : wfB n k * (n - k) ≤ 1000 * 6 := Nat.mul_le_mul hb (by omega)
    have e1 : (iI k + 1).toInt64 = lI ((k + 1 : Nat) : Int) := by rw [show (1 : Int32) = iI 1 from rfl, iI_add, show (k : Int) + 1 = ((k + 1 : Nat) : Int) from rfl, iI_long (by omega) (by omega)]
    have e2 : (iI n - iI k).toInt64 = lI ((n - k : Nat) : Int) := by rw [iI_sub, show (n : Int) - (k : Int) = ((n - k : Nat) : Int) by omega, iI_long (by omega) (by omega)]
    rw [b_246_5, if_neg (by rw [t_le, iI_to (by omega) (by omega), iI_to (by omega) (by omega)]; omega), e1, if_neg (fun e => by have := (lz1 (by omega)).1 e; omega), e2, lI_mul, show ((wfB n k : Nat) : Int) * ((n - k : Nat) : Int) = ((wfB n k * (n - k) : Nat) : Int) from rfl, lI_div (by omega) (by omega) (by omega) (by omega), show ((wfB n k * (n - k) : Nat) : Int).tdiv ((k + 1 : Nat) : Int) = ((wfB n k * (n - k) / (k + 1) : Nat) : Int) from rfl, ew, show (1 : Int32) = iI 1 from rfl, iI_add]
    rfl)
  refine Eq.trans hl2 ?_
  show zz_X (zz_call_ d) tb_246 5 _ _ _ = _
  rw [b_246_5, if_pos (by rw [t_le]; omega), b_246_6, lI_mul]
  rfl
theorem g_246 (a n p : Nat) (ha : a ≤ n) (hn : n ≤ 6) (hp : p ≤ 12) {d N : Nat} {xs : Nat → Int32} {tb_ : List zz_B} {t_ : Nat} {ls_ : zz_L} {rest_ : List Value} (hd_ : 1 ≤ d) : (zz_o (zz_call_ d 246 [.int (iI a), .int (iI n), .int (iI p)] (zm N xs M L)) fun r => zz_X (zz_call_ d) tb_ t_ ls_ (r.1.toList ++ rest_) r.2) = zz_X (zz_call_ d) tb_ t_ ls_ ((.long (lI (wf a n p))) :: rest_) (zm N xs M L) := (s_246 M L a n p ha hn hp).go hd_
end ZR

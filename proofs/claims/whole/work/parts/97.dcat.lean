/-! she and the cat, of both. -/
def sgm (mv : Nat) : Int := if mv % 2 = 0 then 1 else -1
def sh (a : Nat → Int) (mv : Nat) : Nat → Int := fun i => if i = mv / 2 then (a i + sgm mv) % 60 else a i
def Bd (a : Nat → Int) : Prop := ∀ i, 0 ≤ a i ∧ a i < 60
theorem sgm_c (mv : Nat) : sgm mv = 1 ∨ sgm mv = -1 := by
  unfold sgm
  split
  · exact Or.inl rfl
  · exact Or.inr rfl
theorem sh_b {a : Nat → Int} (h : Bd a) (mv : Nat) : Bd (sh a mv) := fun i => by
  have := h i
  show 0 ≤ (if i = mv / 2 then (a i + sgm mv) % 60 else a i) ∧ (if i = mv / 2 then (a i + sgm mv) % 60 else a i) < 60
  split <;> omega
abbrev mtA (V : Vw) (a : Nat → Int) (i j : Nat) : Prop := met (a i) (span (V.kind i)) (a j) (span (V.kind j))
def eB (V : Vw) : Nat → (Nat → Int) → Bool
  | 0, a => decide (¬ anyP (mtA V a) V.n)
  | t + 1, a => if (t + 1) % 2 = 0 then decide (0 < cZ (fun mv => eB V t (sh a mv) = true) (2 * V.n)) else decide (cZ (fun mv => eB V t (sh a mv) = false) (2 * V.n) = 0)
/-- the board -/
def Bo (V : Vw) (a : Nat → Int) (M : Nat → Nat → Int32) (L : Nat → Nat → Int64) : Prop := M 46 1 = iI V.n ∧ ∀ i, i < V.n → L 47 i = lI (rg (a i).toNat (span (V.kind i)))
theorem Bo.ms {V : Vw} {a : Nat → Int} {M : Nat → Nat → Int32} {L : Nat → Nat → Int64} (hk : Vk V) (h : Bo V a M L) : Ms 46 V.n (fun i => rg (a i).toNat (span (V.kind i))) M L := ⟨hk.n, h.1, fun i => tn_lt _ _, fun i hi => h.2 i hi⟩
theorem wL_val (L : Nat → Nat → Int64) (c k : Nat) (v : Int64) (b j : Nat) : zz_wL L c k v b j = if b = c ∧ j = k then v else L b j := by
  unfold zz_wL zz_rL vp_updL
  by_cases q : b = c
  · subst q
    by_cases q2 : j = k
    · subst q2; simp
    · simp [q2]
  · simp [q]
theorem wL_w {L : Nat → Nat → Int64} {c k : Nat} {v w : Int64} (h : L c k = w) : zz_wL (zz_wL L c k v) c k w = L := by
  funext b j
  rw [wL_val, wL_val]
  by_cases q : b = c ∧ j = k
  · rw [if_pos q, q.1, q.2, h]
  · rw [if_neg q, if_neg q]
theorem mv_d {mv : Nat} (h : mv < 1000) : iI mv / 2 = iI ((mv / 2 : Nat) : Int) := by
  rw [show (2 : Int32) = iI 2 from rfl, iI_div (by omega) (by omega) (by omega) (by omega)]
  rfl
theorem mv_r {mv : Nat} (h : mv < 1000) : iI mv - iI mv / 2 * 2 = iI ((mv % 2 : Nat) : Int) := by
  rw [show (2 : Int32) = iI 2 from rfl, iI_rem (by omega) (by omega) (by omega) (by omega)]
  rfl
theorem mv_z {mv : Nat} (h : mv < 1000) : (iI mv - iI mv / 2 * 2 = 0) ↔ mv % 2 = 0 := by
  rw [mv_r h, t_eq, iI_to (by omega) (by omega), show (0 : Int32).toInt = 0 from rfl]
  omega
section ZR
variable (M : Nat → Nat → Int32) (L : Nat → Nat → Int64)
theorem s_71 (V : Vw) (hk : Vk V) (a : Nat → Int) (ha : Bd a) (hb : Bo V a M L) (i : Nat) (hi : i < V.n) (y : Int) (hy : y = 1 ∨ y = -1) : zc 2 71 [.ref 46, .int (iI i), .int (iI y)] M L none M (zz_wL L 47 i (lI (rg ((a i + y) % 60).toNat (span (V.kind i))))) := by
  refine zc_of (n := 1) (ls := [some (.ref 46), some (.int (iI i)), some (.int (iI y))]) mk_71 rfl rfl rfl rfl (fun d hd N xs => ?_)
  have hn := hk.n
  have hai := ha i
  have hs := span_b (V.kind i)
  have hl : rg (a i).toNat (span (V.kind i)) < 2 ^ 60 := tn_lt _ _
  obtain ⟨r, hr⟩ : ∃ r : Nat, y % 60 = r := ⟨(y % 60).toNat, by omega⟩
  have et : tn (rg (a i).toNat (span (V.kind i))) r = rg ((a i + y) % 60).toNat (span (V.kind i)) := by
    rw [tn_rg (by omega) (by omega) (by omega)]
    congr 1
    omega
  rw [b_71_0, g_64b M L V.n _ (hb.ms hk) i hi (by omega), b_71_1, if_neg (show ¬ iI 1 = (0 : Int32) from iI10), ix_nat (by omega) (by omega), o_some, hb.2 i hi, g_153 M L y (by omega) (by omega) (by omega), hr, b_71_2, g_155 M L _ r hl (by omega) (by omega), et, b_71_3, ix_nat (by omega) (by omega), o_some, b_71_4]
theorem g_71 (V : Vw) (hk : Vk V) (a : Nat → Int) (ha : Bd a) (hb : Bo V a M L) (i : Nat) (hi : i < V.n) (y : Int) (hy : y = 1 ∨ y = -1) {d N : Nat} {xs : Nat → Int32} {tb_ : List zz_B} {t_ : Nat} {ls_ : zz_L} {rest_ : List Value} (hd_ : 2 ≤ d) : (zz_o (zz_call_ d 71 [.ref 46, .int (iI i), .int (iI y)] (zm N xs M L)) fun r => zz_X (zz_call_ d) tb_ t_ ls_ (r.1.toList ++ rest_) r.2) = zz_X (zz_call_ d) tb_ t_ ls_ rest_ (zm N xs M (zz_wL L 47 i (lI (rg ((a i + y) % 60).toNat (span (V.kind i)))))) := (s_71 M L V hk a ha hb i hi y hy).gov hd_
end ZR
theorem rel_a {V : Vw} {a : Nat → Int} (ha : Bd a) (i j : Nat) : rel (fun i => rg (a i).toNat (span (V.kind i))) i j ↔ mtA V a i j := by
  have h1 := ha i
  have h2 := ha j
  have h3 := span_b (V.kind i)
  have h4 := span_b (V.kind j)
  have := met_bits (a := (a i).toNat) (b := (a j).toNat) (s := span (V.kind i)) (t := span (V.kind j)) (by omega) (by omega) (by omega) (by omega)
  rw [show (((a i).toNat : Nat) : Int) = a i by omega, show (((a j).toNat : Nat) : Int) = a j by omega] at this
  exact this
theorem any_a {V : Vw} {a : Nat → Int} (ha : Bd a) : anyP (rel (fun i => rg (a i).toNat (span (V.kind i)))) V.n ↔ anyP (mtA V a) V.n := by
  constructor
  · rintro ⟨j, hj, i, hi, h⟩; exact ⟨j, hj, i, hi, (rel_a ha i j).1 h⟩
  · rintro ⟨j, hj, i, hi, h⟩; exact ⟨j, hj, i, hi, (rel_a ha i j).2 h⟩
theorem b2B (b : Bool) : b2 (b = true) = if b then iI 1 else iI 0 := by cases b <;> rfl
section ZL
variable {V : Vw}
theorem x_91 (hk : Vk V) (t : Nat) (ht : t ≤ 3) (IH : ∀ (a : Nat → Int) (M : Nat → Nat → Int32) (L : Nat → Nat → Int64), Bd a → Bo V a M L → zc (2 * t + 3) 90 [.ref 45, .int (iI t)] M L (some (.int (b2 (eB V t a = true)))) M L) (a : Nat → Int) (M : Nat → Nat → Int32) (L : Nat → Nat → Int64) (ha : Bd a) (hb : Bo V a M L) (mv : Nat) (hm : mv < 2 * V.n) : zc (2 * t + 4) 91 [.ref 45, .int (iI mv), .int (iI ((t + 1 : Nat) : Int))] M L (some (.int (b2 (eB V t (sh a mv) = true)))) M L := by
  have hn := hk.n
  have hs := sh_b ha mv
  have ei : (sh a mv) (mv / 2) = (a (mv / 2) + sgm mv) % 60 := if_pos rfl
  have hb1 : Bo V (sh a mv) M (zz_wL L 47 (mv / 2) (lI (rg ((a (mv / 2) + sgm mv) % 60).toNat (span (V.kind (mv / 2)))))) := by
    refine ⟨hb.1, fun i hi => ?_⟩
    rw [wL_val]
    by_cases q : i = mv / 2
    · rw [if_pos ⟨rfl, q⟩, q, ei]
    · rw [if_neg (fun e => q e.2), hb.2 i hi, show sh a mv i = a i from if_neg q]
  have hai := ha (mv / 2)
  have hsg := sgm_c mv
  refine zc_of (n := 2 * t + 3) (ls := [some (.ref 45), some (.int (iI mv)), some (.int (iI ((t + 1 : Nat) : Int))), none, none]) mk_91 rfl rfl rfl rfl (fun d hd N xs => ?_)
  have back : zz_wL (zz_wL L 47 (mv / 2) (lI (rg ((a (mv / 2) + sgm mv) % 60).toNat (span (V.kind (mv / 2)))))) 47 (mv / 2) (lI (rg (((sh a mv) (mv / 2) + -sgm mv) % 60).toNat (span (V.kind (mv / 2))))) = L := by
    rw [ei, show ((a (mv / 2) + sgm mv) % 60 + -sgm mv) % 60 = a (mv / 2) by omega]
    exact wL_w (hb.2 (mv / 2) (by omega))
  have l2 : ∀ y : Int, sgm mv = y → zz_X (zz_call_ d) tb_91 2 [some (.ref 45), some (.int (iI mv)), some (.int (iI ((t + 1 : Nat) : Int))), none, none] [.int (iI y)] (zm N xs M L) = some (some (.int (b2 (eB V t (sh a mv) = true))), zm N xs M L) := by
    intro y hy
    rw [b_91_2, mv_d (by omega), ← hy, g_71 M L V hk a ha hb (mv / 2) (by omega) (sgm mv) hsg (by omega), b_91_3, show (1 : Int32) = iI 1 from rfl, iI_sub, show ((t + 1 : Nat) : Int) - 1 = ((t : Nat) : Int) by omega, (IH _ _ _ hs hb1).go (by omega), b_91_4, mv_d (by omega), iI_neg, g_71 M _ V hk (sh a mv) hs hb1 (mv / 2) (by omega) (-sgm mv) (by omega) (by omega), back, b_91_5, if_pos (b2_zo _)]
  rw [b_91_0]
  by_cases q : mv % 2 = 0
  · rw [if_pos ((mv_z (by omega)).2 q)]
    exact l2 1 (if_pos q)
  · rw [if_neg (fun e => q ((mv_z (by omega)).1 e)), b_91_1]
    exact l2 (-1) (if_neg q)
theorem x_90 (hk : Vk V) : ∀ (t : Nat), t ≤ 4 → ∀ (a : Nat → Int) (M : Nat → Nat → Int32) (L : Nat → Nat → Int64), Bd a → Bo V a M L → zc (2 * t + 3) 90 [.ref 45, .int (iI t)] M L (some (.int (b2 (eB V t a = true)))) M L
  | 0, ht, a, M, L, ha, hb => by
    refine zc_of (n := 2) (ls := [some (.ref 45), some (.int (iI ((0 : Nat) : Int))), none, none]) mk_90 rfl rfl rfl rfl (fun d hd N xs => ?_)
    have g := g_65b (d := d) (N := N) (xs := xs) (tb_ := tb_90) (t_ := 2) (ls_ := [some (.ref 45), some (.int (iI ((0 : Nat) : Int))), none, none]) (rest_ := []) M L V.n _ (hb.ms hk) (by omega)
    rw [b_90_0, if_pos (by decide), b_90_1]
    refine Eq.trans g ?_
    have hA := any_a (V := V) ha
    show _ = some (some (Value.int (b2 (decide (¬ anyP (mtA V a) V.n) = true))), zm N xs M L)
    by_cases q : anyP (mtA V a) V.n
    · rw [b2_t (hA.2 q), b_90_2, if_neg (show ¬ iI 1 = (0 : Int32) from iI10), b_90_3, b_90_4, if_pos (Or.inl rfl), b2_f (by simp [q])]
      rfl
    · rw [b2_f (fun e => q (hA.1 e)), b_90_2, if_pos (show iI 0 = (0 : Int32) from rfl), b_90_4, if_pos (Or.inr rfl), b2_t (by simp [q])]
      rfl
  | t + 1, ht, a, M, L, ha, hb => by
    have hn := hk.n
    have h91 := x_91 hk t (by omega) (fun a M L h1 h2 => x_90 hk t (by omega) a M L h1 h2) a M L ha hb
    have e2 : ∀ d N xs v (k : Nat), k ≤ 100 → zz_X (zz_call_ d) tb_90 8 [some (.ref 45), some (.int (iI ((t + 1 : Nat) : Int))), some (.int v), some (.int (iI k))] [] (zm N xs M L) = if 2 * V.n ≤ k then zz_X (zz_call_ d) tb_90 11 [some (.ref 45), some (.int (iI ((t + 1 : Nat) : Int))), some (.int v), some (.int (iI k))] [] (zm N xs M L) else zz_o (zz_call_ d 91 [.ref 45, .int (iI k), .int (iI ((t + 1 : Nat) : Int))] (zm N xs M L)) fun r => zz_X (zz_call_ d) tb_90 9 [some (.ref 45), some (.int (iI ((t + 1 : Nat) : Int))), some (.int v), some (.int (iI k))] (r.1.toList ++ []) r.2 := by
      intro d N xs v k hk2
      rw [b_90_8, hb.1, show (2 : Int32) = iI 2 from rfl, iI_mul, show (2 : Int) * (V.n : Int) = ((2 * V.n : Nat) : Int) by omega]
      by_cases e : 2 * V.n ≤ k
      · rw [if_pos e, if_pos (by rw [t_le, iI_to (by omega) (by omega), iI_to (by omega) (by omega)]; omega)]
      · rw [if_neg e, if_neg (by rw [t_le, iI_to (by omega) (by omega), iI_to (by omega) (by omega)]; omega)]
    refine zc_of (n := 2 * t + 4) (ls := [some (.ref 45), some (.int (iI ((t + 1 : Nat) : Int))), none, none]) mk_90 rfl rfl rfl rfl (fun d hd N xs => ?_)
    have eE : eB V (t + 1) a = if (t + 1) % 2 = 0 then decide (0 < cZ (fun mv => eB V t (sh a mv) = true) (2 * V.n)) else decide (cZ (fun mv => eB V t (sh a mv) = false) (2 * V.n) = 0) := rfl
    rw [b_90_0, if_neg (by rw [t_le, show (0 : Int32).toInt = 0 from rfl, iI_to (by omega) (by omega)]; omega), if_pos (by rw [t_le, show (4 : Int32).toInt = 4 from rfl, iI_to (by omega) (by omega)]; omega), b_90_5, eE]
    by_cases q : (t + 1) % 2 = 0
    · rw [if_pos ((mv_z (by omega)).2 q), if_pos q, b_90_7]
      have loop : ∀ c k : Nat, k + c = 2 * V.n → cZ (fun mv => eB V t (sh a mv) = true) k = 0 → zz_X (zz_call_ d) tb_90 8 [some (.ref 45), some (.int (iI ((t + 1 : Nat) : Int))), some (.int 1), some (.int (iI k))] [] (zm N xs M L) = some (some (.int (b2 (decide (0 < cZ (fun mv => eB V t (sh a mv) = true) (2 * V.n)) = true))), zm N xs M L) := by
        intro c
        induction c with
        | zero =>
          intro k hc hz
          rw [e2 d N xs 1 k (by omega), if_pos (by omega), b_90_11, if_neg (by decide), b_90_12, b_90_13, if_pos (Or.inl rfl), b2_f (by rw [decide_eq_true_eq, show 2 * V.n = k by omega, hz]; omega)]
          rfl
        | succ c ih =>
          intro k hc hz
          rw [e2 d N xs 1 k (by omega), if_neg (by omega), (h91 k (by omega)).go (by omega), b_90_9]
          by_cases q2 : eB V t (sh a k) = true
          · have hmo := cZ_mono (fun mv => eB V t (sh a mv) = true) (show k + 1 ≤ 2 * V.n by omega)
            rw [cZ_t (p := fun mv => eB V t (sh a mv) = true) q2] at hmo
            rw [b2_t q2, if_pos (show iI 1 = (1 : Int32) from rfl), if_pos (Or.inr rfl), b2_t (by rw [decide_eq_true_eq]; omega)]
            rfl
          · rw [b2_f q2, if_neg (show ¬ iI 0 = (1 : Int32) by decide), b_90_10, show (1 : Int32) = iI 1 from rfl, iI_add]
            exact ih (k + 1) (by omega) (by rw [cZ_f (p := fun mv => eB V t (sh a mv) = true) q2]; exact hz)
      exact loop (2 * V.n) 0 (by omega) rfl
    · rw [if_neg (fun e => q ((mv_z (by omega)).1 e)), if_neg q, b_90_6, b_90_7]
      have loop : ∀ c k : Nat, k + c = 2 * V.n → cZ (fun mv => eB V t (sh a mv) = false) k = 0 → zz_X (zz_call_ d) tb_90 8 [some (.ref 45), some (.int (iI ((t + 1 : Nat) : Int))), some (.int 0), some (.int (iI k))] [] (zm N xs M L) = some (some (.int (b2 (decide (cZ (fun mv => eB V t (sh a mv) = false) (2 * V.n) = 0) = true))), zm N xs M L) := by
        intro c
        induction c with
        | zero =>
          intro k hc hz
          rw [e2 d N xs 0 k (by omega), if_pos (by omega), b_90_11, if_pos rfl, b_90_13, if_pos (Or.inr rfl), b2_t (by rw [decide_eq_true_eq, show 2 * V.n = k by omega]; exact hz)]
          rfl
        | succ c ih =>
          intro k hc hz
          rw [e2 d N xs 0 k (by omega), if_neg (by omega), (h91 k (by omega)).go (by omega), b_90_9]
          by_cases q2 : eB V t (sh a k) = true
          · rw [b2_t q2, if_neg (show ¬ iI 1 = (0 : Int32) from iI10), b_90_10, show (1 : Int32) = iI 1 from rfl, iI_add]
            exact ih (k + 1) (by omega) (by rw [cZ_f (p := fun mv => eB V t (sh a mv) = false) (by rw [q2]; exact Bool.false_ne_true.symm)]; exact hz)
          · have q3 : eB V t (sh a k) = false := by cases h : eB V t (sh a k) with
              | true => exact absurd h q2
              | false => rfl
            have hmo := cZ_mono (fun mv => eB V t (sh a mv) = false) (show k + 1 ≤ 2 * V.n by omega)
            rw [cZ_t (p := fun mv => eB V t (sh a mv) = false) q3] at hmo
            rw [b2_f q2, if_pos (show iI 0 = (0 : Int32) from rfl), if_pos (Or.inl rfl), b2_f (by rw [decide_eq_true_eq]; omega)]
            rfl
      exact loop (2 * V.n) 0 (by omega) rfl
end ZL

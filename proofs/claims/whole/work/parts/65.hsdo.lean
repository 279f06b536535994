/-! what holds behind a deed. -/
theorem run_cg (V : Vw) {D E : Nat → Nat} : ∀ m, (∀ k, k < m → D k = E k) → V.run D m = V.run E m
  | 0, _ => rfl
  | m + 1, h => by
    show (V.run D m).step (D m) = (V.run E m).step (E m)
    rw [run_cg V m (fun k hk => h k (by omega)), h m (by omega)]
theorem Hv.c2 {V : Vw} {M M' : Nat → Nat → Int32} (h : Hv V M) (ee : ∀ c, 23 ≤ c → c ≤ 35 → M' c = M c) : Hv V M' := by
  refine ⟨?_, ?_, ?_, ?_, ?_, ?_, ?_, ?_, ?_⟩
  · rw [ee _ (by omega) (by omega)]; exact h.n
  · rw [ee _ (by omega) (by omega)]; exact h.hc
  · rw [ee _ (by omega) (by omega)]; exact h.day
  · rw [ee _ (by omega) (by omega)]; exact h.tset
  · intro k hk; rw [ee _ (by omega) (by omega)]; exact h.heat k hk
  · intro k hk; rw [ee _ (by omega) (by omega)]; exact h.kind k hk
  · intro k hk; rw [ee _ (by omega) (by omega)]; exact h.rate k hk
  · intro k hk; rw [ee _ (by omega) (by omega)]; exact h.floor k hk
  · intro k hk; rw [ee _ (by omega) (by omega)]; exact h.minute k hk
def dup (D : Nat → Nat) (m d : Nat) : Nat → Nat := fun k => if k = m then d else D k
theorem dup_ne {D : Nat → Nat} {m d k : Nat} (h : k ≠ m) : dup D m d k = D k := if_neg h
theorem dup_at {D : Nat → Nat} {m d : Nat} : dup D m d m = d := if_pos rfl
/-- what the house is, taken apart -/
def HD (M : Nat → Nat → Int32) (V : Vw) (D : Nat → Nat) (m : Nat) (K : Nat → Int) (E : Nat → Nat → Nat) : Prop := Vk V ∧ V.day = 0 ∧ V.tset = 0 ∧ V.n = V.n ∧ M 23 13 = iI m ∧ M 52 1 = iI m ∧ (∀ i, i < V.n → M 26 i = iI (V.minute i)) ∧ (∀ k, k < m → M 30 k = iI (D k)) ∧ Hv (V.run D m) M ∧ His V D m (M 53) 0 ∧ ∀ j, j < 3 → M 35 j = iI (K j) ∧ M 54 j = iI (K j) ∧ -1 ≤ K j ∧ K j ≤ 40 ∧ (0 ≤ K j → (∀ k : Nat, (k : Int) < K j → M (32 + j) k = iI (E j k)) ∧ His V (E j) (K j).toNat (M 53) (1640 * (j + 1)))
theorem HS.hd {M : Nat → Nat → Int32} (h : HS M) : ∃ V D m K E, HD M V D m K E := h
theorem HD.hs {M : Nat → Nat → Int32} {V : Vw} {D : Nat → Nat} {m : Nat} {K : Nat → Int} {E : Nat → Nat → Nat} (h : HD M V D m K E) : HS M := ⟨V, D, m, K, E, h⟩
theorem HD.nk {M : Nat → Nat → Int32} {V : Vw} {D : Nat → Nat} {m : Nat} {K : Nat → Int} {E : Nat → Nat → Nat} (h : HD M V D m K E) : Vk (V.run D m) := run_k h.1 h.2.1 m h.2.2.2.2.2.2.2.2.2.1.1 h.2.2.2.2.2.2.2.2.2.1.2.1
theorem HD.act {M M2 : Nat → Nat → Int32} {V : Vw} {D : Nat → Nat} {m : Nat} {K : Nat → Int} {E : Nat → Nat → Nat} {x : Nat} (h : HD M V D m K E) (hm : m < 40) (hx : dOk V.n x) (hn0 : V.n ≠ 0)
    (c : ∀ c, 23 ≤ c → c ≤ 35 → M2 c = pf (V.run D m) M m x c) (e52 : M2 52 1 = iI ((m + 1 : Nat) : Int)) (e54 : M2 54 = M 54)
    (w0 : Rv ((V.run D m).step x) (M2 53) 0) (w1 : ∀ k, k < 40 → M2 53 (40 * (m + 1) + k) = M 53 k) (w2 : ∀ k, 40 ≤ k → k < 6560 → (k < 40 * (m + 1) ∨ 40 * (m + 1) + 40 ≤ k) → M2 53 k = M 53 k) : HD M2 V (dup D m x) (m + 1) K E := by
  obtain ⟨h1, h2, h3, h4, h5, h6, h7, h8, h9, h10, h11⟩ := h
  have er : V.run (dup D m x) m = V.run D m := run_cg V m (fun k hk => dup_ne (by omega))
  have er1 : V.run (dup D m x) (m + 1) = (V.run D m).step x := by
    show (V.run (dup D m x) m).step (dup D m x m) = _
    rw [er, dup_at]
  have hk := run_k (D := D) h1 h2 m h10.1 h10.2.1
  have hp := pf_h hk h9 m x
  have hcn : ∀ c, 23 ≤ c → c ≤ 35 → c ≠ 23 → c ≠ 29 → c ≠ 30 → M2 c = M c := fun c' a1 a2 a3 a4 a5 => by rw [c c' a1 a2, pf_ne _ _ _ _ a3 a4 a5]
  refine ⟨h1, h2, h3, rfl, ?_, e52, ?_, ?_, ?_, ⟨by omega, ?_, ?_, ?_⟩, ?_⟩
  · rw [c 23 (by omega) (by omega), pf_13]
  · intro i hi
    rw [hcn 26 (by omega) (by omega) (by omega) (by omega) (by omega)]
    exact h7 i hi
  · intro k hkm
    rw [c 30 (by omega) (by omega), pf_30]
    unfold upd
    by_cases q : k = m
    · rw [if_pos q, q, dup_at]
    · rw [if_neg q, dup_ne q]
      exact h8 k (by omega)
  · rw [er1]
    exact hp.c2 c
  · intro k hkm
    by_cases q : k = m
    · rw [q, dup_at]; exact hx
    · rw [dup_ne q]; exact h10.2.1 k (by omega)
  · rw [er1]; exact w0
  · intro k hkm
    by_cases q : k = m
    · subst q
      rw [er]
      refine Rv.cg (b := 0) hk.n hk.hc h10.2.2.1 (fun j hj => ?_)
      rw [Nat.zero_add, Nat.zero_add]
      exact w1 j hj
    · rw [run_cg V (E := D) k (fun j hj => dup_ne (by omega))]
      have hkk := run_k (D := D) h1 h2 k (by omega) (fun j hj => h10.2.1 j (by omega))
      refine Rv.cg (b := 0 + 40 * (k + 1)) hkk.n hkk.hc (h10.2.2.2 k (by omega)) (fun j hj => ?_)
      exact w2 _ (by omega) (by omega) (by omega)
  · intro j hj
    obtain ⟨a1, a2, a3, a4, a5⟩ := h11 j hj
    refine ⟨?_, ?_, a3, a4, fun q => ⟨fun k hkk => ?_, ?_⟩⟩
    · rw [hcn 35 (by omega) (by omega) (by omega) (by omega) (by omega)]; exact a1
    · rw [e54]; exact a2
    · rw [hcn (32 + j) (by omega) (by omega) (by omega) (by omega) (by omega)]; exact (a5 q).1 k hkk
    · exact (a5 q).2.cg h1 (fun k hkk => w2 _ (by omega) (by omega) (by omega))
/-- the reference's record behind a day, behind a touch -/
def rwD (V : Vw) (M : Nat → Nat → Int32) (m : Nat) : Nat → Nat → Int32 := zz_wI (zz_rI (zz_wI (zz_rI M 53 (va_cpy (M 53) (M 53) 0 (40 * (m + 1)) 40)) 52 1 (iI ((m + 1 : Nat) : Int))) 53 (wP V (va_cpy (M 53) (M 53) 0 (40 * (m + 1)) 40) V.n)) 53 1 (iI ((V.day + 1 : Nat) : Int))
def rwT (V : Vw) (M : Nat → Nat → Int32) (m i : Nat) (y : Int) : Nat → Nat → Int32 := zz_wI (zz_wI (zz_wI (zz_rI M 53 (va_cpy (M 53) (M 53) 0 (40 * (m + 1)) 40)) 52 1 (iI ((m + 1 : Nat) : Int))) 53 (28 + i) (iI ((V.minute i + y) % 60))) 53 (34 + i) (iI 1)
theorem cp_lo {w : Nat → Int32} {m k : Nat} (h : k < 40) : va_cpy w w 0 (40 * (m + 1)) 40 k = w k := c_out (by omega)
theorem cp_in {w : Nat → Int32} {m k : Nat} (h : k < 40) : va_cpy w w 0 (40 * (m + 1)) 40 (40 * (m + 1) + k) = w k := by
  rw [c_in (by omega) (by omega)]
  congr 1
  omega
theorem cp_out {w : Nat → Int32} {m k : Nat} (h : k < 40 * (m + 1) ∨ 40 * (m + 1) + 40 ≤ k) : va_cpy w w 0 (40 * (m + 1)) 40 k = w k := c_out (by omega)
theorem cp_Rv {V : Vw} {w : Nat → Int32} {m : Nat} (hk : Vk V) (h : Rv V w 0) : Rv V (va_cpy w w 0 (40 * (m + 1)) 40) 0 := Rv.cg hk.n hk.hc h (fun k hk => by rw [Nat.zero_add]; exact cp_lo hk)
theorem wP_out {V : Vw} {w : Nat → Int32} {n k : Nat} (hn : n ≤ 6) (h : k < 28 ∨ 40 ≤ k) : wP V w n k = w k := by
  unfold wP
  rw [if_neg (by omega), if_neg (by omega)]
theorem rwD_53 (V : Vw) (M : Nat → Nat → Int32) (m k : Nat) : rwD V M m 53 k = if k = 1 then iI ((V.day + 1 : Nat) : Int) else wP V (va_cpy (M 53) (M 53) 0 (40 * (m + 1)) 40) V.n k := by
  unfold rwD
  rw [w_val]
  by_cases q : k = 1
  · rw [if_pos ⟨rfl, q⟩, if_pos q]
  · rw [if_neg (by omega), if_neg q, rr_at]
theorem rwD_R {V : Vw} {M : Nat → Nat → Int32} {m : Nat} (hk : Vk V) (h : Rv V (M 53) 0) : Rv (V.step 0) (rwD V M m 53) 0 := by
  have hn := hk.n
  have hc := hk.hc
  have hp := wP_h hk (cp_Rv (m := m) hk h) V.n (Nat.le_refl _)
  rw [step_D rfl]
  have e : ∀ k, k ≠ 1 → rwD V M m 53 k = wP V (va_cpy (M 53) (M 53) 0 (40 * (m + 1)) 40) V.n k := fun k q => by rw [rwD_53, if_neg q]
  refine ⟨?_, ?_, ?_, ?_, ?_, ?_, ?_, ?_, ?_⟩
  · rw [e _ (by omega)]; exact hp.n
  · rw [rwD_53, if_pos rfl]; rfl
  · rw [e _ (by omega)]; exact hp.hc
  · intro i hi; rw [e _ (by omega)]; exact hp.heat i hi
  · intro i hi; rw [e _ (by omega)]; exact hp.kind i hi
  · intro i hi; rw [e _ (by omega)]; exact hp.rate i hi
  · intro i hi; rw [e _ (by omega)]; exact hp.floor i hi
  · intro i hi
    have hi' : i < V.n := hi
    rw [e _ (by omega), hp.minute i hi]
    show iI (if i < V.n then V.gd i else V.minute i) = iI ((V.minute i + gn (V.kind i) (V.rate i) 1 (V.heatAt V.day)) % 60)
    rw [if_pos hi']
    unfold Vw.gd
    rw [if_pos hi']
  · intro i hi
    have hi' : i < V.n := hi
    rw [e _ (by omega), hp.tou i hi, setp_t, if_pos hi']
    show iI 0 = iI (if (0 : Nat).testBit i = true then 1 else 0)
    rw [Nat.zero_testBit]
    rfl
theorem rwT_53 (V : Vw) (M : Nat → Nat → Int32) (m i : Nat) (y : Int) (k : Nat) : rwT V M m i y 53 k = if k = 34 + i then iI 1 else if k = 28 + i then iI ((V.minute i + y) % 60) else va_cpy (M 53) (M 53) 0 (40 * (m + 1)) 40 k := by
  unfold rwT
  rw [w_val, w_val, w_ne (by omega : (53 : Nat) ≠ 52), rr_at]
  by_cases q : k = 34 + i
  · rw [if_pos ⟨rfl, q⟩, if_pos q]
  · rw [if_neg (by omega), if_neg q]
    by_cases q2 : k = 28 + i
    · rw [if_pos ⟨rfl, q2⟩, if_pos q2]
    · rw [if_neg (by omega), if_neg q2]
theorem rwT_R {V : Vw} {M : Nat → Nat → Int32} {m i : Nat} {y : Int} (hk : Vk V) (h : Rv V (M 53) 0) (hi : i < V.n) (h1 : -5 ≤ y) (h2 : y ≤ 5) : Rv (V.step (16 * i + (y + 6).toNat)) (rwT V M m i y 53) 0 := by
  have hn := hk.n
  have hc := hk.hc
  have hp := cp_Rv (m := m) hk h
  have ed : (16 * i + (y + 6).toNat) / 16 = i := by omega
  have em : (16 * i + (y + 6).toNat) % 16 = (y + 6).toNat := by omega
  rw [step_T (by omega)]
  have e : ∀ k, k < 28 → rwT V M m i y 53 k = va_cpy (M 53) (M 53) 0 (40 * (m + 1)) 40 k := fun k q => by rw [rwT_53, if_neg (by omega), if_neg (by omega)]
  refine ⟨?_, ?_, ?_, ?_, ?_, ?_, ?_, ?_, ?_⟩
  · rw [e _ (by omega)]; exact hp.n
  · rw [e _ (by omega)]; exact hp.day
  · rw [e _ (by omega)]; exact hp.hc
  · intro k hk
    have hk' : k < V.hc := hk
    rw [e _ (by omega)]; exact hp.heat k hk
  · intro k hk
    have hk' : k < V.n := hk
    rw [e _ (by omega)]; exact hp.kind k hk
  · intro k hk
    have hk' : k < V.n := hk
    rw [e _ (by omega)]; exact hp.rate k hk
  · intro k hk
    have hk' : k < V.n := hk
    rw [e _ (by omega)]; exact hp.floor k hk
  · intro k hk
    have hk' : k < V.n := hk
    show _ = iI (if k = (16 * i + (y + 6).toNat) / 16 then (V.minute k + (((16 * i + (y + 6).toNat) % 16 : Nat) : Int) - 6) % 60 else V.minute k)
    rw [ed, em, rwT_53, if_neg (by omega)]
    by_cases q : k = i
    · rw [if_pos (by omega), if_pos q, q, show V.minute i + (((y + 6).toNat : Nat) : Int) - 6 = V.minute i + y by omega]
    · rw [if_neg (by omega), if_neg q]; exact hp.minute k hk
  · intro k hk
    have hk' : k < V.n := hk
    show _ = iI (if (V.tset ||| (1 <<< ((16 * i + (y + 6).toNat) / 16))).testBit k = true then 1 else 0)
    have eb : (V.tset ||| (1 <<< i)).testBit k = true ↔ V.tset.testBit k = true ∨ k = i := by rw [Nat.testBit_or, Bool.or_eq_true, one_bit]
    rw [ed, rwT_53]
    by_cases q : k = i
    · rw [if_pos (by omega), if_pos (eb.2 (Or.inr q))]
    · rw [if_neg (by omega), if_neg (by omega), hp.tou k hk]
      unfold Vw.tou
      by_cases q2 : V.tset.testBit k = true
      · rw [if_pos q2, if_pos (eb.2 (Or.inl q2))]
      · rw [if_neg q2, if_neg (fun h => (eb.1 h).elim q2 q)]

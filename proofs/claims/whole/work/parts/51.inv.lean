/-! what holds between the calls. -/
def eqs (M M' : Nat → Nat → Int32) (p : Nat → Nat → Prop) : Prop := ∀ c k, p c k → M' c k = M c k
theorem eqs.rf {M : Nat → Nat → Int32} {p : Nat → Nat → Prop} : eqs M M p := fun _ _ _ => rfl
theorem eqs.w {M M' : Nat → Nat → Int32} {p : Nat → Nat → Prop} {a j : Nat} {v : Int32} (h : eqs M M' p) (hn : ¬ p a j) : eqs M (zz_wI M' a j v) p := by
  intro c k hp
  rw [← h c k hp]
  by_cases q : c = a
  · subst q
    by_cases q2 : k = j
    · subst q2; exact absurd hp hn
    · rw [w_nk q2]
  · rw [w_ne q]
theorem eqs.r {M M' : Nat → Nat → Int32} {p : Nat → Nat → Prop} {a : Nat} {f : Nat → Int32} (h : eqs M M' p) (hn : ∀ j, ¬ p a j) : eqs M (zz_rI M' a f) p := by
  intro c k hp
  rw [← h c k hp]
  by_cases q : c = a
  · subst q; exact absurd hp (hn k)
  · rw [rr_ne q]
theorem eqs.tr {M M' M'' : Nat → Nat → Int32} {p : Nat → Nat → Prop} (h : eqs M M' p) (h2 : eqs M' M'' p) : eqs M M'' p := fun c k hp => (h2 c k hp).trans (h c k hp)
theorem eqs.im {M M' : Nat → Nat → Int32} {p q : Nat → Nat → Prop} (h : eqs M M' p) (hi : ∀ c k, q c k → p c k) : eqs M M' q := fun c k hq => h c k (hi c k hq)
/-- the same write on both -/
theorem eqs.ww {M M' : Nat → Nat → Int32} {p : Nat → Nat → Prop} {a j : Nat} {v : Int32} (h : eqs M M' p) : eqs (zz_wI M a j v) (zz_wI M' a j v) p := by
  intro c k hp
  by_cases q : c = a
  · subst q
    by_cases q2 : k = j
    · subst q2; rw [w_at, w_at]
    · rw [w_nk q2, w_nk q2, h _ _ hp]
  · rw [w_ne q, w_ne q, h _ _ hp]
def pR (c _k : Nat) : Prop := (3 ≤ c ∧ c ≤ 9) ∨ c = 55 ∨ c = 56
def pT (c _k : Nat) : Prop := (12 ≤ c ∧ c ≤ 16) ∨ c = 57 ∨ c = 58
def pD (c k : Nat) : Prop := (c = 0 ∧ k = 10) ∨ (c = 52 ∧ k = 10)
def pF (c k : Nat) : Prop := (c = 0 ∧ k = 9) ∨ (c = 52 ∧ k = 8) ∨ c = 51 ∨ c = 60
def pH (c k : Nat) : Prop := (23 ≤ c ∧ c ≤ 35) ∨ (c = 53 ∧ k < 6560) ∨ c = 54 ∨ (c = 52 ∧ k = 1)
def pA (c k : Nat) : Prop := pR c k ∨ pT c k ∨ pD c k ∨ pF c k ∨ pH c k
def RW (M : Nat → Nat → Int32) : Prop := ∀ r, r < 6 → M 56 r = M 9 r ∧ -1 ≤ (M 9 r).toInt ∧ (M 9 r).toInt ≤ 40 ∧ ∀ i : Nat, (i : Int) < (M 9 r).toInt → M 55 (40 * r + i) = M (3 + r) i
def TX (M : Nat → Nat → Int32) : Prop := ∀ r, r < 4 → M 58 r = M 16 r ∧ -1 ≤ (M 16 r).toInt ∧ (M 16 r).toInt ≤ 60 ∧ ∀ i : Nat, (i : Int) < (M 16 r).toInt → M 57 (60 * r + i) = M (12 + r) i
def TD (M : Nat → Nat → Int32) : Prop := M 52 10 = M 0 10
def FD (M : Nat → Nat → Int32) : Prop := M 52 8 = M 0 9 ∧ ∀ f, f < 6 → M 60 f = M 51 f
def CH (L : Nat → Nat → Int64) : Prop := L 52 11 = L 48 2 ∧ L 52 12 = L 48 3
def Vw.stepD (V : Vw) : Vw := (V.n, V.day + 1, V.hc, V.heat, V.kind, V.rate, V.floor, (fun i => (V.minute i + gn (V.kind i) (V.rate i) 1 (V.heatAt V.day)) % 60), 0)
def Vw.stepT (V : Vw) (d : Nat) : Vw := (V.n, V.day, V.hc, V.heat, V.kind, V.rate, V.floor, (fun i => if i = d / 16 then (V.minute i + ((d % 16 : Nat) : Int) - 6) % 60 else V.minute i), V.tset ||| (1 <<< (d / 16)))
def Vw.step (V : Vw) (d : Nat) : Vw := if d = 0 then V.stepD else V.stepT d
theorem step_D {V : Vw} {d : Nat} (h : d = 0) : V.step d = V.stepD := if_pos h
theorem step_T {V : Vw} {d : Nat} (h : ¬ d = 0) : V.step d = V.stepT d := if_neg h
def Vw.run (V : Vw) (D : Nat → Nat) : Nat → Vw
  | 0 => V
  | k + 1 => (V.run D k).step (D k)
def dOk (n d : Nat) : Prop := d = 0 ∨ (d / 16 < n ∧ 1 ≤ d % 16 ∧ d % 16 ≤ 11)
/-- a history: these deeds, m of them, done from V on; the record stands at b, those before each deed behind it -/
def His (V : Vw) (D : Nat → Nat) (m : Nat) (w : Nat → Int32) (b : Nat) : Prop := m ≤ 40 ∧ (∀ k, k < m → dOk V.n (D k)) ∧ Rv (V.run D m) w b ∧ ∀ k, k < m → Rv (V.run D k) w (b + 40 * (k + 1))
def HS (M : Nat → Nat → Int32) : Prop := ∃ (V : Vw) (D : Nat → Nat) (m : Nat) (K : Nat → Int) (E : Nat → Nat → Nat), Vk V ∧ V.day = 0 ∧ V.tset = 0 ∧ V.n = V.n ∧ M 23 13 = iI m ∧ M 52 1 = iI m ∧ (∀ i, i < V.n → M 26 i = iI (V.minute i)) ∧ (∀ k, k < m → M 30 k = iI (D k)) ∧ Hv (V.run D m) M ∧ His V D m (M 53) 0 ∧ ∀ j, j < 3 → M 35 j = iI (K j) ∧ M 54 j = iI (K j) ∧ -1 ≤ K j ∧ K j ≤ 40 ∧ (0 ≤ K j → (∀ k : Nat, (k : Int) < K j → M (32 + j) k = iI (E j k)) ∧ His V (E j) (K j).toNat (M 53) (1640 * (j + 1)))
theorem Hv.cg {V : Vw} {M M' : Nat → Nat → Int32} (h : Hv V M) (e : eqs M M' pH) : Hv V M' := by
  have ee : ∀ c k, 23 ≤ c → c ≤ 35 → M' c k = M c k := fun c k h1 h2 => e c k (Or.inl ⟨h1, h2⟩)
  refine ⟨?_, ?_, ?_, ?_, ?_, ?_, ?_, ?_, ?_⟩
  · rw [ee _ _ (by omega) (by omega)]; exact h.n
  · rw [ee _ _ (by omega) (by omega)]; exact h.hc
  · rw [ee _ _ (by omega) (by omega)]; exact h.day
  · rw [ee _ _ (by omega) (by omega)]; exact h.tset
  · intro k hk; rw [ee _ _ (by omega) (by omega)]; exact h.heat k hk
  · intro k hk; rw [ee _ _ (by omega) (by omega)]; exact h.kind k hk
  · intro k hk; rw [ee _ _ (by omega) (by omega)]; exact h.rate k hk
  · intro k hk; rw [ee _ _ (by omega) (by omega)]; exact h.floor k hk
  · intro k hk; rw [ee _ _ (by omega) (by omega)]; exact h.minute k hk
theorem Rv.cg {V : Vw} {w w' : Nat → Int32} {b b' : Nat} (hn : V.n ≤ 6) (hc : V.hc ≤ 7) (h : Rv V w b) (e : ∀ k, k < 40 → w' (b' + k) = w (b + k)) : Rv V w' b' := by
  refine ⟨?_, ?_, ?_, ?_, ?_, ?_, ?_, ?_, ?_⟩
  · have := e 0 (by omega); rw [Nat.add_zero, Nat.add_zero] at this; rw [this]; exact h.n
  · rw [e _ (by omega)]; exact h.day
  · rw [e _ (by omega)]; exact h.hc
  · intro k hk; rw [e _ (by omega)]; exact h.heat k hk
  · intro k hk; rw [e _ (by omega)]; exact h.kind k hk
  · intro k hk; rw [e _ (by omega)]; exact h.rate k hk
  · intro k hk; rw [e _ (by omega)]; exact h.floor k hk
  · intro k hk; rw [e _ (by omega)]; exact h.minute k hk
  · intro k hk; rw [e _ (by omega)]; exact h.tou k hk
theorem step_n (V : Vw) (d : Nat) : (V.step d).n = V.n := by
  by_cases q : d = 0
  · rw [step_D q]; rfl
  · rw [step_T q]; rfl
theorem step_hc (V : Vw) (d : Nat) : (V.step d).hc = V.hc := by
  by_cases q : d = 0
  · rw [step_D q]; rfl
  · rw [step_T q]; rfl
theorem run_n (V : Vw) (D : Nat → Nat) : ∀ m, (V.run D m).n = V.n
  | 0 => rfl
  | m + 1 => (step_n _ _).trans (run_n V D m)
theorem run_hc (V : Vw) (D : Nat → Nat) : ∀ m, (V.run D m).hc = V.hc
  | 0 => rfl
  | m + 1 => (step_hc _ _).trans (run_hc V D m)
theorem His.cg {V : Vw} {D : Nat → Nat} {m : Nat} {w w' : Nat → Int32} {b b' : Nat} (hk : Vk V) (h : His V D m w b) (e : ∀ k, k < 40 * (m + 1) → w' (b' + k) = w (b + k)) : His V D m w' b' := by
  refine ⟨h.1, h.2.1, Rv.cg (by rw [run_n]; exact hk.n) (by rw [run_hc]; exact hk.hc) h.2.2.1 (fun k hk => e k (by omega)), fun j hj => Rv.cg (by rw [run_n]; exact hk.n) (by rw [run_hc]; exact hk.hc) (h.2.2.2 j hj) (fun k hk => ?_)⟩
  rw [Nat.add_assoc, Nat.add_assoc]
  exact e _ (by omega)
theorem step_k {V : Vw} {d : Nat} (h : Vk V) (hd : V.day < 40) (ho : dOk V.n d) : Vk (V.step d) := by
  have h6 := h.n
  by_cases hd0 : d = 0
  · rw [step_D hd0]
    refine ⟨h.n, h.hc, h.hc0, by show V.day + 1 ≤ 40; omega, h.heat, h.kind, h.rate, h.floor, fun i => ?_, by show 0 < 64; omega⟩
    show 0 ≤ (_ : Int) % 60 ∧ (_ : Int) % 60 < 60
    omega
  · rw [step_T hd0]
    have hdn : d / 16 < 6 := by
      rcases ho with q | q
      · exact absurd q hd0
      · omega
    refine ⟨h.n, h.hc, h.hc0, h.day, h.heat, h.kind, h.rate, h.floor, fun i => ?_, ?_⟩
    · have := h.minute i
      show 0 ≤ (if i = d / 16 then (V.minute i + ((d % 16 : Nat) : Int) - 6) % 60 else V.minute i) ∧ (if i = d / 16 then (V.minute i + ((d % 16 : Nat) : Int) - 6) % 60 else V.minute i) < 60
      split <;> omega
    · show V.tset ||| (1 <<< (d / 16)) < 2 ^ 6
      apply Nat.or_lt_two_pow h.tset
      rw [Nat.one_shiftLeft]
      exact Nat.pow_lt_pow_right (by omega) hdn
theorem step_day (V : Vw) (d : Nat) : (V.step d).day ≤ V.day + 1 := by
  by_cases q : d = 0
  · rw [step_D q]; exact Nat.le_refl _
  · rw [step_T q]; exact Nat.le_succ _
theorem run_day {V : Vw} (h : V.day = 0) (D : Nat → Nat) : ∀ m, (V.run D m).day ≤ m
  | 0 => by show V.day ≤ 0; omega
  | m + 1 => Nat.le_trans (step_day _ _) (Nat.succ_le_succ (run_day h D m))
theorem run_k {V : Vw} {D : Nat → Nat} (h : Vk V) (h0 : V.day = 0) : ∀ m, m ≤ 40 → (∀ k, k < m → dOk V.n (D k)) → Vk (V.run D m)
  | 0, _, _ => h
  | m + 1, h1, h2 => step_k (run_k h h0 m (by omega) (fun k hk => h2 k (by omega))) (by have := run_day h0 D m; omega) (by rw [run_n]; exact h2 m (by omega))
theorem HS.cg {M M' : Nat → Nat → Int32} (h : HS M) (e : eqs M M' pH) : HS M' := by
  obtain ⟨V, D, m, K, E, h1, h2, h3, h4, h5, h6, h7, h8, h9, h10, h11⟩ := h
  have ee : ∀ c k, 23 ≤ c → c ≤ 35 → M' c k = M c k := fun c k h1 h2 => e c k (Or.inl ⟨h1, h2⟩)
  have ew : ∀ k, k < 6560 → M' 53 k = M 53 k := fun k hk => e 53 k (Or.inr (Or.inl ⟨rfl, hk⟩))
  have hm := h10.1
  refine ⟨V, D, m, K, E, h1, h2, h3, h4, ?_, ?_, fun i hi => ?_, fun k hk => ?_, h9.cg e, h10.cg h1 (fun k hk => ew _ (by omega)), fun j hj => ?_⟩
  · rw [ee _ _ (by omega) (by omega)]; exact h5
  · rw [e 52 1 (Or.inr (Or.inr (Or.inr ⟨rfl, rfl⟩)))]; exact h6
  · rw [ee _ _ (by omega) (by omega)]; exact h7 i hi
  · rw [ee _ _ (by omega) (by omega)]; exact h8 k hk
  · obtain ⟨a1, a2, a3, a4, a5⟩ := h11 j hj
    refine ⟨?_, ?_, a3, a4, fun h0 => ⟨fun k hk => ?_, ?_⟩⟩
    · rw [ee _ _ (by omega) (by omega)]; exact a1
    · rw [e 54 j (Or.inr (Or.inr (Or.inl rfl)))]; exact a2
    · rw [ee _ _ (by omega) (by omega)]; exact (a5 h0).1 k hk
    · exact (a5 h0).2.cg h1 (fun k hk => ew _ (by omega))
theorem RW.cg {M M' : Nat → Nat → Int32} (h : RW M) (e : eqs M M' pR) : RW M' := by
  intro r hr
  obtain ⟨a, b, c, d⟩ := h r hr
  have e9 := e 9 r (Or.inl (by omega))
  rw [e9, e 56 r (Or.inr (Or.inr rfl))]
  refine ⟨a, b, c, fun i hi => ?_⟩
  rw [e 55 _ (Or.inr (Or.inl rfl)), e (3 + r) i (Or.inl (by omega))]
  exact d i hi
theorem TX.cg {M M' : Nat → Nat → Int32} (h : TX M) (e : eqs M M' pT) : TX M' := by
  intro r hr
  obtain ⟨a, b, c, d⟩ := h r hr
  have e9 := e 16 r (Or.inl (by omega))
  rw [e9, e 58 r (Or.inr (Or.inr rfl))]
  refine ⟨a, b, c, fun i hi => ?_⟩
  rw [e 57 _ (Or.inr (Or.inl rfl)), e (12 + r) i (Or.inl (by omega))]
  exact d i hi
theorem TD.cg {M M' : Nat → Nat → Int32} (h : TD M) (e : eqs M M' pD) : TD M' := by
  unfold TD
  rw [e 52 10 (Or.inr ⟨rfl, rfl⟩), e 0 10 (Or.inl ⟨rfl, rfl⟩)]
  exact h
theorem FD.cg {M M' : Nat → Nat → Int32} (h : FD M) (e : eqs M M' pF) : FD M' := by
  refine ⟨?_, fun f hf => ?_⟩
  · rw [e 52 8 (Or.inr (Or.inl ⟨rfl, rfl⟩)), e 0 9 (Or.inl ⟨rfl, rfl⟩)]
    exact h.1
  · rw [e 60 f (Or.inr (Or.inr (Or.inr rfl))), e 51 f (Or.inr (Or.inr (Or.inl rfl)))]
    exact h.2 f hf
def Inv (M : Nat → Nat → Int32) (L : Nat → Nat → Int64) : Prop := RW M ∧ TX M ∧ TD M ∧ FD M ∧ HS M ∧ CH L
def SL (L L' : Nat → Nat → Int64) : Prop := L' 48 2 = L 48 2 ∧ L' 48 3 = L 48 3 ∧ L' 52 11 = L 52 11 ∧ L' 52 12 = L 52 12
theorem SL.rf {L : Nat → Nat → Int64} : SL L L := ⟨rfl, rfl, rfl, rfl⟩
theorem SL.tr {L L' L'' : Nat → Nat → Int64} (h : SL L L') (g : SL L' L'') : SL L L'' := ⟨g.1.trans h.1, g.2.1.trans h.2.1, g.2.2.1.trans h.2.2.1, g.2.2.2.trans h.2.2.2⟩
theorem CH.cg {L L' : Nat → Nat → Int64} (h : CH L) (e : SL L L') : CH L' := by
  unfold CH
  rw [e.1, e.2.1, e.2.2.1, e.2.2.2]
  exact h
theorem Inv.cg {M M' : Nat → Nat → Int32} {L L' : Nat → Nat → Int64} (h : Inv M L) (e : eqs M M' pA) (g : SL L L') : Inv M' L' :=
  ⟨h.1.cg (e.im fun _ _ q => Or.inl q), h.2.1.cg (e.im fun _ _ q => Or.inr (Or.inl q)), h.2.2.1.cg (e.im fun _ _ q => Or.inr (Or.inr (Or.inl q))), h.2.2.2.1.cg (e.im fun _ _ q => Or.inr (Or.inr (Or.inr (Or.inl q)))), h.2.2.2.2.1.cg (e.im fun _ _ q => Or.inr (Or.inr (Or.inr (Or.inr q)))), h.2.2.2.2.2.cg g⟩
theorem Inv.told {M : Nat → Nat → Int32} {L : Nat → Nat → Int64} (h : Inv M L) (x : Int32) : Inv (zz_wI (zz_wI M 0 10 x) 52 10 x) L := by
  refine ⟨h.1.cg ?_, h.2.1.cg ?_, ?_, h.2.2.2.1.cg ?_, h.2.2.2.2.1.cg ?_, h.2.2.2.2.2⟩
  · exact (eqs.rf.w (by unfold pR; omega)).w (by unfold pR; omega)
  · exact (eqs.rf.w (by unfold pT; omega)).w (by unfold pT; omega)
  · unfold TD
    rw [w_at, w_ne (by omega), w_at]
  · exact (eqs.rf.w (by unfold pF; omega)).w (by unfold pF; omega)
  · exact (eqs.rf.w (by unfold pH; omega)).w (by unfold pH; omega)
theorem Inv.found {M : Nat → Nat → Int32} {L : Nat → Nat → Int64} (h : Inv M L) (f : Nat) : Inv (fndR (fnd M f) f) L := by
  unfold fndR fnd
  refine ⟨h.1.cg ?_, h.2.1.cg ?_, h.2.2.1.cg ?_, ?_, h.2.2.2.2.1.cg ?_, h.2.2.2.2.2⟩
  · exact (((eqs.rf.w (by unfold pR; omega)).w (by unfold pR; omega)).w (by unfold pR; omega)).w (by unfold pR; omega)
  · exact (((eqs.rf.w (by unfold pT; omega)).w (by unfold pT; omega)).w (by unfold pT; omega)).w (by unfold pT; omega)
  · exact (((eqs.rf.w (by unfold pD; omega)).w (by unfold pD; omega)).w (by unfold pD; omega)).w (by unfold pD; omega)
  · have hf := h.2.2.2.1
    refine ⟨?_, fun g hg => ?_⟩
    · rw [w_ne (by omega), w_at, w_ne (by omega), w_ne (by omega), w_at]
    · by_cases q : g = f
      · subst q
        rw [w_at, w_ne (by omega : (51 : Nat) ≠ 60), w_ne (by omega : (51 : Nat) ≠ 52), w_ne (by omega : (51 : Nat) ≠ 0), w_at, w_ne (by omega : (60 : Nat) ≠ 0), w_ne (by omega : (60 : Nat) ≠ 51), hf.2 g hg]
      · rw [w_nk q, w_ne (by omega : (51 : Nat) ≠ 60), w_ne (by omega : (51 : Nat) ≠ 52), w_ne (by omega : (51 : Nat) ≠ 0), w_nk q, w_ne (by omega : (60 : Nat) ≠ 52), w_ne (by omega : (60 : Nat) ≠ 0), w_ne (by omega : (60 : Nat) ≠ 51), hf.2 g hg]
  · exact (((eqs.rf.w (by unfold pH; omega)).w (by unfold pH; omega)).w (by unfold pH; omega)).w (by unfold pH; omega)
/-- a call that both answer alike, and all holds behind it -/
def Ok (kx km : Nat) (as : List Value) (M : Nat → Nat → Int32) (L : Nat → Nat → Int64) : Prop := ∃ v M1 L1 M2 L2, zc 60 kx (.ref 0 :: as) M L (some v) M1 L1 ∧ zc 60 km (.ref 52 :: as) M1 L1 (some v) M2 L2 ∧ Inv M2 L2
section ZO
variable {kx km n n' f : Nat} {as : List Value} {M M' : Nat → Nat → Int32} {L : Nat → Nat → Int64} {v : Value}
theorem Ok.same (hI : Inv M L) (h1 : zc n kx (.ref 0 :: as) M L (some v) M L) (h2 : zc n' km (.ref 52 :: as) M L (some v) M L) (hn : n ≤ 60) (hn' : n' ≤ 60) : Ok kx km as M L := ⟨v, M, L, M, L, h1.mono hn, h2.mono hn', hI⟩
theorem Ok.fd (hI : Inv M L) (h1 : zc n kx (.ref 0 :: as) M L (some v) (fnd M f) L) (h2 : zc n' km (.ref 52 :: as) (fnd M f) L (some v) (fndR (fnd M f) f) L) (hn : n ≤ 60) (hn' : n' ≤ 60) : Ok kx km as M L := ⟨v, _, L, _, L, h1.mono hn, h2.mono hn', hI.found f⟩
end ZO
theorem fnd_ne {M : Nat → Nat → Int32} {f c : Nat} (h : c ≠ 51) (h2 : c ≠ 0) : fnd M f c = M c := by
  unfold fnd
  rw [w_ne h2, w_ne h]
theorem Inv.view {M : Nat → Nat → Int32} {L : Nat → Nat → Int64} (h : Inv M L) : ∃ V, Vk V ∧ Hv V M ∧ Rv V (M 53) 0 := by
  obtain ⟨V, D, m, K, E, h1, h2, h3, h4, h5, h6, h7, h8, h9, h10, h11⟩ := h.2.2.2.2.1
  exact ⟨V.run D m, run_k h1 h2 m h10.1 h10.2.1, h9, h10.2.2.1⟩

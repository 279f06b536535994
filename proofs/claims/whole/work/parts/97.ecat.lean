/-! she and the cat: the rest of the component, and the reference. -/
theorem sN_pos {f : Nat → Nat} : ∀ {n : Nat}, 0 < sN f n ↔ ∃ k, k < n ∧ 0 < f k
  | 0 => by
    constructor
    · intro h; exact absurd h (by show ¬ 0 < 0; omega)
    · rintro ⟨k, h, _⟩; omega
  | n + 1 => by
    have e : sN f (n + 1) = sN f n + f n := rfl
    rw [e]
    constructor
    · intro h
      by_cases q : 0 < sN f n
      · obtain ⟨k, h1, h2⟩ := sN_pos.1 q
        exact ⟨k, by omega, h2⟩
      · exact ⟨n, by omega, by omega⟩
    · rintro ⟨k, h1, h2⟩
      by_cases q : k = n
      · subst q; omega
      · have := sN_pos.2 ⟨k, show k < n by omega, h2⟩
        omega
theorem po_z (p : Nat → Nat → Prop) [∀ i j, Decidable (p i j)] (n : Nat) : (pout p n n 0 (0, 0, -9)).1 = 0 ↔ ¬ anyP p n := by
  have h := pout_1 p n n 0 (0, 0, -9)
  have e0 : rsum p n 0 = 0 := rfl
  have e1 : ((0, 0, -9) : Nat × Nat × Int).1 = 0 := rfl
  rw [e0, e1, Nat.add_zero, Nat.zero_add, Nat.zero_add] at h
  rw [h]
  have hp : 0 < rsum p n n ↔ anyP p n := by
    constructor
    · intro g
      obtain ⟨i, hi, g2⟩ := sN_pos.1 g
      obtain ⟨m, hm, g3⟩ := cZ_pos.1 g2
      exact ⟨i + 1 + m, by omega, i, by omega, g3⟩
    · rintro ⟨j, hj, i, hi, g⟩
      refine sN_pos.2 ⟨i, by omega, cZ_pos.2 ⟨j - (i + 1), by omega, ?_⟩⟩
      show p i (i + 1 + (j - (i + 1)))
      rw [show i + 1 + (j - (i + 1)) = j by omega]
      exact g
  rw [← hp]
  omega
theorem po_b (p : Nat → Nat → Prop) [∀ i j, Decidable (p i j)] (n : Nat) (hn : n ≤ 6) : (pout p n n 0 (0, 0, -9)).1 ≤ 36 := by
  have h := pout_1 p n n 0 (0, 0, -9)
  have e0 : rsum p n 0 = 0 := rfl
  have e1 : ((0, 0, -9) : Nat × Nat × Int).1 = 0 := rfl
  rw [e0, e1, Nat.add_zero, Nat.zero_add, Nat.zero_add] at h
  rw [h]
  have hb : ∀ m, rsum p n m ≤ 6 * m := by
    intro m
    induction m with
    | zero => exact Nat.zero_le _
    | succ m ih =>
      have e : rsum p n (m + 1) = rsum p n m + cZ (fun k => p m (m + 1 + k)) (n - (m + 1)) := rfl
      have := cZ_le (fun k => p m (m + 1 + k)) (n - (m + 1))
      omega
  have := hb n
  omega
/-- the first that does -/
def fM (P : Nat → Bool) : Nat → Nat → Int
  | 0, _ => -9
  | c + 1, k => if P k = true then k else fM P c (k + 1)
theorem fM_n (P : Nat → Bool) : ∀ c k, (fM P c k = -9 ↔ ∀ x, k ≤ x → x < k + c → P x = false) ∧ -9 ≤ fM P c k ∧ fM P c k ≤ k + c
  | 0, k => by
    show ((-9 : Int) = -9 ↔ _) ∧ (-9 : Int) ≤ -9 ∧ (-9 : Int) ≤ _
    refine ⟨⟨fun _ x h1 h2 => absurd h2 (by omega), fun _ => rfl⟩, by omega, by omega⟩
  | c + 1, k => by
    have ih := fM_n P c (k + 1)
    by_cases q : P k = true
    · have e : fM P (c + 1) k = k := if_pos q
      rw [e]
      refine ⟨⟨fun h => absurd h (by omega), fun h => ?_⟩, by omega, by omega⟩
      rw [h k (Nat.le_refl _) (by omega)] at q
      exact absurd q (by decide)
    · have e : fM P (c + 1) k = fM P c (k + 1) := if_neg q
      rw [e]
      refine ⟨⟨fun h x h1 h2 => ?_, fun h => ih.1.2 (fun x h1 h2 => h x (by omega) (by omega))⟩, ih.2.1, by omega⟩
      by_cases qx : x = k
      · subst qx
        cases hq : P x with
        | true => exact absurd hq q
        | false => rfl
      · exact ih.1.1 h x (by omega) (by omega)
theorem eB_fM (V : Vw) (t : Nat) (ht : (t + 1) % 2 = 0) (a : Nat → Int) : eB V (t + 1) a = true ↔ ¬ fM (fun mv => eB V t (sh a mv)) (2 * V.n) 0 = -9 := by
  have e : eB V (t + 1) a = decide (0 < cZ (fun mv => eB V t (sh a mv) = true) (2 * V.n)) := if_pos ht
  rw [e, decide_eq_true_eq, (fM_n _ _ _).1, cZ_pos]
  constructor
  · rintro ⟨k, h1, h2⟩ h
    have h3 : eB V t (sh a k) = false := h k (by omega) (by omega)
    rw [h3] at h2
    exact absurd h2 (by decide)
  · intro h
    refine Classical.byContradiction fun g => h fun x h1 h2 => ?_
    cases hq : eB V t (sh a x) with
    | true => exact absurd ⟨x, by omega, hq⟩ g
    | false => rfl
section ZL
variable {V : Vw}
theorem see_bo (hk : Vk V) (M : Nat → Nat → Int32) (L : Nat → Nat → Int64) : Bo V (fun i => V.minAt i 0) (zz_wI M 46 1 (iI V.n)) (sL L 47 (fun i => lI (rg (V.minAt i 0).toNat (span (V.kind i)))) V.n) := ⟨w_at, fun i hi => by rw [sL_in hi]⟩
theorem see_bd (V : Vw) : Bd (fun i => V.minAt i 0) := fun i => minAt_b V i 0
theorem x_88 (hk : Vk V) (t : Nat) (ht : t ≤ 2) (M : Nat → Nat → Int32) (L : Nat → Nat → Int64) (hv : Hv V M) : zc 12 88 [.ref 45, .ref 23, .int (iI t)] M L (some (.int (b2 (eB V (2 * t) (fun i => V.minAt i 0) = true)))) (zz_wI M 46 1 (iI V.n)) (sL L 47 (fun i => lI (rg (V.minAt i 0).toNat (span (V.kind i)))) V.n) := by
  refine zc_of (n := 11) (ls := [some (.ref 45), some (.ref 23), some (.int (iI t))]) mk_88 rfl rfl rfl rfl (fun d hd N xs => ?_)
  have g := g_62b (d := d) (N := N) (xs := xs) (tb_ := tb_88) (t_ := 1) (ls_ := [some (.ref 45), some (.ref 23), some (.int (iI t))]) (rest_ := []) M L V hk hv 0 (by omega) (by omega)
  rw [b_88_0]
  refine Eq.trans g ?_
  rw [b_88_1, show (2 : Int32) = iI 2 from rfl, iI_mul, show (2 : Int) * (t : Int) = ((2 * t : Nat) : Int) by omega, (x_90 hk (2 * t) (by omega) _ _ _ (see_bd V) (see_bo hk M L)).go (by omega), b_88_2, if_pos (b2_zo _)]
theorem x_89 (hk : Vk V) (t : Nat) (ht : t ≤ 1) (M : Nat → Nat → Int32) (L : Nat → Nat → Int64) (hv : Hv V M) : zc 12 89 [.ref 45, .ref 23, .int (iI ((t + 1 : Nat) : Int))] M L (some (.int (iI (fM (fun mv => eB V (2 * t + 1) (sh (fun i => V.minAt i 0) mv)) (2 * V.n) 0)))) (zz_wI M 46 1 (iI V.n)) (sL L 47 (fun i => lI (rg (V.minAt i 0).toNat (span (V.kind i)))) V.n) := by
  have hn := hk.n
  refine zc_of (n := 11) (ls := [some (.ref 45), some (.ref 23), some (.int (iI ((t + 1 : Nat) : Int))), none]) mk_89 rfl rfl rfl rfl (fun d hd N xs => ?_)
  have g := g_62b (d := d) (N := N) (xs := xs) (tb_ := tb_89) (t_ := 1) (ls_ := [some (.ref 45), some (.ref 23), some (.int (iI ((t + 1 : Nat) : Int))), none]) (rest_ := []) M L V hk hv 0 (by omega) (by omega)
  rw [b_89_0]
  refine Eq.trans g ?_
  rw [b_89_1]
  have hb := see_bo hk M L
  generalize zz_wI M 46 1 (iI V.n) = M1 at hb ⊢
  generalize sL L 47 (fun i => lI (rg (V.minAt i 0).toNat (span (V.kind i)))) V.n = L1 at hb ⊢
  have loop : ∀ c k : Nat, k + c = 2 * V.n → zz_X (zz_call_ d) tb_89 2 [some (.ref 45), some (.ref 23), some (.int (iI ((t + 1 : Nat) : Int))), some (.int (iI k))] [] (zm N xs M1 L1) = some (some (.int (iI (fM (fun mv => eB V (2 * t + 1) (sh (fun i => V.minAt i 0) mv)) c k))), zm N xs M1 L1) := by
    intro c
    induction c with
    | zero =>
      intro k hc
      rw [b_89_2, hb.1, show (2 : Int32) = iI 2 from rfl, iI_mul, if_pos (by rw [t_le, iI_to (by omega) (by omega), iI_to (by omega) (by omega)]; omega), b_89_5]
      rfl
    | succ c ih =>
      intro k hc
      have h91 := x_91 hk (2 * t + 1) (by omega) (fun a M L h1 h2 => x_90 hk (2 * t + 1) (by omega) a M L h1 h2) _ M1 L1 (see_bd V) hb k (by omega)
      rw [b_89_2, hb.1, show (2 : Int32) = iI 2 from rfl, iI_mul, if_neg (by rw [t_le, iI_to (by omega) (by omega), iI_to (by omega) (by omega)]; omega), iI_mul, show (2 : Int) * ((t + 1 : Nat) : Int) = ((2 * t + 1 + 1 : Nat) : Int) by omega, h91.go (by omega), b_89_3]
      by_cases q : eB V (2 * t + 1) (sh (fun i => V.minAt i 0) k) = true
      · rw [b2_t q, if_neg (show ¬ iI 1 = (0 : Int32) from iI10), show fM (fun mv => eB V (2 * t + 1) (sh (fun i => V.minAt i 0) mv)) (c + 1) k = k from if_pos q]
      · rw [b2_f q, if_pos (show iI 0 = (0 : Int32) from rfl), b_89_4, show (1 : Int32) = iI 1 from rfl, iI_add, show fM (fun mv => eB V (2 * t + 1) (sh (fun i => V.minAt i 0) mv)) (c + 1) k = fM (fun mv => eB V (2 * t + 1) (sh (fun i => V.minAt i 0) mv)) c (k + 1) from if_neg q]
        exact ih (k + 1) (by omega)
  exact loop (2 * V.n) 0 (by omega)
end ZL
section ZR
variable (M : Nat → Nat → Int32) (L : Nat → Nat → Int64)
theorem s_238 (V : Vw) (hk : Vk V) (a : Nat → Int) (ha : Bd a) (h61 : ∀ i, i < V.n → M 61 i = iI (a i)) (mv : Nat) (hm : mv < 2 * V.n) (y : Int) (hy : y = 1 ∨ y = -1) : zc 2 238 [.ref 52, .int (iI mv), .int (iI y)] M L none (zz_wI M 61 (mv / 2) (iI ((a (mv / 2) + sgm mv * y) % 60))) L := by
  refine zc_of (n := 1) (ls := [some (.ref 52), some (.int (iI mv)), some (.int (iI y)), none]) mk_238 rfl rfl rfl rfl (fun d hd N xs => ?_)
  have hn := hk.n
  have hai := ha (mv / 2)
  have hz := mv_z (mv := mv) (by omega)
  rw [mv_d (by omega)] at hz
  rw [b_238_0, mv_d (by omega), ix_nat (by omega) (by omega), o_some, h61 (mv / 2) (by omega)]
  by_cases q : mv % 2 = 0
  · rw [if_pos (hz.2 q), b_238_2, iI_add, g_160 M L _ (by omega) (by omega) (by omega), b_238_3, ix_nat (by omega) (by omega), o_some, show sgm mv = 1 from if_pos q, Int.one_mul]
  · rw [if_neg (fun e => q (hz.1 e)), b_238_1, b_238_2, iI_neg, iI_add, g_160 M L _ (by omega) (by omega) (by omega), b_238_3, ix_nat (by omega) (by omega), o_some, show sgm mv = -1 from if_neg q, show (-1 : Int) * y = -y by omega]
theorem g_238 (V : Vw) (hk : Vk V) (a : Nat → Int) (ha : Bd a) (h61 : ∀ i, i < V.n → M 61 i = iI (a i)) (mv : Nat) (hm : mv < 2 * V.n) (y : Int) (hy : y = 1 ∨ y = -1) {d N : Nat} {xs : Nat → Int32} {tb_ : List zz_B} {t_ : Nat} {ls_ : zz_L} {rest_ : List Value} (hd_ : 2 ≤ d) : (zz_o (zz_call_ d 238 [.ref 52, .int (iI mv), .int (iI y)] (zm N xs M L)) fun r => zz_X (zz_call_ d) tb_ t_ ls_ (r.1.toList ++ rest_) r.2) = zz_X (zz_call_ d) tb_ t_ ls_ rest_ (zm N xs (zz_wI M 61 (mv / 2) (iI ((a (mv / 2) + sgm mv * y) % 60))) L) := (s_238 M L V hk a ha h61 mv hm y hy).gov hd_
end ZR
def p15 (c k : Nat) : Prop := c ≠ 52 ∨ (k ≠ 15 ∧ k ≠ 16)
theorem p15_A {M M' : Nat → Nat → Int32} (h : eqs M M' p15) : eqs M M' pA := h.im (fun c k q => by unfold pA pR pT pD pF pH at q; unfold p15; omega)
theorem m3_p15 (M : Nat → Nat → Int32) (s : Nat × Nat × Int) : eqs M (m3 M s) p15 := (eqs.rf.w (by unfold p15; omega)).w (by unfold p15; omega)
def Sd (V : Vw) (a : Nat → Int) (M : Nat → Nat → Int32) : Prop := Rv V (M 53) 0 ∧ ∀ i, i < V.n → M 61 i = iI (a i)
theorem Sd.cg {V : Vw} {a : Nat → Int} {M M' : Nat → Nat → Int32} (h : Sd V a M) (e : eqs M M' p15) : Sd V a M' := by
  refine ⟨?_, fun i hi => ?_⟩
  · rw [e.col 53 (fun k => Or.inl (by omega))]; exact h.1
  · rw [e 61 i (Or.inl (by omega))]; exact h.2 i hi
theorem Sd.up {V : Vw} {a : Nat → Int} {M : Nat → Nat → Int32} (h : Sd V a M) (mv : Nat) : Sd V (sh a mv) (zz_wI M 61 (mv / 2) (iI ((a (mv / 2) + sgm mv * 1) % 60))) := by
  refine ⟨?_, fun i hi => ?_⟩
  · rw [w_ne (by omega)]; exact h.1
  · by_cases q : i = mv / 2
    · rw [q, w_at, show sh a mv (mv / 2) = (a (mv / 2) + sgm mv) % 60 from if_pos rfl, Int.mul_one]
    · rw [w_nk q, show sh a mv i = a i from if_neg q]; exact h.2 i hi
theorem Sd.bk {V : Vw} {a : Nat → Int} {M M2 : Nat → Nat → Int32} {x : Int32} (ha : Bd a) (h : Sd V a M) (mv : Nat) (hm : mv < 2 * V.n) (e : eqs (zz_wI M 61 (mv / 2) x) M2 p15) : eqs M (zz_wI M2 61 (mv / 2) (iI (((sh a mv) (mv / 2) + sgm mv * -1) % 60))) p15 := by
  intro c k hp
  have hai := ha (mv / 2)
  have hsg := sgm_c mv
  by_cases q : c = 61 ∧ k = mv / 2
  · rw [q.1, q.2, w_at, h.2 _ (by omega), show sh a mv (mv / 2) = (a (mv / 2) + sgm mv) % 60 from if_pos rfl]
    congr 1
    omega
  · have e1 := e c k hp
    rw [w_val] at e1 ⊢
    rw [if_neg q] at e1 ⊢
    exact e1
section ZM
variable {V : Vw} (L : Nat → Nat → Int64)
theorem l_240 (hk : Vk V) (a : Nat → Int) (ha : Bd a) : ∀ (c k : Nat) (M : Nat → Nat → Int32), k + c = 2 * V.n → Sd V a M → cZ (fun mv => eB V 0 (sh a mv) = false) k = 0 → ∃ M', eqs M M' p15 ∧ ∀ d, 4 ≤ d → ∀ N xs, zz_X (zz_call_ d) tb_240 1 [some (.ref 52), some (.int (iI 1)), some (.int (iI k))] [] (zm N xs M L) = some (some (.int (b2 (eB V 1 a = true))), zm N xs M' L)
  | 0, k, M, hc, hs, hz => by
    have hn := hk.n
    have eE : eB V 1 a = decide (cZ (fun mv => eB V 0 (sh a mv) = false) (2 * V.n) = 0) := rfl
    refine ⟨M, eqs.rf, fun d hd N xs => ?_⟩
    rw [b_240_1, hs.1.n, show (2 : Int32) = iI 2 from rfl, iI_mul, if_pos (by rw [t_le, iI_to (by omega) (by omega), iI_to (by omega) (by omega)]; omega), b_240_7, if_pos (show iI 1 = (0 : Int32) ∨ iI 1 = 1 from Or.inr rfl), b2_t (by rw [eE, decide_eq_true_eq, show 2 * V.n = k by omega]; exact hz)]
  | c + 1, k, M, hc, hs, hz => by
    have hn := hk.n
    have eE : eB V 1 a = decide (cZ (fun mv => eB V 0 (sh a mv) = false) (2 * V.n) = 0) := rfl
    have hs1 := hs.up k
    have hb1 := sh_b ha k
    have hz0 : (pout (fun i j => met (sh a k i) (span (V.kind i)) (sh a k j) (span (V.kind j))) V.n V.n 0 (0, 0, -9)).1 = 0 ↔ ¬ anyP (mtA V (sh a k)) V.n := po_z (mtA V (sh a k)) V.n
    have hzb : (pout (fun i j => met (sh a k i) (span (V.kind i)) (sh a k j) (span (V.kind j))) V.n V.n 0 (0, 0, -9)).1 ≤ 36 := po_b (mtA V (sh a k)) V.n hn
    have e0 : eB V 0 (sh a k) = decide (¬ anyP (mtA V (sh a k)) V.n) := rfl
    have hs2 := hs1.cg (m3_p15 _ (pout (mtA V (sh a k)) V.n V.n 0 (0, 0, -9)))
    have e3 := hs.bk ha k (by omega) (m3_p15 (zz_wI M 61 (k / 2) (iI ((a (k / 2) + sgm k * 1) % 60))) (pout (mtA V (sh a k)) V.n V.n 0 (0, 0, -9)))
    have pre : ∀ d, 4 ≤ d → ∀ N xs, zz_X (zz_call_ d) tb_240 1 [some (.ref 52), some (.int (iI 1)), some (.int (iI k))] [] (zm N xs M L) = zz_X (zz_call_ d) tb_240 1 [some (.ref 52), some (.int (b2 (eB V 0 (sh a k) = true))), some (.int (iI ((k + 1 : Nat) : Int)))] [] (zm N xs (zz_wI (m3 (zz_wI M 61 (k / 2) (iI ((a (k / 2) + sgm k * 1) % 60))) (pout (mtA V (sh a k)) V.n V.n 0 (0, 0, -9))) 61 (k / 2) (iI (((sh a k) (k / 2) + sgm k * -1) % 60))) L) := by
      intro d hd N xs
      have l5 : ∀ x, zz_X (zz_call_ d) tb_240 5 [some (.ref 52), some (.int (iI 1)), some (.int (iI k))] [.int x] (zm N xs (m3 (zz_wI M 61 (k / 2) (iI ((a (k / 2) + sgm k * 1) % 60))) (pout (mtA V (sh a k)) V.n V.n 0 (0, 0, -9))) L) = zz_X (zz_call_ d) tb_240 1 [some (.ref 52), some (.int x), some (.int (iI ((k + 1 : Nat) : Int)))] [] (zm N xs (zz_wI (m3 (zz_wI M 61 (k / 2) (iI ((a (k / 2) + sgm k * 1) % 60))) (pout (mtA V (sh a k)) V.n V.n 0 (0, 0, -9))) 61 (k / 2) (iI (((sh a k) (k / 2) + sgm k * -1) % 60))) L) := by
        intro x
        rw [b_240_5, show (-1 : Int32) = iI (-1) from rfl, g_238 _ L V hk (sh a k) hb1 hs2.2 k (by omega) (-1) (by omega) (by omega), b_240_6, show (1 : Int32) = iI 1 from rfl, iI_add]
        rfl
      rw [b_240_1, hs.1.n, show (2 : Int32) = iI 2 from rfl, iI_mul, if_neg (by rw [t_le, iI_to (by omega) (by omega), iI_to (by omega) (by omega)]; omega), if_neg (show ¬ iI 1 = (0 : Int32) from iI10), show (1 : Int32) = iI 1 from rfl, g_238 M L V hk a ha hs.2 k (by omega) 1 (by omega) (by omega), b_240_2, g_200 _ L V hk hs1.1 (sh a k) hb1 hs1.2 (by omega), b_240_3]
      by_cases q : anyP (mtA V (sh a k)) V.n
      · rw [if_neg (by rw [t_eq, show (0 : Int32).toInt = 0 from rfl, iI_to (by omega) (by omega)]; intro h; exact hz0.1 (by omega) q), b_240_4, b2_f (by rw [e0, decide_eq_true_eq]; exact fun h => h q)]
        exact l5 _
      · rw [if_pos (by rw [hz0.2 q]; rfl), b2_t (by rw [e0, decide_eq_true_eq]; exact q)]
        exact l5 _
    by_cases q : eB V 0 (sh a k) = true
    · obtain ⟨M', r1, r2⟩ := l_240 hk a ha c (k + 1) _ (by omega) (hs.cg e3) (by rw [cZ_f (p := fun mv => eB V 0 (sh a mv) = false) (by rw [q]; exact Bool.false_ne_true.symm)]; exact hz)
      refine ⟨M', e3.tr r1, fun d hd N xs => ?_⟩
      rw [pre d hd N xs, b2_t q]
      exact r2 d hd N xs
    · have q3 : eB V 0 (sh a k) = false := by
        cases h : eB V 0 (sh a k) with
        | true => exact absurd h q
        | false => rfl
      have hmo := cZ_mono (fun mv => eB V 0 (sh a mv) = false) (show k + 1 ≤ 2 * V.n by omega)
      rw [cZ_t (p := fun mv => eB V 0 (sh a mv) = false) q3] at hmo
      refine ⟨_, e3, fun d hd N xs => ?_⟩
      rw [pre d hd N xs, b2_f q, b_240_1, if_pos (show iI 0 = (0 : Int32) from rfl), ite_self, b_240_7, if_pos (show iI 0 = (0 : Int32) ∨ iI 0 = 1 from Or.inl rfl), b2_f (by rw [eE, decide_eq_true_eq]; omega)]
end ZM

/-! she and the cat: both alike. -/
theorem bfl {b : Bool} (h : ¬ b = true) : b = false := by
  cases b with
  | true => exact absurd rfl h
  | false => rfl
theorem is0 : iI 0 = (0 : Int32) ∨ iI 0 = 1 := Or.inl rfl
theorem is1 : iI 1 = (0 : Int32) ∨ iI 1 = 1 := Or.inr rfl
section ZM
variable {V : Vw} (L : Nat → Nat → Int64)
theorem x_240 (hk : Vk V) (a : Nat → Int) (ha : Bd a) (M : Nat → Nat → Int32) (hs : Sd V a M) : ∃ M', eqs M M' p15 ∧ zc 5 240 [.ref 52] M L (some (.int (b2 (eB V 1 a = true)))) M' L := by
  obtain ⟨M', r1, r2⟩ := l_240 L hk a ha (2 * V.n) 0 M (by omega) hs rfl
  refine ⟨M', r1, zc_of (n := 4) (ls := [some (.ref 52), none, none]) mk_240 rfl rfl rfl rfl (fun d hd N xs => ?_)⟩
  rw [b_240_0]
  exact r2 d hd N xs
theorem l_239 (hk : Vk V) (a : Nat → Int) (ha : Bd a) : ∀ (c k : Nat) (M : Nat → Nat → Int32), k + c = 2 * V.n → Sd V a M → cZ (fun mv => eB V 1 (sh a mv) = true) k = 0 → ∃ M', eqs M M' p15 ∧ ∀ d, 5 ≤ d → ∀ N xs, zz_X (zz_call_ d) tb_239 1 [some (.ref 52), some (.int (iI 0)), some (.int (iI k))] [] (zm N xs M L) = some (some (.int (b2 (eB V 2 a = true))), zm N xs M' L)
  | 0, k, M, hc, hs, hz => by
    have hn := hk.n
    have eE : eB V 2 a = decide (0 < cZ (fun mv => eB V 1 (sh a mv) = true) (2 * V.n)) := rfl
    refine ⟨M, eqs.rf, fun d hd N xs => ?_⟩
    rw [b_239_1, hs.1.n, show (2 : Int32) = iI 2 from rfl, iI_mul, if_pos (by rw [t_le, iI_to (by omega) (by omega), iI_to (by omega) (by omega)]; omega), b_239_5, if_pos is0, b2_f (by rw [eE, decide_eq_true_eq, show 2 * V.n = k by omega, hz]; omega)]
  | c + 1, k, M, hc, hs, hz => by
    have hn := hk.n
    have eE : eB V 2 a = decide (0 < cZ (fun mv => eB V 1 (sh a mv) = true) (2 * V.n)) := rfl
    have hs1 := hs.up k
    have hb1 := sh_b ha k
    obtain ⟨M2, p1, p2⟩ := x_240 L hk (sh a k) hb1 _ hs1
    have hs2 := hs1.cg p1
    have e3 := hs.bk ha k (by omega) p1
    have pre : ∀ d, 5 ≤ d → ∀ N xs, zz_X (zz_call_ d) tb_239 1 [some (.ref 52), some (.int (iI 0)), some (.int (iI k))] [] (zm N xs M L) = zz_X (zz_call_ d) tb_239 1 [some (.ref 52), some (.int (b2 (eB V 1 (sh a k) = true))), some (.int (iI ((k + 1 : Nat) : Int)))] [] (zm N xs (zz_wI M2 61 (k / 2) (iI (((sh a k) (k / 2) + sgm k * -1) % 60))) L) := by
      intro d hd N xs
      rw [b_239_1, hs.1.n, show (2 : Int32) = iI 2 from rfl, iI_mul, if_neg (by rw [t_le, iI_to (by omega) (by omega), iI_to (by omega) (by omega)]; omega), if_pos (show iI 0 = (0 : Int32) from rfl), show (1 : Int32) = iI 1 from rfl, g_238 M L V hk a ha hs.2 k (by omega) 1 (by omega) (by omega), b_239_2, p2.go hd, b_239_3, show (-1 : Int32) = iI (-1) from rfl, g_238 _ L V hk (sh a k) hb1 hs2.2 k (by omega) (-1) (by omega) (by omega), b_239_4, show (1 : Int32) = iI 1 from rfl, iI_add]
      rfl
    by_cases q : eB V 1 (sh a k) = true
    · have hmo := cZ_mono (fun mv => eB V 1 (sh a mv) = true) (show k + 1 ≤ 2 * V.n by omega)
      rw [cZ_t (p := fun mv => eB V 1 (sh a mv) = true) q] at hmo
      refine ⟨_, e3, fun d hd N xs => ?_⟩
      rw [pre d hd N xs, b2_t q, b_239_1, if_neg (show ¬ iI 1 = (0 : Int32) from iI10), ite_self, b_239_5, if_pos is1, b2_t (by rw [eE, decide_eq_true_eq]; omega)]
    · obtain ⟨M', r1, r2⟩ := l_239 hk a ha c (k + 1) _ (by omega) (hs.cg e3) (by rw [cZ_f (p := fun mv => eB V 1 (sh a mv) = true) q]; exact hz)
      refine ⟨M', e3.tr r1, fun d hd N xs => ?_⟩
      rw [pre d hd N xs, b2_f q]
      exact r2 d hd N xs
theorem x_239 (hk : Vk V) (a : Nat → Int) (ha : Bd a) (M : Nat → Nat → Int32) (hs : Sd V a M) : ∃ M', eqs M M' p15 ∧ zc 6 239 [.ref 52] M L (some (.int (b2 (eB V 2 a = true)))) M' L := by
  obtain ⟨M', r1, r2⟩ := l_239 L hk a ha (2 * V.n) 0 M (by omega) hs rfl
  refine ⟨M', r1, zc_of (n := 5) (ls := [some (.ref 52), none, none]) mk_239 rfl rfl rfl rfl (fun d hd N xs => ?_)⟩
  rw [b_239_0]
  exact r2 d hd N xs
theorem l_241 (hk : Vk V) (v1 : Int32) (a : Nat → Int) (ha : Bd a) : ∀ (c k : Nat) (M : Nat → Nat → Int32), k + c = 2 * V.n → Sd V a M → cZ (fun mv => eB V 2 (sh a mv) = false) k = 0 → ∃ M' o', eqs M M' p15 ∧ ∀ d, 6 ≤ d → ∀ N xs, zz_X (zz_call_ d) tb_241 4 [some (.ref 52), some (.int v1), some (.int (iI 2)), some (.int (iI 1)), some (.int (iI k))] [] (zm N xs M L) = zz_X (zz_call_ d) tb_241 8 [some (.ref 52), some (.int v1), some (.int (iI 2)), some (.int (b2 (eB V 3 a = true))), o'] [] (zm N xs M' L)
  | 0, k, M, hc, hs, hz => by
    have hn := hk.n
    have eE : eB V 3 a = decide (cZ (fun mv => eB V 2 (sh a mv) = false) (2 * V.n) = 0) := rfl
    refine ⟨M, some (.int (iI k)), eqs.rf, fun d hd N xs => ?_⟩
    rw [b_241_4, hs.1.n, show (2 : Int32) = iI 2 from rfl, iI_mul, if_pos (by rw [t_le, iI_to (by omega) (by omega), iI_to (by omega) (by omega)]; omega), b2_t (by rw [eE, decide_eq_true_eq, show 2 * V.n = k by omega]; exact hz)]
  | c + 1, k, M, hc, hs, hz => by
    have hn := hk.n
    have eE : eB V 3 a = decide (cZ (fun mv => eB V 2 (sh a mv) = false) (2 * V.n) = 0) := rfl
    have hs1 := hs.up k
    have hb1 := sh_b ha k
    obtain ⟨M2, p1, p2⟩ := x_239 L hk (sh a k) hb1 _ hs1
    have hs2 := hs1.cg p1
    have e3 := hs.bk ha k (by omega) p1
    have pre : ∀ d, 6 ≤ d → ∀ N xs, zz_X (zz_call_ d) tb_241 4 [some (.ref 52), some (.int v1), some (.int (iI 2)), some (.int (iI 1)), some (.int (iI k))] [] (zm N xs M L) = zz_X (zz_call_ d) tb_241 4 [some (.ref 52), some (.int v1), some (.int (iI 2)), some (.int (b2 (eB V 2 (sh a k) = true))), some (.int (iI ((k + 1 : Nat) : Int)))] [] (zm N xs (zz_wI M2 61 (k / 2) (iI (((sh a k) (k / 2) + sgm k * -1) % 60))) L) := by
      intro d hd N xs
      rw [b_241_4, hs.1.n, show (2 : Int32) = iI 2 from rfl, iI_mul, if_neg (by rw [t_le, iI_to (by omega) (by omega), iI_to (by omega) (by omega)]; omega), if_neg (show ¬ iI 1 = (0 : Int32) from iI10), show (1 : Int32) = iI 1 from rfl, g_238 M L V hk a ha hs.2 k (by omega) 1 (by omega) (by omega), b_241_5, p2.go hd, b_241_6, show (-1 : Int32) = iI (-1) from rfl, g_238 _ L V hk (sh a k) hb1 hs2.2 k (by omega) (-1) (by omega) (by omega), b_241_7, show (1 : Int32) = iI 1 from rfl, iI_add]
      rfl
    by_cases q : eB V 2 (sh a k) = true
    · obtain ⟨M', o', r1, r2⟩ := l_241 hk v1 a ha c (k + 1) _ (by omega) (hs.cg e3) (by rw [cZ_f (p := fun mv => eB V 2 (sh a mv) = false) (by rw [q]; exact Bool.false_ne_true.symm)]; exact hz)
      refine ⟨M', o', e3.tr r1, fun d hd N xs => ?_⟩
      rw [pre d hd N xs, b2_t q]
      exact r2 d hd N xs
    · have hmo := cZ_mono (fun mv => eB V 2 (sh a mv) = false) (show k + 1 ≤ 2 * V.n by omega)
      rw [cZ_t (p := fun mv => eB V 2 (sh a mv) = false) (bfl q)] at hmo
      refine ⟨_, some (.int (iI ((k + 1 : Nat) : Int))), e3, fun d hd N xs => ?_⟩
      rw [pre d hd N xs, b2_f q, b_241_4, if_pos (show iI 0 = (0 : Int32) from rfl), ite_self, b2_f (by rw [eE, decide_eq_true_eq]; omega)]
theorem x_241 (hk : Vk V) (t : Nat) (ht : t ≤ 1) (a : Nat → Int) (ha : Bd a) (M : Nat → Nat → Int32) (hs : Sd V a M) (own : Nat) (ho : own < 2 * V.n) : ∃ M', eqs M M' p15 ∧ zc 7 241 [.ref 52, .int (iI own), .int (iI ((t + 1 : Nat) : Int))] M L (some (.int (b2 (eB V (2 * t + 1) (sh a own) = true)))) M' L := by
  have hn := hk.n
  have hs1 := hs.up own
  have hb1 := sh_b ha own
  have fin : ∀ (v4 : Option Value) (M2 : Nat → Nat → Int32), eqs (zz_wI M 61 (own / 2) (iI ((a (own / 2) + sgm own * 1) % 60))) M2 p15 → ∀ d, 6 ≤ d → ∀ N xs, zz_X (zz_call_ d) tb_241 8 [some (.ref 52), some (.int (iI own)), some (.int (iI ((t + 1 : Nat) : Int))), some (.int (b2 (eB V (2 * t + 1) (sh a own) = true))), v4] [] (zm N xs M2 L) = some (some (.int (b2 (eB V (2 * t + 1) (sh a own) = true))), zm N xs (zz_wI M2 61 (own / 2) (iI (((sh a own) (own / 2) + sgm own * -1) % 60))) L) := by
    intro v4 M2 p1 d hd N xs
    rw [b_241_8, show (-1 : Int32) = iI (-1) from rfl, g_238 _ L V hk (sh a own) hb1 (hs1.cg p1).2 own ho (-1) (by omega) (by omega), b_241_9, if_pos (b2_zo _)]
  by_cases q : t = 0
  · subst q
    obtain ⟨M2, p1, p2⟩ := x_240 L hk (sh a own) hb1 _ hs1
    refine ⟨_, hs.bk ha own ho p1, zc_of (n := 6) (ls := [some (.ref 52), some (.int (iI own)), some (.int (iI ((0 + 1 : Nat) : Int))), none, none]) mk_241 rfl rfl rfl rfl (fun d hd N xs => ?_)⟩
    rw [b_241_0, show (1 : Int32) = iI 1 from rfl, g_238 M L V hk a ha hs.2 own ho 1 (by omega) (by omega), b_241_1, if_pos (show iI ((0 + 1 : Nat) : Int) = (1 : Int32) from rfl), p2.go (by omega), b_241_2]
    exact fin _ _ p1 d hd N xs
  · obtain rfl : t = 1 := by omega
    obtain ⟨M2, o', p1, p2⟩ := l_241 L hk (iI own) (sh a own) hb1 (2 * V.n) 0 _ (by omega) hs1 rfl
    refine ⟨_, hs.bk ha own ho p1, zc_of (n := 6) (ls := [some (.ref 52), some (.int (iI own)), some (.int (iI ((1 + 1 : Nat) : Int))), none, none]) mk_241 rfl rfl rfl rfl (fun d hd N xs => ?_)⟩
    rw [b_241_0, show (1 : Int32) = iI 1 from rfl, g_238 M L V hk a ha hs.2 own ho 1 (by omega) (by omega), b_241_1, if_neg (show ¬ iI ((1 + 1 : Nat) : Int) = (1 : Int32) by decide), b_241_3]
    exact (p2 d hd N xs).trans (fin _ _ p1 d hd N xs)
theorem l_242 (hk : Vk V) (t : Nat) (ht : t ≤ 1) (a : Nat → Int) (ha : Bd a) : ∀ (c k : Nat) (M : Nat → Nat → Int32), k + c = 2 * V.n → Sd V a M → ∃ M', eqs M M' p15 ∧ ∀ d, 7 ≤ d → ∀ N xs, zz_X (zz_call_ d) tb_242 2 [some (.ref 52), some (.int (iI ((t + 1 : Nat) : Int))), some (.int (iI k))] [] (zm N xs M L) = some (some (.int (iI (fM (fun mv => eB V (2 * t + 1) (sh a mv)) c k))), zm N xs M' L)
  | 0, k, M, hc, hs => by
    have hn := hk.n
    refine ⟨M, eqs.rf, fun d hd N xs => ?_⟩
    rw [b_242_2, hs.1.n, show (2 : Int32) = iI 2 from rfl, iI_mul, if_pos (by rw [t_le, iI_to (by omega) (by omega), iI_to (by omega) (by omega)]; omega), b_242_5]
    rfl
  | c + 1, k, M, hc, hs => by
    have hn := hk.n
    obtain ⟨M2, p1, p2⟩ := x_241 L hk t ht a ha M hs k (by omega)
    by_cases q : eB V (2 * t + 1) (sh a k) = true
    · refine ⟨M2, p1, fun d hd N xs => ?_⟩
      rw [b_242_2, hs.1.n, show (2 : Int32) = iI 2 from rfl, iI_mul, if_neg (by rw [t_le, iI_to (by omega) (by omega), iI_to (by omega) (by omega)]; omega), p2.go hd, b_242_3, b2_t q, if_neg (show ¬ iI 1 = (0 : Int32) from iI10), show fM (fun mv => eB V (2 * t + 1) (sh a mv)) (c + 1) k = k from if_pos q]
    · obtain ⟨M', r1, r2⟩ := l_242 hk t ht a ha c (k + 1) M2 (by omega) (hs.cg p1)
      refine ⟨M', p1.tr r1, fun d hd N xs => ?_⟩
      rw [b_242_2, hs.1.n, show (2 : Int32) = iI 2 from rfl, iI_mul, if_neg (by rw [t_le, iI_to (by omega) (by omega), iI_to (by omega) (by omega)]; omega), p2.go hd, b_242_3, b2_f q, if_pos (show iI 0 = (0 : Int32) from rfl), b_242_4, show (1 : Int32) = iI 1 from rfl, iI_add, show fM (fun mv => eB V (2 * t + 1) (sh a mv)) (c + 1) k = fM (fun mv => eB V (2 * t + 1) (sh a mv)) c (k + 1) from if_neg q]
      exact r2 d hd N xs
theorem x_242 (hk : Vk V) (t : Nat) (ht : t ≤ 1) (M : Nat → Nat → Int32) (hr : Rv V (M 53) 0) : ∃ M', eqs M M' pA ∧ zc 8 242 [.ref 52, .int (iI ((t + 1 : Nat) : Int))] M L (some (.int (iI (fM (fun mv => eB V (2 * t + 1) (sh (fun i => V.minAt i 0) mv)) (2 * V.n) 0)))) M' L := by
  have hs : Sd V (fun i => V.minAt i 0) (sI M 61 (fun i => iI (V.minAt i 0)) V.n) := ⟨by rw [sI_ne (by omega)]; exact hr, fun i hi => by rw [sI_in hi]⟩
  obtain ⟨M', r1, r2⟩ := l_242 L hk t ht (fun i => V.minAt i 0) (see_bd V) (2 * V.n) 0 _ (by omega) hs
  have e1 : eqs M (sI M 61 (fun i => iI (V.minAt i 0)) V.n) pA := eqs.rf.r (fun j => by unfold pA pR pT pD pF pH; omega)
  refine ⟨M', e1.tr (p15_A r1), zc_of (n := 7) (ls := [some (.ref 52), some (.int (iI ((t + 1 : Nat) : Int))), none]) mk_242 rfl rfl rfl rfl (fun d hd N xs => ?_)⟩
  rw [b_242_0]
  have g := g_199 (d := d) (N := N) (xs := xs) (tb_ := tb_242) (t_ := 1) (ls_ := [some (.ref 52), some (.int (iI ((t + 1 : Nat) : Int))), none]) (rest_ := []) M L V hk hr 0 (by omega) (by omega)
  refine Eq.trans g ?_
  rw [b_242_1]
  exact r2 d hd N xs
end ZM

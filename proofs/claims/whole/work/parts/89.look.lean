/-! Keeper: look; who is doomed. -/
def bX (V : Vw) (N x : Nat) : Nat := if pr V.n x then br V (x / 6) (x % 6) N else 0
def bY (V : Vw) (N b : Nat) : Nat → Int32 := fun x => iI ((if pr V.n x ∧ x < b then br V (x / 6) (x % 6) N else 0 : Nat) : Int)
theorem bY_cg {V : Vw} {N b b' x : Nat} (h : pr V.n x → (x < b ↔ x < b')) : bY V N b x = bY V N b' x := by
  unfold bY
  by_cases q : pr V.n x
  · have := h q
    by_cases e : x < b
    · rw [if_pos ⟨q, e⟩, if_pos ⟨q, this.1 e⟩]
    · rw [if_neg (fun a => e a.2), if_neg (fun a => e (this.2 a.2))]
  · rw [if_neg (fun a => q a.1), if_neg (fun a => q a.1)]
theorem w_sI {A : Nat → Nat → Int32} {c e i n : Nat} {f : Nat → Int32} {v : Int32} (h : c ≠ e) : zz_wI (sI A c f n) e i v = sI (zz_wI A e i v) c f n := by
  funext b j
  rw [w_val]
  unfold sI
  rw [rr_val, rr_val, w_val, w_val]
  by_cases q : b = c
  · subst q
    simp only [if_true, show ¬ (b = e ∧ j = i) from fun a => h a.1, if_false]
  · rw [if_neg q, if_neg q]
def pM (V : Vw) (N : Nat) (M : Nat → Nat → Int32) (i b : Nat) : Nat → Nat → Int32 := sI (sI M 40 (fun i => iI (V.floor i)) i) 42 (bY V N b) 36
theorem pM_ne {V : Vw} {N i b c : Nat} {M : Nat → Nat → Int32} (h1 : c ≠ 40) (h2 : c ≠ 42) : pM V N M i b c = M c := by
  unfold pM
  rw [sI_ne h2, sI_ne h1]
theorem pM_h {V : Vw} {N i b : Nat} {M : Nat → Nat → Int32} (h : Hv V M) : Hv V (pM V N M i b) := h.c2 (fun c c1 c2 => pM_ne (by omega) (by omega))
section ZL
variable (G : Nat → Nat → Int64) {V : Vw}
theorem l_72d (hk : Vk V) (n : Nat) (hn60 : n ≤ 60) : ∀ (c k : Nat) (M : Nat → Nat → Int32), k + c = n + 1 → Hv V M → M 38 6 = iI V.n → ∃ M', eqs M M' (fun c _ => c ≠ 39) ∧ ∀ d, 5 ≤ d → ∀ N xs, zz_X (zz_call_ d) tb_72 3 [some (.ref 38), some (.ref 23), some (.int (iI n)), some (.int (iI (V.warm k))), some (.int (iI k)), none] [] (zm N xs M (sL G 41 (gX V k 0) 36)) = zz_X (zz_call_ d) tb_72 6 [some (.ref 38), some (.ref 23), some (.int (iI n)), some (.int (iI (V.warm (n + 1)))), some (.int (iI ((n + 1 : Nat) : Int))), none] [] (zm N xs M' (sL G 41 (gX V (n + 1) 0) 36))
  | 0, k, M, hc, hv, h6 => by
    refine ⟨M, eqs.rf, fun d hd N xs => ?_⟩
    rw [b_72_3, if_pos (by rw [t_lt, iI_to (by omega) (by omega), iI_to (by omega) (by omega)]; omega), show k = n + 1 by omega]
  | c + 1, k, M, hc, hv, h6 => by
    have hw := warm_b hk k
    have hv2 : Hv V (sI M 39 (fun i => iI (V.minAt i k)) V.n) := hv.cg (eqs.rf.r (by unfold pH; omega))
    obtain ⟨M', r1, r2⟩ := l_72d hk n hn60 c (k + 1) (sI M 39 (fun i => iI (V.minAt i k)) V.n) (by omega) hv2 (by rw [sI_ne (by omega)]; exact h6)
    refine ⟨M', (eqs.rf.r (by omega)).tr r1, fun d hd N xs => ?_⟩
    rw [b_72_3, if_neg (by rw [t_lt, iI_to (by omega) (by omega), iI_to (by omega) (by omega)]; omega), g_73 M _ V hk hv k (by omega) h6 G rfl (by omega), b_72_4, g_42 _ _ V hk hv2 k (by omega) (by omega), b_72_5, iI_add, show (1 : Int32) = iI 1 from rfl, iI_add]
    exact r2 d hd N xs
theorem l_72j {d : Nat} (hd : 5 ≤ d) (N : Nat) (xs : Nat → Int32) (hk : Vk V) (M : Nat → Nat → Int32) (hv : Hv V M) (h6 : M 38 6 = iI V.n) (n : Nat) (w2 w3 : Int32) (i : Nat) (hi : i < V.n) : ∀ c j : Nat, j + c = V.n → i < j → zz_X (zz_call_ d) tb_72 9 [some (.ref 38), some (.ref 23), some (.int w2), some (.int w3), some (.int (iI i)), some (.int (iI j))] [] (zm N xs (pM V n M (i + 1) (6 * i + j)) (sL G 41 (gX V n 0) 36)) = zz_X (zz_call_ d) tb_72 7 [some (.ref 38), some (.ref 23), some (.int w2), some (.int w3), some (.int (iI ((i + 1 : Nat) : Int))), some (.int (iI V.n))] [] (zm N xs (pM V n M (i + 1) (6 * i + V.n)) (sL G 41 (gX V n 0) 36))
  | 0, j, hc, hij => by
    have hn := hk.n
    rw [b_72_9, pM_ne (by omega) (by omega), h6, if_pos (by rw [t_le, iI_to (by omega) (by omega), iI_to (by omega) (by omega)]; omega), b_72_13, show (1 : Int32) = iI 1 from rfl, iI_add, show j = V.n by omega]
    rfl
  | c + 1, j, hc, hij => by
    have hn := hk.n
    have hg : gX V n 0 (6 * i + j) = lI (gB V i j n) := by
      unfold gX
      rw [if_pos (by show (6 * i + j) / 6 < (6 * i + j) % 6 ∧ (6 * i + j) % 6 < V.n; omega), if_neg (by omega), show (6 * i + j) / 6 = i by omega, show (6 * i + j) % 6 = j by omega]
    have eu : zz_wI (pM V n M (i + 1) (6 * i + j)) 42 (6 * i + j) (iI (br V i j n)) = pM V n M (i + 1) (6 * i + (j + 1)) := by
      unfold pM
      refine sI_u (by omega) (fun y hy => ?_)
      by_cases q : y = 6 * i + j
      · rw [if_pos q, q]
        unfold bY
        rw [if_pos ⟨by show (6 * i + j) / 6 < (6 * i + j) % 6 ∧ (6 * i + j) % 6 < V.n; omega, by omega⟩, show (6 * i + j) / 6 = i by omega, show (6 * i + j) % 6 = j by omega]
      · rw [if_neg q]
        exact bY_cg (fun _ => by omega)
    rw [b_72_9, pM_ne (by omega) (by omega), h6, if_neg (by rw [t_le, iI_to (by omega) (by omega), iI_to (by omega) (by omega)]; omega), show (6 : Int32) = iI 6 from rfl, iI_mul, iI_add, show (6 : Int) * (i : Int) + (j : Int) = ((6 * i + j : Nat) : Int) by omega, ix_nat (by omega) (by omega), o_some, sL_in (by omega), hg, g_37 _ _ V hk (pM_h hv) i hi (by omega), b_72_10, g_37 _ _ V hk (pM_h hv) j (by omega) (by omega), b_72_11, g_74 _ _ V i j n (by omega), b_72_12, ix_nat (by omega) (by omega), o_some, eu, show (1 : Int32) = iI 1 from rfl, iI_add]
    exact l_72j hd N xs hk M hv h6 n w2 w3 i hi c (j + 1) (by omega) (by omega)
theorem l_72 {d : Nat} (hd : 5 ≤ d) (N : Nat) (xs : Nat → Int32) (hk : Vk V) (M : Nat → Nat → Int32) (hv : Hv V M) (h6 : M 38 6 = iI V.n) (n : Nat) (w2 w3 : Int32) : ∀ (c i : Nat) (o : Option Value), i + c = V.n → zz_X (zz_call_ d) tb_72 7 [some (.ref 38), some (.ref 23), some (.int w2), some (.int w3), some (.int (iI i)), o] [] (zm N xs (pM V n M i (7 * i + 1)) (sL G 41 (gX V n 0) 36)) = some (none, zm N xs (pM V n M V.n 36) (sL G 41 (gX V n 0) 36))
  | 0, i, o, hc => by
    have hn := hk.n
    rw [b_72_7, pM_ne (by omega) (by omega), h6, if_pos (by rw [t_le, iI_to (by omega) (by omega), iI_to (by omega) (by omega)]; omega), b_72_14, show i = V.n by omega]
    unfold pM
    rw [sI_cg (f := bY V n (7 * V.n + 1)) (g := bY V n 36) (fun y hy => bY_cg (fun h => by have h1 := h.1; have h2 := h.2; omega))]
  | c + 1, i, o, hc => by
    have hn := hk.n
    have hj := l_72j G hd N xs hk M hv h6 n w2 w3 i (by omega) (V.n - (i + 1)) (i + 1) (by omega) (by omega)
    rw [show 6 * i + (i + 1) = 7 * i + 1 by omega] at hj
    have ew : zz_wI (pM V n M i (7 * i + 1)) 40 i (iI (V.floor i)) = pM V n M (i + 1) (7 * i + 1) := by
      unfold pM
      rw [w_sI (by omega), sI_s M 40 (fun i => iI (V.floor i)) i]
    rw [b_72_7, pM_ne (by omega) (by omega), h6, if_neg (by rw [t_le, iI_to (by omega) (by omega), iI_to (by omega) (by omega)]; omega), g_36 _ _ V hk (pM_h hv) i (by omega) (by omega), b_72_8, ix_nat (by omega) (by omega), o_some, ew, show (1 : Int32) = iI 1 from rfl, iI_add]
    refine Eq.trans hj ?_
    have ec : pM V n M (i + 1) (6 * i + V.n) = pM V n M (i + 1) (7 * (i + 1) + 1) := by
      unfold pM
      rw [sI_cg (f := bY V n (6 * i + V.n)) (g := bY V n (7 * (i + 1) + 1)) (fun y hy => bY_cg (fun h => by have h1 := h.1; have h2 := h.2; omega))]
    rw [ec]
    exact l_72 hd N xs hk M hv h6 n w2 w3 c (i + 1) _ (by omega)
end ZL
def Kp (V : Vw) (N : Nat) (M : Nat → Nat → Int32) : Prop := M 38 6 = iI V.n ∧ (∀ x, x < 36 → M 42 x = iI (bX V N x)) ∧ ∀ i, i < V.n → M 40 i = iI (V.floor i)
theorem x_72 {M : Nat → Nat → Int32} {V : Vw} (L : Nat → Nat → Int64) (hk : Vk V) (hv : Hv V M) (n : Nat) (hn60 : n ≤ 60) : ∃ M' L', eqs M M' p39 ∧ SL L L' ∧ Kp V (n + 1) M' ∧ zc 7 72 [.ref 38, .ref 23, .int (iI n)] M L none M' L' := by
  have hn := hk.n
  have em : zz_wI M 38 6 (if 6 < M 23 10 then 6 else M 23 10) = zz_wI M 38 6 (iI V.n) := by
    rw [hv.n, if_neg (by rw [t_lt, show (6 : Int32).toInt = 6 from rfl, iI_to (by omega) (by omega)]; omega)]
  have hv0 : Hv V (sI (zz_wI M 38 6 (iI V.n)) 42 (fun _ => iI 0) 36) := hv.cg ((eqs.rf.w (by unfold pH; omega)).r (by unfold pH; omega))
  obtain ⟨M1, r1, r2⟩ := l_72d L hk n hn60 (n + 1) 0 (sI (zz_wI M 38 6 (iI V.n)) 42 (fun _ => iI 0) 36) (by omega) hv0 (by rw [sI_ne (by omega), w_at])
  have hv1 : Hv V M1 := hv0.c2 (fun c c1 c2 => r1.col c (fun k => by omega))
  have h61 : M1 38 6 = iI V.n := by rw [r1 38 6 (by omega), sI_ne (by omega), w_at]
  have e42 : pM V (n + 1) M1 0 1 = M1 := by
    have e : M1 42 = fun x => if x < 36 then iI 0 else M 42 x := by
      rw [r1.col 42 (fun k => by omega)]
      unfold sI
      rw [rr_at]
      funext x
      rw [w_ne (by omega)]
    unfold pM
    rw [sI_0]
    funext c j
    unfold sI
    rw [rr_val]
    by_cases q : c = 42
    · rw [if_pos q, q, e]
      by_cases q2 : j < 36
      · simp only [if_pos q2]
        unfold bY
        rw [if_neg (by rintro ⟨a, b⟩; have h1 := a.1; have h2 := a.2; omega)]
        rfl
      · simp only [if_neg q2]
    · rw [if_neg q]
  refine ⟨pM V (n + 1) M1 V.n 36, sL L 41 (gX V (n + 1) 0) 36, ?_, sL_SL _ _ _ _ (by omega) (by omega), ⟨?_, ?_, ?_⟩, ?_⟩
  · exact ((((eqs.rf.w (by unfold p39; omega)).r (by unfold p39; omega)).tr (r1.im (fun c k h => by unfold p39 at h; omega))).r (by unfold p39; omega)).r (by unfold p39; omega)
  · rw [pM_ne (by omega) (by omega)]; exact h61
  · intro x hx
    unfold pM
    rw [sI_in hx]
    unfold bY bX
    by_cases q : pr V.n x
    · rw [if_pos ⟨q, hx⟩, if_pos q]
    · rw [if_neg (fun a => q a.1), if_neg q]
  · intro i hi
    unfold pM
    rw [sI_ne (by omega), sI_in hi]
  · refine zc_of (n := 6) (ls := [some (.ref 38), some (.ref 23), some (.int (iI n)), none, none, none]) mk_72 rfl rfl rfl rfl (fun d hd N xs => ?_)
    rw [b_72_0, em]
    have hl := upto (fun k : Nat => zz_X (zz_call_ d) tb_72 1 [some (.ref 38), some (.ref 23), some (.int (iI n)), some (.int (iI k)), none, none] [] (zm N xs (sI (zz_wI M 38 6 (iI V.n)) 42 (fun _ => iI 0) k) (sL L 41 (fun _ => lI 0) k))) 36 (fun k hk36 => by
      show zz_X (zz_call_ d) tb_72 1 _ _ _ = zz_X (zz_call_ d) tb_72 1 _ _ _
      rw [b_72_1, if_neg (by rw [t_le, show (36 : Int32).toInt = 36 from rfl, iI_to (by omega) (by omega)]; omega), ix_nat (by omega) (by omega), o_some, o_some, show (0 : Int32) = iI 0 from rfl, show (0 : Int64) = lI 0 from rfl, sI_s (zz_wI M 38 6 (iI V.n)) 42 (fun _ => iI 0) k, sL_s L 41 (fun _ => lI 0) k, show (1 : Int32) = iI 1 from rfl, iI_add]
      rfl)
    simp only [sI_0, sL_0] at hl
    refine Eq.trans hl ?_
    rw [b_72_1, if_pos (by rw [t_le, show (36 : Int32).toInt = 36 from rfl, iI_to (by omega) (by omega)]; omega), b_72_2, sL_cg (f := fun _ => lI 0) (g := gX V 0 0) (fun y hy => by
      unfold gX
      by_cases q : pr V.n y
      · rw [if_pos q, if_neg (by omega)]; rfl
      · rw [if_neg q])]
    refine Eq.trans (r2 d (by omega) N xs) ?_
    have h72 := l_72 L (d := d) (by omega) N xs hk M1 hv1 h61 (n + 1) (iI n) (iI (V.warm (n + 1))) V.n 0 none (by omega)
    rw [show 7 * 0 + 1 = 1 from rfl, e42] at h72
    rw [b_72_6]
    exact h72
theorem br_511 {V : Vw} {i j N : Nat} : br V i j N = 511 ↔ ∀ x : Nat, x < 9 → clq V i j ((x : Int) - 4) N := by
  constructor
  · intro h x hx
    have : (br V i j N).testBit x = true := by
      rw [h]
      revert x
      decide
    unfold br at this
    rw [bS_bit] at this
    exact this.2
  · intro h
    apply Nat.eq_of_testBit_eq
    intro x
    rw [Bool.eq_iff_iff]
    unfold br
    rw [bS_bit, show (511 : Nat) = 2 ^ 9 - 1 from rfl, Nat.testBit_two_pow_sub_one, decide_eq_true_eq]
    exact ⟨fun a => a.1, fun a => ⟨a, h x a⟩⟩
abbrev dmP (V : Vw) (N x : Nat) : Prop := bX V N x = 511
theorem bX_lt (V : Vw) (N x : Nat) : bX V N x < 1024 := by
  unfold bX
  by_cases q : pr V.n x
  · rw [if_pos q]; exact bS_l10 _ (by omega)
  · rw [if_neg q]; omega
section ZR
variable (M : Nat → Nat → Int32) (L : Nat → Nat → Int64)
theorem s_76 (V : Vw) (N9 : Nat) (hp : Kp V N9 M) : zc 1 76 [.ref 38] M L (some (.int (iI (cZ (dmP V N9) 36)))) M L := by
  refine zc_of (n := 0) (ls := [some (.ref 38), none, none]) mk_76 rfl rfl rfl rfl (fun d hd N xs => ?_)
  rw [b_76_0]
  have hl := upto (fun k : Nat => zz_X (zz_call_ d) tb_76 1 [some (.ref 38), some (.int (iI (cZ (dmP V N9) k))), some (.int (iI k))] [] (zm N xs M L)) 36 (fun k hk36 => by
    show zz_X (zz_call_ d) tb_76 1 _ _ _ = zz_X (zz_call_ d) tb_76 1 _ _ _
    have hb := bX_lt V N9 k
    rw [b_76_1, if_neg (by rw [t_le, show (36 : Int32).toInt = 36 from rfl, iI_to (by omega) (by omega)]; omega), ix_nat (by omega) (by omega), o_some, hp.2.1 k hk36]
    by_cases q : bX V N9 k = 511
    · rw [if_pos (by rw [q]; rfl), b_76_2, cZ_t (p := dmP V N9) q, show (1 : Int32) = iI 1 from rfl, iI_add, iI_add]
      rfl
    · rw [if_neg (by rw [t_eq, show (511 : Int32).toInt = 511 from rfl, iI_to (by omega) (by omega)]; omega), b_76_2, cZ_f (p := dmP V N9) q, show (1 : Int32) = iI 1 from rfl, iI_add]
      rfl)
  refine Eq.trans hl ?_
  show zz_X (zz_call_ d) tb_76 1 _ _ _ = _
  rw [b_76_1, if_pos (by rw [t_le, show (36 : Int32).toInt = 36 from rfl, iI_to (by omega) (by omega)]; omega), b_76_3]
theorem g_76 (V : Vw) (N9 : Nat) (hp : Kp V N9 M) {d N : Nat} {xs : Nat → Int32} {tb_ : List zz_B} {t_ : Nat} {ls_ : zz_L} {rest_ : List Value} (hd_ : 1 ≤ d) : (zz_o (zz_call_ d 76 [.ref 38] (zm N xs M L)) fun r => zz_X (zz_call_ d) tb_ t_ ls_ (r.1.toList ++ rest_) r.2) = zz_X (zz_call_ d) tb_ t_ ls_ ((.int (iI (cZ (dmP V N9) 36))) :: rest_) (zm N xs M L) := (s_76 M L V N9 hp).go hd_
theorem l_77 {d : Nat} (N : Nat) (xs : Nat → Int32) (V : Vw) (N9 : Nat) (hp : Kp V N9 M) : ∀ c k : Nat, k + c = 36 → cZ (dmP V N9) k = 0 → zz_X (zz_call_ d) tb_77 1 [some (.ref 38), some (.int (iI k))] [] (zm N xs M L) = some (some (.int (iI (fsF (dmP V N9) 36 36))), zm N xs M L)
  | 0, k, hc, hz => by
    rw [b_77_1, if_pos (by rw [t_le, show (36 : Int32).toInt = 36 from rfl, iI_to (by omega) (by omega)]; omega), b_77_3]
    unfold fsF
    rw [if_pos (by rw [show 36 = k by omega]; exact hz)]
    rfl
  | c + 1, k, hc, hz => by
    have hb := bX_lt V N9 k
    rw [b_77_1, if_neg (by rw [t_le, show (36 : Int32).toInt = 36 from rfl, iI_to (by omega) (by omega)]; omega), ix_nat (by omega) (by omega), o_some, hp.2.1 k (by omega)]
    by_cases q : bX V N9 k = 511
    · have h1 := cZ_mono (dmP V N9) (show k + 1 ≤ 36 by omega)
      rw [cZ_t (p := dmP V N9) q] at h1
      have e : fx (dmP V N9) 36 0 = k := fx_eq q (by omega) (fun m hm hq => by have := cZ_pos.2 ⟨m, hm, hq⟩; omega)
      rw [if_pos (by rw [q]; rfl)]
      unfold fsF
      rw [if_neg (by omega), e]
    · rw [if_neg (by rw [t_eq, show (511 : Int32).toInt = 511 from rfl, iI_to (by omega) (by omega)]; omega), b_77_2, show (1 : Int32) = iI 1 from rfl, iI_add]
      exact l_77 N xs V N9 hp c (k + 1) (by omega) (by rw [cZ_f (p := dmP V N9) q]; exact hz)
theorem s_77 (V : Vw) (N9 : Nat) (hp : Kp V N9 M) : zc 1 77 [.ref 38] M L (some (.int (iI (fsF (dmP V N9) 36 36)))) M L := by
  refine zc_of (n := 0) (ls := [some (.ref 38), none]) mk_77 rfl rfl rfl rfl (fun d hd N xs => ?_)
  rw [b_77_0]
  exact l_77 M L N xs V N9 hp 36 0 (by omega) rfl
theorem g_77 (V : Vw) (N9 : Nat) (hp : Kp V N9 M) {d N : Nat} {xs : Nat → Int32} {tb_ : List zz_B} {t_ : Nat} {ls_ : zz_L} {rest_ : List Value} (hd_ : 1 ≤ d) : (zz_o (zz_call_ d 77 [.ref 38] (zm N xs M L)) fun r => zz_X (zz_call_ d) tb_ t_ ls_ (r.1.toList ++ rest_) r.2) = zz_X (zz_call_ d) tb_ t_ ls_ ((.int (iI (fsF (dmP V N9) 36 36))) :: rest_) (zm N xs M L) := (s_77 M L V N9 hp).go hd_
end ZR

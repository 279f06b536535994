/-! a text as a house: the component's reader. -/
def chA (s : Nat) (a : Nat → Int32) (i : Nat) : Int32 := if i < s then a i else -1000
theorem ch_in {s i : Nat} {a : Nat → Int32} (h : i < s) : chA s a i = a i := if_pos h
theorem ch_out {s i : Nat} {a : Nat → Int32} (h : ¬ i < s) : chA s a i = -1000 := if_neg h
def fv (s : Nat) (a : Nat → Int32) (i : Nat) : Int := (chA s a i - 48).toInt
abbrev fg (s : Nat) (a : Nat → Int32) (m : Int) (i : Nat) : Prop := 0 ≤ fv s a i ∧ fv s a i ≤ m
theorem fg_lt {s i : Nat} {a : Nat → Int32} {m : Int} (h : fg s a m i) : i < s := by
  by_cases q : i < s
  · exact q
  · have e : fv s a i = -1048 := by unfold fv; rw [ch_out q]; rfl
    omega
theorem fv_iI (s : Nat) (a : Nat → Int32) (i : Nat) : chA s a i - 48 = iI (fv s a i) := (i_t _).symm
theorem fv_b (s : Nat) (a : Nat → Int32) (i : Nat) : -2147483648 ≤ fv s a i ∧ fv s a i ≤ 2147483647 := by
  have e31 : (2 : Int) ^ 31 = 2147483648 := by decide
  have a1 := Int32.le_toInt (chA s a i - 48)
  have a2 := Int32.toInt_lt (chA s a i - 48)
  unfold fv
  omega
def kc (x : Int32) : Int := if x = 99 then 0 else if x = 107 then 1 else if x = 98 then 2 else if x = 115 then 3 else if x = 109 then 4 else if x = 114 then 5 else -1
theorem kc_b (x : Int32) : -1 ≤ kc x ∧ kc x ≤ 5 := by
  unfold kc
  repeat' split
  all_goals omega
abbrev nbl (s : Nat) (a : Nat → Int32) (i : Nat) : Prop := ¬ chA s a i = 32
def bl (s : Nat) (a : Nat → Int32) (p : Nat) : Nat := fx (nbl s a) (s - p) p
theorem bl_le {s p : Nat} {a : Nat → Int32} (h : p ≤ s) : bl s a p ≤ s := by
  have := fx_le (nbl s a) (s - p) p
  unfold bl
  omega
theorem bl_id {s p : Nat} {a : Nat → Int32} (h : nbl s a p) : bl s a p = p := by
  unfold bl
  cases s - p with
  | zero => rfl
  | succ c => exact if_pos h
def hf (s : Nat) (a : Nat → Int32) (z : Nat) : Nat := fx (fun k => ¬ fg s a 3 (z + 1 + k)) 7 0
def tq (s : Nat) (a : Nat → Int32) (p : Nat) : Nat × Bool := if kc (chA s a p) < 0 then (p, false) else if ¬ fg s a 5 (p + 1) then (p + 1, false) else if ¬ fg s a 9 (p + 2) then (p + 2, false) else if ¬ fg s a 9 (p + 3) then (p + 3, false) else if ¬ fg s a 3 (p + 4) then (p + 4, false) else (p + 5, true)
def pl (s : Nat) (a : Nat → Int32) : Nat → Nat → Nat → (Nat → Nat) → Int × Nat × (Nat → Nat)
  | 0, p, n, q => (if p < s then (p : Int) else -9, n, q)
  | c + 1, p, n, q => if p < s ∨ n = 0 then (if (tq s a p).2 = true then pl s a c (bl s a (tq s a p).1) (n + 1) (dup q n p) else ((tq s a p).1, n, q)) else (-9, n, q)
theorem tq_k {s p : Nat} {a : Nat → Int32} (h : kc (chA s a p) < 0) : tq s a p = (p, false) := by unfold tq; rw [if_pos h]
theorem tq_1 {s p : Nat} {a : Nat → Int32} (h : ¬ kc (chA s a p) < 0) (h1 : ¬ fg s a 5 (p + 1)) : tq s a p = (p + 1, false) := by unfold tq; rw [if_neg h, if_pos h1]
theorem tq_2 {s p : Nat} {a : Nat → Int32} (h : ¬ kc (chA s a p) < 0) (h1 : fg s a 5 (p + 1)) (h2 : ¬ fg s a 9 (p + 2)) : tq s a p = (p + 2, false) := by unfold tq; rw [if_neg h, if_neg (fun e => e h1), if_pos h2]
theorem tq_3 {s p : Nat} {a : Nat → Int32} (h : ¬ kc (chA s a p) < 0) (h1 : fg s a 5 (p + 1)) (h2 : fg s a 9 (p + 2)) (h3 : ¬ fg s a 9 (p + 3)) : tq s a p = (p + 3, false) := by unfold tq; rw [if_neg h, if_neg (fun e => e h1), if_neg (fun e => e h2), if_pos h3]
theorem tq_4 {s p : Nat} {a : Nat → Int32} (h : ¬ kc (chA s a p) < 0) (h1 : fg s a 5 (p + 1)) (h2 : fg s a 9 (p + 2)) (h3 : fg s a 9 (p + 3)) (h4 : ¬ fg s a 3 (p + 4)) : tq s a p = (p + 4, false) := by unfold tq; rw [if_neg h, if_neg (fun e => e h1), if_neg (fun e => e h2), if_neg (fun e => e h3), if_pos h4]
theorem tq_5 {s p : Nat} {a : Nat → Int32} (h : ¬ kc (chA s a p) < 0) (h1 : fg s a 5 (p + 1)) (h2 : fg s a 9 (p + 2)) (h3 : fg s a 9 (p + 3)) (h4 : fg s a 3 (p + 4)) : tq s a p = (p + 5, true) := by unfold tq; rw [if_neg h, if_neg (fun e => e h1), if_neg (fun e => e h2), if_neg (fun e => e h3), if_neg (fun e => e h4)]
theorem ffF (p : Nat) : ¬ ((p, false) : Nat × Bool).2 = true := Bool.false_ne_true
theorem tq_i {s p : Nat} {a : Nat → Int32} (h : (tq s a p).2 = true) : ¬ kc (chA s a p) < 0 ∧ fg s a 5 (p + 1) ∧ fg s a 9 (p + 2) ∧ fg s a 9 (p + 3) ∧ fg s a 3 (p + 4) ∧ tq s a p = (p + 5, true) := by
  by_cases q0 : kc (chA s a p) < 0
  · rw [tq_k q0] at h; exact absurd h (ffF _)
  · by_cases q1 : fg s a 5 (p + 1)
    · by_cases q2 : fg s a 9 (p + 2)
      · by_cases q3 : fg s a 9 (p + 3)
        · by_cases q4 : fg s a 3 (p + 4)
          · exact ⟨q0, q1, q2, q3, q4, tq_5 q0 q1 q2 q3 q4⟩
          · rw [tq_4 q0 q1 q2 q3 q4] at h; exact absurd h (ffF _)
        · rw [tq_3 q0 q1 q2 q3] at h; exact absurd h (ffF _)
      · rw [tq_2 q0 q1 q2] at h; exact absurd h (ffF _)
    · rw [tq_1 q0 q1] at h; exact absurd h (ffF _)
theorem tq_le {s p : Nat} {a : Nat → Int32} (h : p ≤ s) : (tq s a p).1 ≤ s := by
  unfold tq
  by_cases q0 : kc (chA s a p) < 0
  · rw [if_pos q0]; exact h
  · have hp : p < s := by
      by_cases e : p < s
      · exact e
      · rw [ch_out e] at q0; exact absurd (show kc (-1000) < 0 by decide) q0
    rw [if_neg q0]
    by_cases q1 : fg s a 5 (p + 1)
    · have := fg_lt q1
      rw [if_neg (fun e => e q1)]
      by_cases q2 : fg s a 9 (p + 2)
      · have := fg_lt q2
        rw [if_neg (fun e => e q2)]
        by_cases q3 : fg s a 9 (p + 3)
        · have := fg_lt q3
          rw [if_neg (fun e => e q3)]
          by_cases q4 : fg s a 3 (p + 4)
          · have := fg_lt q4
            rw [if_neg (fun e => e q4)]
            show p + 5 ≤ s
            omega
          · rw [if_pos q4]; show p + 4 ≤ s; omega
        · rw [if_pos q3]; show p + 3 ≤ s; omega
      · rw [if_pos q2]; show p + 2 ≤ s; omega
    · rw [if_pos q1]; show p + 1 ≤ s; omega
theorem w_self {M : Nat → Nat → Int32} {c k : Nat} {v : Int32} (h : M c k = v) : zz_wI M c k v = M := by
  funext x j
  rw [w_val]
  by_cases q : x = c ∧ j = k
  · rw [if_pos q, q.1, q.2, h]
  · rw [if_neg q]
theorem w_w (M : Nat → Nat → Int32) (c k : Nat) (v w : Int32) : zz_wI (zz_wI M c k v) c k w = zz_wI M c k w := by
  funext x j
  simp only [w_val]
  split <;> rfl
def Tw (M : Nat → Nat → Int32) (t s : Nat) (a : Nat → Int32) : Prop := t < 4 ∧ s ≤ 60 ∧ M 16 t = iI s ∧ (∀ i, i < s → M (12 + t) i = a i) ∧ ∀ q, q < 4 → (M 16 q).toInt ≤ 60
def Tr (M : Nat → Nat → Int32) (t s : Nat) (a : Nat → Int32) : Prop := t < 4 ∧ s ≤ 60 ∧ M 58 t = iI s ∧ ∀ i, i < s → M 57 (60 * t + i) = a i
theorem Tw.cg {M M' : Nat → Nat → Int32} {t s : Nat} {a : Nat → Int32} (h : Tw M t s a) (e : ∀ c, 12 ≤ c → c ≤ 16 → M' c = M c) : Tw M' t s a := by
  obtain ⟨h1, h2, h3, h4, h5⟩ := h
  exact ⟨h1, h2, by rw [e 16 (by omega) (by omega)]; exact h3, fun i hi => by rw [e (12 + t) (by omega) (by omega)]; exact h4 i hi, fun q hq => by rw [e 16 (by omega) (by omega)]; exact h5 q hq⟩
theorem Tr.cg {M M' : Nat → Nat → Int32} {t s : Nat} {a : Nat → Int32} (h : Tr M t s a) (e1 : M' 57 = M 57) (e2 : M' 58 = M 58) : Tr M' t s a := by
  obtain ⟨h1, h2, h3, h4⟩ := h
  exact ⟨h1, h2, by rw [e2]; exact h3, fun i hi => by rw [e1]; exact h4 i hi⟩
theorem TX.get {M : Nat → Nat → Int32} (h : TX M) {t : Nat} (ht : t < 4) (hn : (M 16 t).toInt ≠ -1) : ∃ s a, Tw M t s a ∧ Tr M t s a := by
  obtain ⟨h1, h2, h3, h4⟩ := h t ht
  have hs : M 16 t = iI (((M 16 t).toInt.toNat : Nat) : Int) := by
    have e : (((M 16 t).toInt.toNat : Nat) : Int) = (M 16 t).toInt := by omega
    rw [e, i_t]
  exact ⟨(M 16 t).toInt.toNat, M (12 + t), ⟨ht, by omega, hs, fun i _ => rfl, fun q hq => (h q hq).2.2.1⟩, ⟨ht, by omega, by rw [h1]; exact hs, fun i hi => h4 i (by omega)⟩⟩
def p17 (c _k : Nat) : Prop := c < 17 ∨ 22 < c
theorem p17_T {M M' : Nat → Nat → Int32} {t s : Nat} {a : Nat → Int32} (h : Tw M t s a) (e : eqs M M' p17) : Tw M' t s a := h.cg (fun c h1 h2 => e.col c (fun k => Or.inl (by omega)))
section ZR
variable (M : Nat → Nat → Int32) (L : Nat → Nat → Int64)
theorem g_16T {t s i : Nat} {a : Nat → Int32} (h : Tw M t s a) (hi : i < s) {d N : Nat} {xs : Nat → Int32} {tb_ : List zz_B} {t_ : Nat} {ls_ : zz_L} {rest_ : List Value} (hd_ : 4 ≤ d) : (zz_o (zz_call_ d 16 [.ref 10, .int (iI t), .int (iI i)] (zm N xs M L)) fun q => zz_X (zz_call_ d) tb_ t_ ls_ (q.1.toList ++ rest_) q.2) = zz_X (zz_call_ d) tb_ t_ ls_ ((.int (chA s a i)) :: rest_) (zm N xs M L) := by
  obtain ⟨h1, h2, h3, h4, h5⟩ := h
  have g := g_16b (d := d) (N := N) (xs := xs) (tb_ := tb_) (t_ := t_) (ls_ := ls_) (rest_ := rest_) M L t i (by omega) (by omega) (by omega) (by omega) h5 hd_
  rw [if_pos (by rw [Int.toNat_natCast, h3, iI_to (by omega) (by omega)]; omega), Int.toNat_natCast, Int.toNat_natCast, h4 i hi, ← ch_in (a := a) hi] at g
  exact g
theorem g_13T {t s i : Nat} {a : Nat → Int32} (h : Tw M t s a) (hi : i ≤ 1000) {d N : Nat} {xs : Nat → Int32} {tb_ : List zz_B} {t_ : Nat} {ls_ : zz_L} {rest_ : List Value} (hd_ : 3 ≤ d) : (zz_o (zz_call_ d 13 [.ref 10, .int (iI t), .int (iI i)] (zm N xs M L)) fun q => zz_X (zz_call_ d) tb_ t_ ls_ (q.1.toList ++ rest_) q.2) = zz_X (zz_call_ d) tb_ t_ ls_ ((.int (b2 (i < s))) :: rest_) (zm N xs M L) := by
  obtain ⟨h1, h2, h3, h4, h5⟩ := h
  have g := g_13b (d := d) (N := N) (xs := xs) (tb_ := tb_) (t_ := t_) (ls_ := ls_) (rest_ := rest_) M L t i (by omega) (by omega) (by omega) (by omega) hd_
  rw [b2_cg (q := i < s) (by rw [Int.toNat_natCast, h3, iI_to (by omega) (by omega)]; omega)] at g
  exact g
theorem g_15T {t s : Nat} {a : Nat → Int32} (h : Tw M t s a) {d N : Nat} {xs : Nat → Int32} {tb_ : List zz_B} {t_ : Nat} {ls_ : zz_L} {rest_ : List Value} (hd_ : 2 ≤ d) : (zz_o (zz_call_ d 15 [.ref 10, .int (iI t)] (zm N xs M L)) fun q => zz_X (zz_call_ d) tb_ t_ ls_ (q.1.toList ++ rest_) q.2) = zz_X (zz_call_ d) tb_ t_ ls_ ((.int (iI s)) :: rest_) (zm N xs M L) := by
  obtain ⟨h1, h2, h3, h4, h5⟩ := h
  have g := g_15b (d := d) (N := N) (xs := xs) (tb_ := tb_) (t_ := t_) (ls_ := ls_) (rest_ := rest_) M L t (by omega) (by omega) hd_
  rw [Int.toNat_natCast, h3] at g
  exact g
theorem l_25 {d : Nat} (hd : 4 ≤ d) (N : Nat) (xs : Nat → Int32) (t s : Nat) (a : Nat → Int32) : ∀ (c p : Nat) (M : Nat → Nat → Int32), p + c = s → Tw M t s a → M 17 7 = iI p → zz_X (zz_call_ d) tb_25 2 [some (.ref 17), some (.ref 10), some (.int (iI t)), some (.int (iI s))] [] (zm N xs M L) = some (none, zm N xs (zz_wI M 17 7 (iI (fx (nbl s a) c p))) L)
  | 0, p, M, hc, hw, h7 => by
    have h60 := hw.2.1
    rw [b_25_2, h7, if_pos (by rw [t_le, iI_to (by omega) (by omega), iI_to (by omega) (by omega)]; omega), b_25_4]
    unfold fx
    rw [w_self h7]
  | c + 1, p, M, hc, hw, h7 => by
    have h60 := hw.2.1
    rw [b_25_2, h7, if_neg (by rw [t_le, iI_to (by omega) (by omega), iI_to (by omega) (by omega)]; omega), g_16T M L hw (by omega) (by omega), b_25_3]
    by_cases q : chA s a p = 32
    · have ih := l_25 hd N xs t s a c (p + 1) (zz_wI M 17 7 (iI ((p + 1 : Nat) : Int))) (by omega) (hw.cg (fun c _ _ => by rw [w_ne (by omega)])) w_at
      rw [w_w] at ih
      rw [if_pos q, h7, show (1 : Int32) = iI 1 from rfl, iI_add, show fx (nbl s a) (c + 1) p = fx (nbl s a) c (p + 1) from if_neg (fun e => e q)]
      exact ih
    · rw [if_neg q, b_25_4, show fx (nbl s a) (c + 1) p = p from if_pos q, w_self h7]
theorem s_25 (t s p : Nat) (a : Nat → Int32) (hw : Tw M t s a) (hp : p ≤ s) (h7 : M 17 7 = iI p) : zc 5 25 [.ref 17, .ref 10, .int (iI t)] M L none (zz_wI M 17 7 (iI (bl s a p))) L := by
  refine zc_of (n := 4) (ls := [some (.ref 17), some (.ref 10), some (.int (iI t)), none]) mk_25 rfl rfl rfl rfl (fun d hd N xs => ?_)
  rw [b_25_0, g_15T M L hw (by omega), b_25_1]
  exact l_25 L hd N xs t s a (s - p) p M (by omega) hw h7
theorem g_25 (t s p : Nat) (a : Nat → Int32) (hw : Tw M t s a) (hp : p ≤ s) (h7 : M 17 7 = iI p) {d N : Nat} {xs : Nat → Int32} {tb_ : List zz_B} {t_ : Nat} {ls_ : zz_L} {rest_ : List Value} (hd_ : 5 ≤ d) : (zz_o (zz_call_ d 25 [.ref 17, .ref 10, .int (iI t)] (zm N xs M L)) fun r => zz_X (zz_call_ d) tb_ t_ ls_ (r.1.toList ++ rest_) r.2) = zz_X (zz_call_ d) tb_ t_ ls_ rest_ (zm N xs (zz_wI M 17 7 (iI (bl s a p))) L) := (s_25 M L t s p a hw hp h7).gov hd_
theorem s_28T (t s p m : Nat) (a : Nat → Int32) (hw : Tw M t s a) (hm : m ≤ 9) (h7 : M 17 7 = iI p) (hf : fg s a m p) : zc 5 28 [.ref 17, .ref 10, .int (iI t), .int (iI m)] M L (some (.int (iI (fv s a p)))) (zz_wI M 17 7 (iI ((p + 1 : Nat) : Int))) L := by
  refine zc_of (n := 4) (ls := [some (.ref 17), some (.ref 10), some (.int (iI t)), some (.int (iI m)), none]) mk_28 rfl rfl rfl rfl (fun d hd N xs => ?_)
  have hps := fg_lt hf
  have h60 := hw.2.1
  have hb := fv_b s a p
  rw [b_28_0, h7, g_13T M L hw (by omega) (by omega), b2_t hps, b_28_1, if_neg (show ¬ iI 1 = (0 : Int32) from iI10), b_28_2, h7, g_16T M L hw hps (by omega), b_28_3, fv_iI, if_neg (by rw [t_lt, iI_to hb.1 hb.2, show (0 : Int32).toInt = 0 from rfl]; omega), if_pos (by rw [t_le, iI_to hb.1 hb.2, iI_to (by omega) (by omega)]; exact hf.2), b_28_5, h7, show (1 : Int32) = iI 1 from rfl, iI_add]
  rfl
theorem g_28T (t s p m : Nat) (a : Nat → Int32) (hw : Tw M t s a) (hm : m ≤ 9) (h7 : M 17 7 = iI p) (hf : fg s a m p) {d N : Nat} {xs : Nat → Int32} {tb_ : List zz_B} {t_ : Nat} {ls_ : zz_L} {rest_ : List Value} (hd_ : 5 ≤ d) : (zz_o (zz_call_ d 28 [.ref 17, .ref 10, .int (iI t), .int (iI m)] (zm N xs M L)) fun r => zz_X (zz_call_ d) tb_ t_ ls_ (r.1.toList ++ rest_) r.2) = zz_X (zz_call_ d) tb_ t_ ls_ ((.int (iI (fv s a p))) :: rest_) (zm N xs (zz_wI M 17 7 (iI ((p + 1 : Nat) : Int))) L) := (s_28T M L t s p m a hw hm h7 hf).go hd_
theorem s_28F (t s p m : Nat) (a : Nat → Int32) (hw : Tw M t s a) (hm : m ≤ 9) (hp : p ≤ 100) (h7 : M 17 7 = iI p) (hf : ¬ fg s a m p) : zc 5 28 [.ref 17, .ref 10, .int (iI t), .int (iI m)] M L (some (.int (iI (-1)))) M L := by
  refine zc_of (n := 4) (ls := [some (.ref 17), some (.ref 10), some (.int (iI t)), some (.int (iI m)), none]) mk_28 rfl rfl rfl rfl (fun d hd N xs => ?_)
  have h60 := hw.2.1
  have hb := fv_b s a p
  rw [b_28_0, h7, g_13T M L hw (by omega) (by omega), b_28_1]
  by_cases q : p < s
  · rw [b2_t q, if_neg (show ¬ iI 1 = (0 : Int32) from iI10), b_28_2, h7, g_16T M L hw q (by omega), b_28_3, fv_iI]
    by_cases q1 : fv s a p < 0
    · rw [if_pos (by rw [t_lt, iI_to hb.1 hb.2, show (0 : Int32).toInt = 0 from rfl]; exact q1), b_28_4]
      rfl
    · rw [if_neg (by rw [t_lt, iI_to hb.1 hb.2, show (0 : Int32).toInt = 0 from rfl]; exact q1), if_neg (by rw [t_le, iI_to hb.1 hb.2, iI_to (by omega) (by omega)]; omega), b_28_4]
      rfl
  · rw [b2_f q, if_pos (show iI 0 = (0 : Int32) from rfl)]
    rfl
theorem g_28F (t s p m : Nat) (a : Nat → Int32) (hw : Tw M t s a) (hm : m ≤ 9) (hp : p ≤ 100) (h7 : M 17 7 = iI p) (hf : ¬ fg s a m p) {d N : Nat} {xs : Nat → Int32} {tb_ : List zz_B} {t_ : Nat} {ls_ : zz_L} {rest_ : List Value} (hd_ : 5 ≤ d) : (zz_o (zz_call_ d 28 [.ref 17, .ref 10, .int (iI t), .int (iI m)] (zm N xs M L)) fun r => zz_X (zz_call_ d) tb_ t_ ls_ (r.1.toList ++ rest_) r.2) = zz_X (zz_call_ d) tb_ t_ ls_ ((.int (iI (-1))) :: rest_) (zm N xs M L) := (s_28F M L t s p m a hw hm hp h7 hf).go hd_
theorem s_29 (x : Int32) : zc 1 29 [.int x] M L (some (.int (iI (kc x)))) M L := by
  refine zc_of (n := 0) (ls := [some (.int x), none]) mk_29 rfl rfl rfl rfl (fun d hd N xs => ?_)
  rw [b_29_0]
  have st : ∀ k : Nat, k < 6 → zz_X (zz_call_ d) tb_29 1 [some (.int x), some (.int (iI k))] [] (zm N xs M L) = if zst0 k = x then some (some (.int (iI k)), zm N xs M L) else zz_X (zz_call_ d) tb_29 1 [some (.int x), some (.int (iI ((k + 1 : Nat) : Int)))] [] (zm N xs M L) := by
    intro k hk6
    rw [b_29_1, if_neg (by rw [t_le, show (6 : Int32).toInt = 6 from rfl, iI_to (by omega) (by omega)]; omega), ix_nat (by omega) (by omega), o_some, b_29_2, show (1 : Int32) = iI 1 from rfl, iI_add]
    rfl
  have e0 := st 0 (by omega)
  have e1 := st 1 (by omega)
  have e2 := st 2 (by omega)
  have e3 := st 3 (by omega)
  have e4 := st 4 (by omega)
  have e5 := st 5 (by omega)
  have e6 : zz_X (zz_call_ d) tb_29 1 [some (.int x), some (.int (iI ((6 : Nat) : Int)))] [] (zm N xs M L) = some (some (.int (iI (-1))), zm N xs M L) := by
    rw [b_29_1, if_pos (by decide), b_29_3]
    rfl
  refine Eq.trans e0 ?_
  unfold kc
  by_cases q0 : x = 99
  · rw [if_pos q0, if_pos (show zst0 0 = x from q0.symm)]; rfl
  · rw [if_neg q0, if_neg (show ¬ zst0 0 = x from fun e => q0 e.symm)]
    refine Eq.trans e1 ?_
    by_cases q1 : x = 107
    · rw [if_pos q1, if_pos (show zst0 1 = x from q1.symm)]; rfl
    · rw [if_neg q1, if_neg (show ¬ zst0 1 = x from fun e => q1 e.symm)]
      refine Eq.trans e2 ?_
      by_cases q2 : x = 98
      · rw [if_pos q2, if_pos (show zst0 2 = x from q2.symm)]; rfl
      · rw [if_neg q2, if_neg (show ¬ zst0 2 = x from fun e => q2 e.symm)]
        refine Eq.trans e3 ?_
        by_cases q3 : x = 115
        · rw [if_pos q3, if_pos (show zst0 3 = x from q3.symm)]; rfl
        · rw [if_neg q3, if_neg (show ¬ zst0 3 = x from fun e => q3 e.symm)]
          refine Eq.trans e4 ?_
          by_cases q4 : x = 109
          · rw [if_pos q4, if_pos (show zst0 4 = x from q4.symm)]; rfl
          · rw [if_neg q4, if_neg (show ¬ zst0 4 = x from fun e => q4 e.symm)]
            refine Eq.trans e5 ?_
            by_cases q5 : x = 114
            · rw [if_pos q5, if_pos (show zst0 5 = x from q5.symm)]; rfl
            · rw [if_neg q5, if_neg (show ¬ zst0 5 = x from fun e => q5 e.symm)]
              exact e6
theorem g_29 (x : Int32) {d N : Nat} {xs : Nat → Int32} {tb_ : List zz_B} {t_ : Nat} {ls_ : zz_L} {rest_ : List Value} (hd_ : 1 ≤ d) : (zz_o (zz_call_ d 29 [.int x] (zm N xs M L)) fun r => zz_X (zz_call_ d) tb_ t_ ls_ (r.1.toList ++ rest_) r.2) = zz_X (zz_call_ d) tb_ t_ ls_ ((.int (iI (kc x))) :: rest_) (zm N xs M L) := (s_29 M L x).go hd_
/-- what a piece leaves in the reader -/
def tpM (s : Nat) (a : Nat → Int32) (M : Nat → Nat → Int32) (n p : Nat) : Nat → Nat → Int32 := zz_wI (zz_wI (zz_wI (zz_wI (zz_wI (zz_wI M 17 7 (iI ((p + 5 : Nat) : Int))) 19 n (iI (kc (chA s a p)))) 20 n (iI (10 * fv s a (p + 1) + fv s a (p + 2)))) 21 n (iI (fv s a (p + 3) - 4))) 22 n (iI (fv s a (p + 4)))) 17 6 (iI ((n + 1 : Nat) : Int))
theorem h_27 {d : Nat} (hd : 6 ≤ d) (N : Nat) (xs : Nat → Int32) (t s p n : Nat) (a : Nat → Int32) (hw : Tw M t s a) (hp : p < s) (hn : n < 6) (h7 : M 17 7 = iI p) : zz_X (zz_call_ d) tb_27 0 [some (.ref 17), some (.ref 10), some (.int (iI t)), some (.int (iI n)), none, none, none, none, none] [] (zm N xs M L) = if (tq s a p).2 = true then some (some (.int (iI 1)), zm N xs (tpM s a M n p) L) else some (some (.int (iI 0)), zm N xs (zz_wI M 17 7 (iI (tq s a p).1)) L) := by
  have h60 := hw.2.1
  have hkb := kc_b (chA s a p)
  have hwp : ∀ v, Tw (zz_wI M 17 7 v) t s a := fun v => hw.cg (fun c _ _ => by rw [w_ne (by omega)])
  rw [b_27_0, h7, g_16T M L hw hp (by omega), b_27_1, g_29 M L _ (by omega), b_27_2]
  by_cases q0 : kc (chA s a p) < 0
  · rw [tq_k q0, if_neg (by rw [t_le, show (0 : Int32).toInt = 0 from rfl, iI_to (by omega) (by omega)]; omega), if_neg (ffF _), w_self h7]
    rfl
  · rw [if_pos (by rw [t_le, show (0 : Int32).toInt = 0 from rfl, iI_to (by omega) (by omega)]; omega), b_27_3, h7, show (1 : Int32) = iI 1 from rfl, iI_add, show (p : Int) + 1 = ((p + 1 : Nat) : Int) by omega, show (5 : Int32) = iI ((5 : Nat) : Int) from rfl]
    by_cases q1 : fg s a 5 (p + 1)
    · have f1 := q1
      rw [g_28T _ L t s (p + 1) 5 a (hwp _) (by omega) w_at q1 (by omega), w_w, b_27_4, if_pos (by rw [t_le, show (0 : Int32).toInt = 0 from rfl, iI_to (by omega) (by omega)]; omega), b_27_5, show (9 : Int32) = iI ((9 : Nat) : Int) from rfl]
      by_cases q2 : fg s a 9 (p + 2)
      · rw [g_28T _ L t s (p + 2) 9 a (hwp _) (by omega) w_at q2 (by omega), w_w, b_27_6, if_pos (by rw [t_le, show (0 : Int32).toInt = 0 from rfl, iI_to (by omega) (by omega)]; omega), b_27_7, show (9 : Int32) = iI ((9 : Nat) : Int) from rfl]
        by_cases q3 : fg s a 9 (p + 3)
        · rw [g_28T _ L t s (p + 3) 9 a (hwp _) (by omega) w_at q3 (by omega), w_w, b_27_8, if_pos (by rw [t_le, show (0 : Int32).toInt = 0 from rfl, iI_to (by omega) (by omega)]; omega), b_27_9, show (3 : Int32) = iI ((3 : Nat) : Int) from rfl]
          by_cases q4 : fg s a 3 (p + 4)
          · rw [g_28T _ L t s (p + 4) 3 a (hwp _) (by omega) w_at q4 (by omega), w_w, b_27_10, if_pos (by rw [t_le, show (0 : Int32).toInt = 0 from rfl, iI_to (by omega) (by omega)]; omega), b_27_11, tq_5 q0 q1 q2 q3 q4, if_pos rfl, ix_nat (by omega) (by omega), o_some, o_some, o_some, o_some, show (10 : Int32) = iI 10 from rfl, show (4 : Int32) = iI 4 from rfl, show (1 : Int32) = iI 1 from rfl, iI_mul, iI_add, iI_add, iI_sub]
            rfl
          · rw [g_28F _ L t s (p + 4) 3 a (hwp _) (by omega) (by omega) w_at q4 (by omega), b_27_10, if_neg (by decide), tq_4 q0 q1 q2 q3 q4, if_neg (ffF _)]
            rfl
        · rw [g_28F _ L t s (p + 3) 9 a (hwp _) (by omega) (by omega) w_at q3 (by omega), b_27_8, if_neg (by decide), b_27_10, if_neg (by decide), tq_3 q0 q1 q2 q3, if_neg (ffF _)]
          rfl
      · rw [g_28F _ L t s (p + 2) 9 a (hwp _) (by omega) (by omega) w_at q2 (by omega), b_27_6, if_neg (by decide), b_27_8, if_neg (by decide), b_27_10, if_neg (by decide), tq_2 q0 q1 q2, if_neg (ffF _)]
        rfl
    · rw [g_28F _ L t s (p + 1) 5 a (hwp _) (by omega) (by omega) w_at q1 (by omega), b_27_4, if_neg (by decide), b_27_6, if_neg (by decide), b_27_8, if_neg (by decide), b_27_10, if_neg (by decide), tq_1 q0 q1, if_neg (ffF _)]
      rfl
theorem s_27T (t s p n : Nat) (a : Nat → Int32) (hw : Tw M t s a) (hp : p < s) (hn : n < 6) (h7 : M 17 7 = iI p) (ht : (tq s a p).2 = true) : zc 7 27 [.ref 17, .ref 10, .int (iI t), .int (iI n)] M L (some (.int (iI 1))) (tpM s a M n p) L := by
  refine zc_of (n := 6) (ls := [some (.ref 17), some (.ref 10), some (.int (iI t)), some (.int (iI n)), none, none, none, none, none]) mk_27 rfl rfl rfl rfl (fun d hd N xs => ?_)
  rw [h_27 M L hd N xs t s p n a hw hp hn h7, if_pos ht]
theorem g_27T (t s p n : Nat) (a : Nat → Int32) (hw : Tw M t s a) (hp : p < s) (hn : n < 6) (h7 : M 17 7 = iI p) (ht : (tq s a p).2 = true) {d N : Nat} {xs : Nat → Int32} {tb_ : List zz_B} {t_ : Nat} {ls_ : zz_L} {rest_ : List Value} (hd_ : 7 ≤ d) : (zz_o (zz_call_ d 27 [.ref 17, .ref 10, .int (iI t), .int (iI n)] (zm N xs M L)) fun r => zz_X (zz_call_ d) tb_ t_ ls_ (r.1.toList ++ rest_) r.2) = zz_X (zz_call_ d) tb_ t_ ls_ ((.int (iI 1)) :: rest_) (zm N xs (tpM s a M n p) L) := (s_27T M L t s p n a hw hp hn h7 ht).go hd_
theorem s_27F (t s p n : Nat) (a : Nat → Int32) (hw : Tw M t s a) (hp : p < s) (hn : n < 6) (h7 : M 17 7 = iI p) (ht : ¬ (tq s a p).2 = true) : zc 7 27 [.ref 17, .ref 10, .int (iI t), .int (iI n)] M L (some (.int (iI 0))) (zz_wI M 17 7 (iI (tq s a p).1)) L := by
  refine zc_of (n := 6) (ls := [some (.ref 17), some (.ref 10), some (.int (iI t)), some (.int (iI n)), none, none, none, none, none]) mk_27 rfl rfl rfl rfl (fun d hd N xs => ?_)
  rw [h_27 M L hd N xs t s p n a hw hp hn h7, if_neg ht]
theorem g_27F (t s p n : Nat) (a : Nat → Int32) (hw : Tw M t s a) (hp : p < s) (hn : n < 6) (h7 : M 17 7 = iI p) (ht : ¬ (tq s a p).2 = true) {d N : Nat} {xs : Nat → Int32} {tb_ : List zz_B} {t_ : Nat} {ls_ : zz_L} {rest_ : List Value} (hd_ : 7 ≤ d) : (zz_o (zz_call_ d 27 [.ref 17, .ref 10, .int (iI t), .int (iI n)] (zm N xs M L)) fun r => zz_X (zz_call_ d) tb_ t_ ls_ (r.1.toList ++ rest_) r.2) = zz_X (zz_call_ d) tb_ t_ ls_ ((.int (iI 0)) :: rest_) (zm N xs (zz_wI M 17 7 (iI (tq s a p).1)) L) := (s_27F M L t s p n a hw hp hn h7 ht).go hd_
end ZR

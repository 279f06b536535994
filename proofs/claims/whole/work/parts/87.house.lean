/-! fault, house: both alike. -/
def Vh (s : Nat) (a : Nat → Int32) (z hc n : Nat) (q : Nat → Nat) : Vw := (n, 0, hc, (fun k => if k < hc then (fv s a (z + 1 + k)).toNat else 0), (fun i => if i < n then (kc (chA s a (q i))).toNat else 0), (fun i => if i < n then fv s a (q i + 3) - 4 else 0), (fun i => if i < n then (fv s a (q i + 4)).toNat else 0), (fun i => if i < n then 10 * fv s a (q i + 1) + fv s a (q i + 2) else 0), 0)
theorem pl_q {s : Nat} {a : Nat → Int32} : ∀ (c p n : Nat) (q : Nat → Nat), n + c = 6 → (∀ i, i < n → (tq s a (q i)).2 = true) → (pl s a c p n q).2.1 ≤ 6 ∧ ∀ i, i < (pl s a c p n q).2.1 → (tq s a ((pl s a c p n q).2.2 i)).2 = true
  | 0, p, n, q, hn, h => ⟨by show n ≤ 6; omega, h⟩
  | c + 1, p, n, q, hn, h => by
    have hE : pl s a (c + 1) p n q = if p < s ∨ n = 0 then (if (tq s a p).2 = true then pl s a c (bl s a (tq s a p).1) (n + 1) (dup q n p) else ((tq s a p).1, n, q)) else (-9, n, q) := rfl
    rw [hE]
    by_cases q0 : p < s ∨ n = 0
    · rw [if_pos q0]
      by_cases q1 : (tq s a p).2 = true
      · rw [if_pos q1]
        refine pl_q c _ (n + 1) _ (by omega) (fun i hi => ?_)
        by_cases e : i = n
        · rw [e, dup_at]; exact q1
        · rw [dup_ne e]; exact h i (by omega)
      · rw [if_neg q1]; exact ⟨by show n ≤ 6; omega, h⟩
    · rw [if_neg q0]; exact ⟨by show n ≤ 6; omega, h⟩
theorem rd_q {s : Nat} {a : Nat → Int32} (h : (rdV s a).1 = -9) : (rdV s a).2.1 ≤ 6 ∧ 0 < hf s a (bl s a 0) ∧ ∀ i, i < (rdV s a).2.1 → (tq s a ((rdV s a).2.2 i)).2 = true := by
  unfold rdV at h ⊢
  by_cases q : chA s a (bl s a 0) = 122
  · rw [if_pos q] at h ⊢
    by_cases q1 : hf s a (bl s a 0) = 0
    · rw [if_pos q1] at h
      have h' : (((bl s a 0 + 1 : Nat) : Int)) = -9 := h
      omega
    · rw [if_neg q1] at h ⊢
      have := pl_q (s := s) (a := a) 6 (bl s a (bl s a 0 + 1 + hf s a (bl s a 0))) 0 (fun _ => 0) (by omega) (fun i hi => by omega)
      exact ⟨this.1, by omega, this.2⟩
  · rw [if_neg q] at h
    have h' : (((bl s a 0 : Nat) : Int)) = -9 := h
    omega
theorem Vh_k {s z hc n : Nat} {a : Nat → Int32} {q : Nat → Nat} (hn : n ≤ 6) (hh : hc ≤ 7) (h0 : 0 < hc) (hf : ∀ k, k < hc → fg s a 3 (z + 1 + k)) (hq : ∀ i, i < n → (tq s a (q i)).2 = true) : Vk (Vh s a z hc n q) := by
  refine ⟨hn, hh, fun _ => h0, by show 0 ≤ 40; omega, fun k => ?_, fun i => ?_, fun i => ?_, fun i => ?_, fun i => ?_, by show 0 < 64; omega⟩
  · show (if k < hc then (fv s a (z + 1 + k)).toNat else 0) ≤ 3
    by_cases e : k < hc
    · have := hf k e
      rw [if_pos e]; omega
    · rw [if_neg e]; omega
  · show (if i < n then (kc (chA s a (q i))).toNat else 0) < 6
    by_cases e : i < n
    · have := kc_b (chA s a (q i))
      rw [if_pos e]; omega
    · rw [if_neg e]; omega
  · show -4 ≤ (if i < n then fv s a (q i + 3) - 4 else 0) ∧ (if i < n then fv s a (q i + 3) - 4 else 0) ≤ 5
    by_cases e : i < n
    · have := (tq_i (hq i e)).2.2.2.1
      rw [if_pos e]; omega
    · rw [if_neg e]; omega
  · show (if i < n then (fv s a (q i + 4)).toNat else 0) ≤ 3
    by_cases e : i < n
    · have := (tq_i (hq i e)).2.2.2.2.1
      rw [if_pos e]; omega
    · rw [if_neg e]; omega
  · show 0 ≤ (if i < n then 10 * fv s a (q i + 1) + fv s a (q i + 2) else 0) ∧ (if i < n then 10 * fv s a (q i + 1) + fv s a (q i + 2) else 0) < 60
    by_cases e : i < n
    · have h1 := (tq_i (hq i e)).2.1
      have h2 := (tq_i (hq i e)).2.2.1
      rw [if_pos e]; omega
    · rw [if_neg e]; omega
/-- what is copied of the reader -/
def fC (M : Nat → Nat → Int32) (k : Nat) : Nat → Nat → Int32 := fun c j => if c = 28 ∧ j < k then M 22 j else if c = 27 ∧ j < k then M 21 j else if c = 26 ∧ j < k then M 20 j else if c = 25 ∧ j < k then M 19 j else M c j
def f0 (M : Nat → Nat → Int32) : Nat → Nat → Int32 := zz_wI (zz_wI M 23 9 (M 17 5)) 23 10 (M 17 6)
def fF (M : Nat → Nat → Int32) : Nat → Nat → Int32 := sI (fC (sI (f0 M) 24 (M 18) 7) 6) 35 (fun _ => iI (-1)) 3
theorem fC_0 (M : Nat → Nat → Int32) : fC M 0 = M := by
  funext c j
  unfold fC
  rw [if_neg (by omega), if_neg (by omega), if_neg (by omega), if_neg (by omega)]
theorem fC_ne {M : Nat → Nat → Int32} {k c : Nat} (h : c < 25 ∨ 28 < c) : fC M k c = M c := by
  funext j
  unfold fC
  rw [if_neg (by omega), if_neg (by omega), if_neg (by omega), if_neg (by omega)]
theorem fC_s (M : Nat → Nat → Int32) (k : Nat) : zz_wI (zz_wI (zz_wI (zz_wI (fC M k) 25 k (M 19 k)) 26 k (M 20 k)) 27 k (M 21 k)) 28 k (M 22 k) = fC M (k + 1) := by
  funext c j
  simp only [w_val]
  unfold fC
  by_cases q : j = k
  · subst q
    simp only [and_true, Nat.lt_irrefl, and_false, if_false, Nat.lt_succ_self]
  · have e : (j < k + 1) = (j < k) := by rw [eq_iff_iff]; omega
    simp only [q, and_false, if_false, e]
theorem f0_ne {M : Nat → Nat → Int32} {c : Nat} (h : c ≠ 23) : f0 M c = M c := by
  unfold f0
  rw [w_ne h, w_ne h]
theorem fF_ne {M : Nat → Nat → Int32} {c : Nat} (h : c < 23 ∨ 35 < c) : fF M c = M c := by
  unfold fF
  rw [sI_ne (by omega), fC_ne (by omega), sI_ne (by omega), f0_ne (by omega)]
theorem fF_Hs {s z hc n : Nat} {a : Nat → Int32} {q : Nat → Nat} {M : Nat → Nat → Int32} (hn : n ≤ 6) (hh : hc ≤ 7) (hf : ∀ k, k < hc → fg s a 3 (z + 1 + k)) (hq : ∀ i, i < n → (tq s a (q i)).2 = true) (h : CX s a z hc n q M) : Hs (Vh s a z hc n q) (fF M) := by
  obtain ⟨h1, h2, h3, h4⟩ := h
  have e : ∀ c j, c ≠ 35 → fF M c j = fC (sI (f0 M) 24 (M 18) 7) 6 c j := fun c j hc => by unfold fF; rw [sI_ne hc]
  have g : ∀ c, 19 ≤ c → c ≤ 22 → sI (f0 M) 24 (M 18) 7 c = M c := fun c c1 c2 => by rw [sI_ne (by omega), f0_ne (by omega)]
  refine ⟨?_, ?_, fun k hk => ?_, fun i hi => ?_, fun i hi => ?_, fun i hi => ?_, fun i hi => ?_⟩
  · rw [e _ _ (by omega), fC_ne (by omega), sI_ne (by omega)]
    unfold f0
    rw [w_at]; exact h2
  · rw [e _ _ (by omega), fC_ne (by omega), sI_ne (by omega)]
    unfold f0
    rw [w_nk (by omega), w_at]; exact h1
  · have hk' : k < hc := hk
    have := hf k hk'
    rw [e _ _ (by omega), fC_ne (by omega), sI_in (by omega), h3 k hk']
    show _ = iI ((if k < hc then (fv s a (z + 1 + k)).toNat else 0 : Nat) : Int)
    rw [if_pos hk']
    congr 1
    omega
  · have hi' : i < n := hi
    have := (tq_i (hq i hi')).1
    rw [e _ _ (by omega)]
    unfold fC
    rw [if_neg (by omega), if_neg (by omega), if_neg (by omega), if_pos (by omega), g 19 (by omega) (by omega), (h4 i hi').1]
    show _ = iI ((if i < n then (kc (chA s a (q i))).toNat else 0 : Nat) : Int)
    rw [if_pos hi']
    congr 1
    omega
  · have hi' : i < n := hi
    rw [e _ _ (by omega)]
    unfold fC
    rw [if_neg (by omega), if_pos (by omega), g 21 (by omega) (by omega), (h4 i hi').2.2.1]
    show _ = iI (if i < n then fv s a (q i + 3) - 4 else 0)
    rw [if_pos hi']
  · have hi' : i < n := hi
    have := (tq_i (hq i hi')).2.2.2.2.1
    rw [e _ _ (by omega)]
    unfold fC
    rw [if_pos (by omega), g 22 (by omega) (by omega), (h4 i hi').2.2.2]
    show _ = iI ((if i < n then (fv s a (q i + 4)).toNat else 0 : Nat) : Int)
    rw [if_pos hi']
    congr 1
    omega
  · have hi' : i < n := hi
    rw [e _ _ (by omega)]
    unfold fC
    rw [if_neg (by omega), if_neg (by omega), if_pos (by omega), g 20 (by omega) (by omega), (h4 i hi').2.1]
    show _ = iI (if i < n then 10 * fv s a (q i + 1) + fv s a (q i + 2) else 0)
    rw [if_pos hi']
section ZR
variable (M : Nat → Nat → Int32) (L : Nat → Nat → Int64)
theorem s_30 (V : Vw) (hk : Vk V) (h0 : V.day = 0) (ht : V.tset = 0) (hs : Hs V (fF M)) : zc 6 30 [.ref 23, .ref 17] M L none (gb0 (fF M)) L := by
  refine zc_of (n := 5) (ls := [some (.ref 23), some (.ref 17), none]) mk_30 rfl rfl rfl rfl (fun d hd N xs => ?_)
  rw [b_30_0, show zz_wI (zz_wI M 23 9 (M 17 5)) 23 10 ((zz_wI M 23 9 (M 17 5)) 17 6) = f0 M by unfold f0; rw [w_ne (by omega : (17 : Nat) ≠ 23)]]
  have l1 := upto (fun k : Nat => zz_X (zz_call_ d) tb_30 1 [some (.ref 23), some (.ref 17), some (.int (iI k))] [] (zm N xs (sI (f0 M) 24 (M 18) k) L)) 7 (fun k hk6 => by
    show zz_X (zz_call_ d) tb_30 1 _ _ _ = zz_X (zz_call_ d) tb_30 1 _ _ _
    rw [b_30_1, if_neg (by rw [t_le, show (7 : Int32).toInt = 7 from rfl, iI_to (by omega) (by omega)]; omega), ix_nat (by omega) (by omega), o_some, o_some, sI_ne (by omega : (18 : Nat) ≠ 24), f0_ne (by omega : (18 : Nat) ≠ 23), sI_s, show (1 : Int32) = iI 1 from rfl, iI_add]
    rfl)
  simp only [sI_0] at l1
  refine Eq.trans l1 ?_
  rw [b_30_1, if_pos (by rw [t_le, show (7 : Int32).toInt = 7 from rfl, iI_to (by omega) (by omega)]; omega), b_30_2]
  have g : ∀ c, 19 ≤ c → c ≤ 22 → sI (f0 M) 24 (M 18) 7 c = M c := fun c c1 c2 => by rw [sI_ne (by omega), f0_ne (by omega)]
  generalize hF : sI (f0 M) 24 (M 18) 7 = F at *
  have l2 := upto (fun k : Nat => zz_X (zz_call_ d) tb_30 3 [some (.ref 23), some (.ref 17), some (.int (iI k))] [] (zm N xs (fC F k) L)) 6 (fun k hk6 => by
    show zz_X (zz_call_ d) tb_30 3 _ _ _ = zz_X (zz_call_ d) tb_30 3 _ _ _
    have es := fC_s F k
    rw [b_30_3, if_neg (by rw [t_le, show (6 : Int32).toInt = 6 from rfl, iI_to (by omega) (by omega)]; omega), ix_nat (by omega) (by omega), o_some, o_some, o_some, o_some, o_some, o_some, o_some, o_some, w_ne (by omega : (20 : Nat) ≠ 25), w_ne (by omega : (21 : Nat) ≠ 26), w_ne (by omega : (21 : Nat) ≠ 25), w_ne (by omega : (22 : Nat) ≠ 27), w_ne (by omega : (22 : Nat) ≠ 26), w_ne (by omega : (22 : Nat) ≠ 25), fC_ne (c := 19) (by omega), fC_ne (c := 20) (by omega), fC_ne (c := 21) (by omega), fC_ne (c := 22) (by omega), es, show (1 : Int32) = iI 1 from rfl, iI_add]
    rfl)
  simp only [fC_0] at l2
  refine Eq.trans l2 ?_
  rw [b_30_3, if_pos (by rw [t_le, show (6 : Int32).toInt = 6 from rfl, iI_to (by omega) (by omega)]; omega), b_30_4]
  have l3 := upto (fun k : Nat => zz_X (zz_call_ d) tb_30 5 [some (.ref 23), some (.ref 17), some (.int (iI k))] [] (zm N xs (sI (fC F 6) 35 (fun _ => iI (-1)) k) L)) 3 (fun k hk6 => by
    show zz_X (zz_call_ d) tb_30 5 _ _ _ = zz_X (zz_call_ d) tb_30 5 _ _ _
    rw [b_30_5, if_neg (by rw [t_le, show (3 : Int32).toInt = 3 from rfl, iI_to (by omega) (by omega)]; omega), ix_nat (by omega) (by omega), o_some, show (-1 : Int32) = iI (-1) from rfl, sI_s (fC F 6) 35 (fun _ => iI (-1)) k, show (1 : Int32) = iI 1 from rfl, iI_add]
    rfl)
  simp only [sI_0] at l3
  refine Eq.trans l3 ?_
  have hF2 : sI (fC F 6) 35 (fun _ => iI (-1)) 3 = fF M := by unfold fF; rw [hF]
  have g57 := g_57 (d := d) (N := N) (xs := xs) (tb_ := tb_30) (t_ := 7) (ls_ := [some (.ref 23), some (.ref 17), some (.int (iI ((3 : Nat) : Int)))]) (rest_ := []) (fF M) L V hk h0 ht hs (fun _ => 0) 0 (by omega) (fun k hk => by omega) (fun k hk => by omega) (by omega)
  rw [b_30_5, if_pos (by rw [t_le, show (3 : Int32).toInt = 3 from rfl, iI_to (by omega) (by omega)]; omega), b_30_6, hF2]
  refine Eq.trans g57 ?_
  rw [b_30_7]
  rfl
theorem g_30 (V : Vw) (hk : Vk V) (h0 : V.day = 0) (ht : V.tset = 0) (hs : Hs V (fF M)) {d N : Nat} {xs : Nat → Int32} {tb_ : List zz_B} {t_ : Nat} {ls_ : zz_L} {rest_ : List Value} (hd_ : 6 ≤ d) : (zz_o (zz_call_ d 30 [.ref 23, .ref 17] (zm N xs M L)) fun r => zz_X (zz_call_ d) tb_ t_ ls_ (r.1.toList ++ rest_) r.2) = zz_X (zz_call_ d) tb_ t_ ls_ rest_ (zm N xs (gb0 (fF M)) L) := (s_30 M L V hk h0 ht hs).gov hd_
theorem r_103 {y v : Int32} {M M' : Nat → Nat → Int32} (h : zc 3 142 [.ref 0, .ref 10, .int y] M L (some (.int v)) M' L) (hv : ¬ v = 0) : zc 5 103 [.ref 0, .int y] M L (some (.int v)) M' L := by
  refine zc_of (n := 4) (ls := [some (.ref 0), some (.int y), none]) mk_103 rfl rfl rfl rfl (fun d hd N xs => ?_)
  rw [b_103_0, h.go (by omega), b_103_1, if_neg hv]
theorem r_104 {y v : Int32} {M M' : Nat → Nat → Int32} (h : zc 3 142 [.ref 0, .ref 10, .int y] M L (some (.int v)) M' L) (hv : ¬ v = 0) : zc 5 104 [.ref 0, .int y] M L (some (.int v)) M' L := by
  refine zc_of (n := 4) (ls := [some (.ref 0), some (.int y), none]) mk_104 rfl rfl rfl rfl (fun d hd N xs => ?_)
  rw [b_104_0, h.go (by omega), b_104_1, if_neg hv]
theorem s_183B (z : Int) (h1 : -2147483648 ≤ z) (h2 : z ≤ 2147483647) (h : ¬ (0 ≤ z ∧ z < 4)) : zc 4 183 [.ref 52, .int (iI z)] M L (some (.int (iI (-1)))) M L := by
  refine zc_of (n := 3) (ls := [some (.ref 52), some (.int (iI z))]) mk_183 rfl rfl rfl rfl (fun d hd N xs => ?_)
  rw [b_183_0, g_165 M L z h1 h2 (by omega), b2_f h, b_183_1, if_pos (show iI 0 = (0 : Int32) from rfl)]
  rfl
theorem g_183B (z : Int) (h1 : -2147483648 ≤ z) (h2 : z ≤ 2147483647) (h : ¬ (0 ≤ z ∧ z < 4)) {d N : Nat} {xs : Nat → Int32} {tb_ : List zz_B} {t_ : Nat} {ls_ : zz_L} {rest_ : List Value} (hd_ : 4 ≤ d) : (zz_o (zz_call_ d 183 [.ref 52, .int (iI z)] (zm N xs M L)) fun r => zz_X (zz_call_ d) tb_ t_ ls_ (r.1.toList ++ rest_) r.2) = zz_X (zz_call_ d) tb_ t_ ls_ ((.int (iI (-1))) :: rest_) (zm N xs M L) := (s_183B M L z h1 h2 h).go hd_
theorem s_184B (z : Int) (h1 : -2147483648 ≤ z) (h2 : z ≤ 2147483647) (h : ¬ (0 ≤ z ∧ z < 4)) : zc 4 184 [.ref 52, .int (iI z)] M L (some (.int (iI (-1)))) M L := by
  refine zc_of (n := 3) (ls := [some (.ref 52), some (.int (iI z)), none]) mk_184 rfl rfl rfl rfl (fun d hd N xs => ?_)
  rw [b_184_0, g_165 M L z h1 h2 (by omega), b2_f h, b_184_1, if_pos (show iI 0 = (0 : Int32) from rfl)]
  rfl
theorem g_184B (z : Int) (h1 : -2147483648 ≤ z) (h2 : z ≤ 2147483647) (h : ¬ (0 ≤ z ∧ z < 4)) {d N : Nat} {xs : Nat → Int32} {tb_ : List zz_B} {t_ : Nat} {ls_ : zz_L} {rest_ : List Value} (hd_ : 4 ≤ d) : (zz_o (zz_call_ d 184 [.ref 52, .int (iI z)] (zm N xs M L)) fun r => zz_X (zz_call_ d) tb_ t_ ls_ (r.1.toList ++ rest_) r.2) = zz_X (zz_call_ d) tb_ t_ ls_ ((.int (iI (-1))) :: rest_) (zm N xs M L) := (s_184B M L z h1 h2 h).go hd_
theorem s_183N (t : Nat) (ht : t < 4) (hm : (M 58 t).toInt < 0) : zc 4 183 [.ref 52, .int (iI t)] M L (some (.int (iI (-3)))) (fndR M 1) L := by
  refine zc_of (n := 3) (ls := [some (.ref 52), some (.int (iI t))]) mk_183 rfl rfl rfl rfl (fun d hd N xs => ?_)
  rw [b_183_0, g_165 M L t (by omega) (by omega) (by omega), b2_t (by omega), b_183_1, if_neg (show ¬ iI 1 = (0 : Int32) from iI10), b_183_2, ix_nat (by omega) (by omega), o_some, if_neg (by rw [t_le, show (0 : Int32).toInt = 0 from rfl]; omega), show (1 : Int32) = iI ((1 : Nat) : Int) from rfl, g_161 M L 1 (by omega) (by omega) (by omega), b_183_3, b_183_5]
theorem g_183N (t : Nat) (ht : t < 4) (hm : (M 58 t).toInt < 0) {d N : Nat} {xs : Nat → Int32} {tb_ : List zz_B} {t_ : Nat} {ls_ : zz_L} {rest_ : List Value} (hd_ : 4 ≤ d) : (zz_o (zz_call_ d 183 [.ref 52, .int (iI t)] (zm N xs M L)) fun r => zz_X (zz_call_ d) tb_ t_ ls_ (r.1.toList ++ rest_) r.2) = zz_X (zz_call_ d) tb_ t_ ls_ ((.int (iI (-3))) :: rest_) (zm N xs (fndR M 1) L) := (s_183N M L t ht hm).go hd_
theorem s_184N (t : Nat) (ht : t < 4) (hm : (M 58 t).toInt < 0) : zc 4 184 [.ref 52, .int (iI t)] M L (some (.int (iI (-3)))) (fndR M 1) L := by
  refine zc_of (n := 3) (ls := [some (.ref 52), some (.int (iI t)), none]) mk_184 rfl rfl rfl rfl (fun d hd N xs => ?_)
  rw [b_184_0, g_165 M L t (by omega) (by omega) (by omega), b2_t (by omega), b_184_1, if_neg (show ¬ iI 1 = (0 : Int32) from iI10), b_184_2, ix_nat (by omega) (by omega), o_some, if_neg (by rw [t_le, show (0 : Int32).toInt = 0 from rfl]; omega), show (1 : Int32) = iI ((1 : Nat) : Int) from rfl, g_161 M L 1 (by omega) (by omega) (by omega), b_184_3]
theorem g_184N (t : Nat) (ht : t < 4) (hm : (M 58 t).toInt < 0) {d N : Nat} {xs : Nat → Int32} {tb_ : List zz_B} {t_ : Nat} {ls_ : zz_L} {rest_ : List Value} (hd_ : 4 ≤ d) : (zz_o (zz_call_ d 184 [.ref 52, .int (iI t)] (zm N xs M L)) fun r => zz_X (zz_call_ d) tb_ t_ ls_ (r.1.toList ++ rest_) r.2) = zz_X (zz_call_ d) tb_ t_ ls_ ((.int (iI (-3))) :: rest_) (zm N xs (fndR M 1) L) := (s_184N M L t ht hm).go hd_
end ZR
theorem p17_A {M M' : Nat → Nat → Int32} (h : eqs M M' p17) : eqs M M' pA := h.im (fun c k q => by unfold pA pR pT pD pF pH at q; unfold p17; omega)
theorem pRd_A {M M' : Nat → Nat → Int32} (h : eqs M M' pRd) : eqs M M' pA := h.im (fun c k q => by unfold pA pR pT pD pF pH at q; unfold pRd; omega)
theorem TX.no {M : Nat → Nat → Int32} (h : TX M) {r : Nat} (hr : r < 4) (hn : (M 16 r).toInt = -1) : (M 58 r).toInt < 0 := by
  rw [(h r hr).1, hn]
  omega
theorem o_fault {M : Nat → Nat → Int32} {L : Nat → Nat → Int64} (x : Int32) (hI : Inv M L) : Ok 103 183 [.int x] M L := by
  obtain ⟨z, h1, h2, rfl⟩ := iI_of x
  by_cases q : 0 ≤ z ∧ z < 4
  · obtain ⟨t, rfl⟩ : ∃ y : Nat, z = y := ⟨z.toNat, by omega⟩
    have ht : t < 4 := by omega
    by_cases q1 : (M 16 t).toInt = -1
    · exact Ok.fd hI (r_103 L (s_142bN M L t (by omega) (by omega) (by rw [Int.toNat_natCast]; exact q1)) (by decide)) (s_183N (fnd M 1) L t ht (by rw [fnd_ne (by omega) (by omega)]; exact hI.2.1.no ht q1)) (by omega) (by omega)
    · obtain ⟨s, a, ha, hb⟩ := hI.2.1.get ht q1
      obtain ⟨M1, r1, r2, r3⟩ := x_24 L ha
      have hb1 : Tr M1 t s a := hb.cg (r1.col 57 (fun k => Or.inr (by omega))) (r1.col 58 (fun k => Or.inr (by omega)))
      obtain ⟨M2, p1, p2, p3⟩ := x_182 L hb1
      have h60 := hb1.2.1
      refine ⟨_, M1, L, M2, L, zc.mono (n := 11) (zc_of (n := 10) (v := some (.int (iI (rdV s a).1))) (ls := [some (.ref 0), some (.int (iI t)), none]) mk_103 rfl rfl rfl rfl (fun d hd N xs => ?_)) (by omega), zc.mono (n := 8) (zc_of (n := 7) (ls := [some (.ref 52), some (.int (iI t))]) mk_183 rfl rfl rfl rfl (fun d hd N xs => ?_)) (by omega), hI.cg ((p17_A r1).tr (pRd_A p1)) SL.rf⟩
      · rw [b_103_0, g_142bO M L t (by omega) (by omega) (by rw [Int.toNat_natCast]; exact q1) (by omega), b_103_1, if_pos (show iI 0 = (0 : Int32) from rfl), b_103_2, r3.go (by omega), b_103_3]
      · rw [b_183_0, g_165 M1 L t (by omega) (by omega) (by omega), b2_t (by omega), b_183_1, if_neg (show ¬ iI 1 = (0 : Int32) from iI10), b_183_2, ix_nat (by omega) (by omega), o_some, hb1.2.2.1, if_pos (by rw [t_le, show (0 : Int32).toInt = 0 from rfl, iI_to (by omega) (by omega)]; omega), b_183_4, p3.go (by omega), b_183_5]
  · exact Ok.same hI (r_103 L (s_142bB M L z h1 h2 q) (by decide)) (s_183B M L z h1 h2 q) (by omega) (by omega)
theorem pl_b {s : Nat} {a : Nat → Int32} : ∀ (c p n : Nat) (q : Nat → Nat), p ≤ s → (pl s a c p n q).1 ≤ s ∧ -9 ≤ (pl s a c p n q).1
  | 0, p, n, q, hp => by
    show (if p < s then (p : Int) else -9) ≤ s ∧ -9 ≤ (if p < s then (p : Int) else -9)
    split <;> omega
  | c + 1, p, n, q, hp => by
    have hE : pl s a (c + 1) p n q = if p < s ∨ n = 0 then (if (tq s a p).2 = true then pl s a c (bl s a (tq s a p).1) (n + 1) (dup q n p) else ((tq s a p).1, n, q)) else (-9, n, q) := rfl
    have ht := tq_le (a := a) hp
    rw [hE]
    by_cases q0 : p < s ∨ n = 0
    · rw [if_pos q0]
      by_cases q1 : (tq s a p).2 = true
      · rw [if_pos q1]; exact pl_b c _ _ _ (bl_le ht)
      · rw [if_neg q1]; show (((tq s a p).1 : Nat) : Int) ≤ s ∧ -9 ≤ (((tq s a p).1 : Nat) : Int); omega
    · rw [if_neg q0]; show (-9 : Int) ≤ s ∧ (-9 : Int) ≤ -9; omega
theorem rd_b (s : Nat) (a : Nat → Int32) : (rdV s a).1 ≤ s + 1 ∧ -9 ≤ (rdV s a).1 := by
  have hz := bl_le (s := s) (a := a) (Nat.zero_le s)
  unfold rdV
  by_cases q : chA s a (bl s a 0) = 122
  · rw [if_pos q]
    have hzs : bl s a 0 < s := by
      by_cases e : bl s a 0 < s
      · exact e
      · rw [ch_out e] at q; exact absurd q (by decide)
    by_cases q1 : hf s a (bl s a 0) = 0
    · rw [if_pos q1]; show (((bl s a 0 + 1 : Nat) : Int)) ≤ s + 1 ∧ -9 ≤ (((bl s a 0 + 1 : Nat) : Int)); omega
    · rw [if_neg q1]
      have := pl_b (s := s) (a := a) 6 (bl s a (bl s a 0 + 1 + hf s a (bl s a 0))) 0 (fun _ => 0) (bl_le (hf_s hzs))
      omega
  · rw [if_neg q]; show (((bl s a 0 : Nat) : Int)) ≤ s + 1 ∧ -9 ≤ (((bl s a 0 : Nat) : Int)); omega
theorem o_house {M : Nat → Nat → Int32} {L : Nat → Nat → Int64} (x : Int32) (hI : Inv M L) : Ok 104 184 [.int x] M L := by
  obtain ⟨z, h1, h2, rfl⟩ := iI_of x
  by_cases q : 0 ≤ z ∧ z < 4
  · obtain ⟨t, rfl⟩ : ∃ y : Nat, z = y := ⟨z.toNat, by omega⟩
    have ht : t < 4 := by omega
    by_cases q1 : (M 16 t).toInt = -1
    · exact Ok.fd hI (r_104 L (s_142bN M L t (by omega) (by omega) (by rw [Int.toNat_natCast]; exact q1)) (by decide)) (s_184N (fnd M 1) L t ht (by rw [fnd_ne (by omega) (by omega)]; exact hI.2.1.no ht q1)) (by omega) (by omega)
    · obtain ⟨s, a, ha, hb⟩ := hI.2.1.get ht q1
      obtain ⟨M1, r1, r2, r3⟩ := x_24 L ha
      have h60 := hb.2.1
      have hrb := rd_b s a
      have hc1 : ∀ d, 10 ≤ d → ∀ N xs, zz_X (zz_call_ d) tb_104 0 [some (.ref 0), some (.int (iI t)), none] [] (zm N xs M L) = zz_X (zz_call_ d) tb_104 3 [some (.ref 0), some (.int (iI t)), some (.int (iI 0))] [.int (iI (rdV s a).1)] (zm N xs M1 L) := by
        intro d hd N xs
        rw [b_104_0, g_142bO M L t (by omega) (by omega) (by rw [Int.toNat_natCast]; exact q1) (by omega), b_104_1, if_pos (show iI 0 = (0 : Int32) from rfl), b_104_2, r3.go (by omega)]
      have hc2 : ∀ {M1 M2 : Nat → Nat → Int32}, Tr M1 t s a → zc 6 182 [.ref 52, .int (iI t)] M1 L (some (.int (iI (rdV s a).1))) M2 L → ∀ d, 7 ≤ d → ∀ N xs, zz_X (zz_call_ d) tb_184 0 [some (.ref 52), some (.int (iI t)), none] [] (zm N xs M1 L) = zz_X (zz_call_ d) tb_184 5 [some (.ref 52), some (.int (iI t)), none] [.int (iI (rdV s a).1)] (zm N xs M2 L) := by
        intro M1 M2 hb1 p3 d hd N xs
        rw [b_184_0, g_165 M1 L t (by omega) (by omega) (by omega), b2_t (by omega), b_184_1, if_neg (show ¬ iI 1 = (0 : Int32) from iI10), b_184_2, ix_nat (by omega) (by omega), o_some, hb1.2.2.1, if_pos (by rw [t_le, show (0 : Int32).toInt = 0 from rfl, iI_to (by omega) (by omega)]; omega), b_184_4, p3.go (by omega)]
      by_cases q9 : (rdV s a).1 = -9
      · obtain ⟨k1, k2, k3⟩ := rd_q q9
        have hcx := r2 q9
        have hh := hf_le s (bl s a 0) a
        have hfg : ∀ k, k < hf s a (bl s a 0) → fg s a 3 (bl s a 0 + 1 + k) := fun k hk => hf_lt hk
        generalize hz : bl s a 0 = z at *
        generalize hhc : hf s a z = hc at *
        generalize hnn : (rdV s a).2.1 = n at *
        generalize hqq : (rdV s a).2.2 = qf at *
        have hVk := Vh_k k1 hh k2 hfg k3
        have hHs := fF_Hs k1 hh hfg k3 hcx
        have c30 := s_30 M1 L (Vh s a z hc n qf) hVk rfl rfl hHs
        have hHv := gb0_h hVk rfl rfl hHs
        have ne : ∀ c, (c < 23 ∨ 35 < c) → gb0 (fF M1) c = M1 c := fun c hc => by unfold gb0; rw [w_ne (by omega), w_ne (by omega), w_ne (by omega), sI_ne (by omega), fF_ne hc]
        have en : gb0 (fF M1) 23 10 = iI n := hHv.n
        have hb1 : Tr (gb0 (fF M1)) t s a := hb.cg (by rw [ne 57 (by omega)]; exact r1.col 57 (fun k => Or.inr (by omega))) (by rw [ne 58 (by omega)]; exact r1.col 58 (fun k => Or.inr (by omega)))
        obtain ⟨M2, p1, p2, p3⟩ := x_182 L hb1
        rw [hnn, hqq, hz, hhc] at p2
        have hcr := p2 q9
        have c1 : zc 11 104 [.ref 0, .int (iI t)] M L (some (.int (iI n))) (gb0 (fF M1)) L := by
          refine zc_of (n := 10) (ls := [some (.ref 0), some (.int (iI t)), none]) mk_104 rfl rfl rfl rfl (fun d hd N xs => ?_)
          rw [hc1 d hd N xs, b_104_3, if_pos (by rw [q9]; rfl), b_104_4, c30.gov (by omega), b_104_5, en]
        have g163 := s_163 M2 L 6560 0 40 (by omega) (by omega) (by omega)
        have e530 : zz_rI M2 53 (va_cpy (M2 53) (M2 53) 6560 0 40) 53 0 = iI n := by rw [rr_at, c_in (by omega) (by omega)]; exact hcr.1
        have c2 : zc 8 184 [.ref 52, .int (iI t)] (gb0 (fF M1)) L (some (.int (iI n))) (sI (zz_wI (zz_rI M2 53 (va_cpy (M2 53) (M2 53) 6560 0 40)) 52 1 (iI 0)) 54 (fun _ => iI (-1)) 3) L := by
          refine zc_of (n := 7) (ls := [some (.ref 52), some (.int (iI t)), none]) mk_184 rfl rfl rfl rfl (fun d hd N xs => ?_)
          rw [hc2 hb1 p3 d hd N xs, b_184_5, if_pos (by rw [q9]; rfl), b_184_6]
          refine Eq.trans (g163.gov (by omega)) ?_
          rw [b_184_7]
          have l3 := upto (fun k : Nat => zz_X (zz_call_ d) tb_184 8 [some (.ref 52), some (.int (iI t)), some (.int (iI k))] [] (zm N xs (sI (zz_wI (zz_rI M2 53 (va_cpy (M2 53) (M2 53) 6560 0 40)) 52 1 (iI 0)) 54 (fun _ => iI (-1)) k) L)) 3 (fun k hk6 => by
            show zz_X (zz_call_ d) tb_184 8 _ _ _ = zz_X (zz_call_ d) tb_184 8 _ _ _
            rw [b_184_8, if_neg (by rw [t_le, show (3 : Int32).toInt = 3 from rfl, iI_to (by omega) (by omega)]; omega), ix_nat (by omega) (by omega), o_some, show (-1 : Int32) = iI (-1) from rfl, sI_s (zz_wI (zz_rI M2 53 (va_cpy (M2 53) (M2 53) 6560 0 40)) 52 1 (iI 0)) 54 (fun _ => iI (-1)) k, show (1 : Int32) = iI 1 from rfl, iI_add]
            rfl)
          simp only [sI_0] at l3
          refine Eq.trans l3 ?_
          rw [b_184_8, if_pos (by rw [t_le, show (3 : Int32).toInt = 3 from rfl, iI_to (by omega) (by omega)]; omega), b_184_9, sI_ne (by omega : (53 : Nat) ≠ 54), w_ne (by omega : (53 : Nat) ≠ 52), e530]
        refine ⟨_, _, _, _, _, c1.mono (by omega), c2.mono (by omega), ?_⟩
        have gbe : ∀ p : Nat → Nat → Prop, (∀ c k, 23 ≤ c → c ≤ 35 → ¬ p c k) → eqs M1 (gb0 (fF M1)) p := fun p hp c k h => by
          rw [ne c]
          by_cases e : c < 23 ∨ 35 < c
          · exact e
          · exact absurd h (hp c k (by omega) (by omega))
        have big : ∀ p : Nat → Nat → Prop, (∀ c k, p c k → p17 c k) → (∀ c k, 23 ≤ c → c ≤ 35 → ¬ p c k) → (∀ c k, p c k → pRd c k) → (∀ k, ¬ p 53 k) → ¬ p 52 1 → (∀ k, ¬ p 54 k) → eqs M (sI (zz_wI (zz_rI M2 53 (va_cpy (M2 53) (M2 53) 6560 0 40)) 52 1 (iI 0)) 54 (fun _ => iI (-1)) 3) p := fun p a1 a2 a3 a4 a5 a6 => (((((r1.im a1).tr (gbe p a2)).tr (p1.im a3)).r a4).w a5).r a6
        refine ⟨hI.1.cg (big pR ?_ ?_ ?_ ?_ ?_ ?_), hI.2.1.cg (big pT ?_ ?_ ?_ ?_ ?_ ?_), hI.2.2.1.cg (big pD ?_ ?_ ?_ ?_ ?_ ?_), hI.2.2.2.1.cg (big pF ?_ ?_ ?_ ?_ ?_ ?_), ?_, hI.2.2.2.2.2⟩
        all_goals first | (unfold pR p17; omega) | (unfold pT p17; omega) | (unfold pD p17; omega) | (unfold pF p17; omega) | (unfold pR pRd; omega) | (unfold pT pRd; omega) | (unfold pD pRd; omega) | (unfold pF pRd; omega) | (unfold pR; omega) | (unfold pT; omega) | (unfold pD; omega) | (unfold pF; omega) | skip
        have fc : ∀ c, 23 ≤ c → c ≤ 35 → sI (zz_wI (zz_rI M2 53 (va_cpy (M2 53) (M2 53) 6560 0 40)) 52 1 (iI 0)) 54 (fun _ => iI (-1)) 3 c = gb0 (fF M1) c := fun c c1 c2 => by
          rw [sI_ne (by omega), w_ne (by omega), rr_ne (by omega)]
          exact p1.col c (fun k => by unfold pRd; omega)
        have f53 : ∀ k, k < 40 → sI (zz_wI (zz_rI M2 53 (va_cpy (M2 53) (M2 53) 6560 0 40)) 52 1 (iI 0)) 54 (fun _ => iI (-1)) 3 53 (0 + k) = M2 53 (6560 + k) := fun k hk => by
          rw [sI_ne (by omega), w_ne (by omega), rr_at, c_in (by omega) (by omega)]
          congr 1
          omega
        obtain ⟨y1, y2, y3, y4, y5, y6⟩ := hcr
        have hRv : Rv (Vh s a z hc n qf) (M2 53) 6560 := by
          refine ⟨y1, y3, y2, fun k hk => ?_, fun i hi => ?_, fun i hi => ?_, fun i hi => ?_, fun i hi => ?_, fun i hi => ?_⟩
          · have hk' : k < hc := hk
            have := hfg k hk'
            rw [show 6560 + (3 + k) = 6563 + k by omega, y5 k hk']
            show _ = iI ((if k < hc then (fv s a (z + 1 + k)).toNat else 0 : Nat) : Int)
            rw [if_pos hk']
            congr 1
            omega
          · have hi' : i < n := hi
            have := (tq_i (k3 i hi')).1
            rw [show 6560 + (10 + i) = 6570 + i by omega, (y6 i hi').1]
            show _ = iI ((if i < n then (kc (chA s a (qf i))).toNat else 0 : Nat) : Int)
            rw [if_pos hi']
            congr 1
            omega
          · have hi' : i < n := hi
            rw [show 6560 + (16 + i) = 6576 + i by omega, (y6 i hi').2.2.1]
            show _ = iI (if i < n then fv s a (qf i + 3) - 4 else 0)
            rw [if_pos hi']
          · have hi' : i < n := hi
            have := (tq_i (k3 i hi')).2.2.2.2.1
            rw [show 6560 + (22 + i) = 6582 + i by omega, (y6 i hi').2.2.2]
            show _ = iI ((if i < n then (fv s a (qf i + 4)).toNat else 0 : Nat) : Int)
            rw [if_pos hi']
            congr 1
            omega
          · have hi' : i < n := hi
            rw [show 6560 + (28 + i) = 6588 + i by omega, (y6 i hi').2.1]
            show _ = iI (if i < n then 10 * fv s a (qf i + 1) + fv s a (qf i + 2) else 0)
            rw [if_pos hi']
          · have hi' : i < n := hi
            rw [show 6560 + (34 + i) = 6594 + i by omega, y4 i (by omega)]
            show _ = iI (if (0 : Nat).testBit i = true then 1 else 0)
            rw [Nat.zero_testBit]
            rfl
        have e26 : ∀ i, i < n → gb0 (fF M1) 26 i = iI ((Vh s a z hc n qf).minute i) := fun i hi => by
          unfold gb0
          rw [w_ne (by omega), w_ne (by omega), w_ne (by omega), sI_ne (by omega)]
          exact hHs.2.2.2.2.2.2 i hi
        refine HD.hs (V := Vh s a z hc n qf) (D := fun _ => 0) (m := 0) (K := fun _ => -1) (E := fun _ _ => 0) ⟨hVk, rfl, rfl, rfl, ?_, ?_, ?_, fun k hk => by omega, hHv.c2 fc, ⟨by omega, fun k hk => by omega, Rv.cg (b := 6560) hVk.n hVk.hc hRv f53, fun k hk => by omega⟩, fun j hj => ⟨?_, ?_, by show (-1 : Int) ≤ -1; omega, by show (-1 : Int) ≤ 40; omega, fun h => by have h' : (0 : Int) ≤ -1 := h; omega⟩⟩
        · rw [fc 23 (by omega) (by omega)]; unfold gb0; rw [w_at]; rfl
        · rw [sI_ne (by omega), w_at]; rfl
        · intro i hi; rw [fc 26 (by omega) (by omega)]; exact e26 i hi
        · rw [fc 35 (by omega) (by omega)]
          unfold gb0
          rw [w_ne (by omega), w_ne (by omega), w_ne (by omega), sI_ne (by omega)]
          unfold fF
          rw [sI_in hj]
        · rw [sI_in hj]
      · have hb1 : Tr M1 t s a := hb.cg (r1.col 57 (fun k => Or.inr (by omega))) (r1.col 58 (fun k => Or.inr (by omega)))
        obtain ⟨M2, p1, p2, p3⟩ := x_182 L hb1
        refine ⟨.int (iI (-4)), M1, L, M2, L, zc.mono (n := 11) (zc_of (n := 10) (ls := [some (.ref 0), some (.int (iI t)), none]) mk_104 rfl rfl rfl rfl (fun d hd N xs => ?_)) (by omega), zc.mono (n := 8) (zc_of (n := 7) (ls := [some (.ref 52), some (.int (iI t)), none]) mk_184 rfl rfl rfl rfl (fun d hd N xs => ?_)) (by omega), hI.cg ((p17_A r1).tr (pRd_A p1)) SL.rf⟩
        · rw [hc1 d hd N xs, b_104_3, n9, if_neg (by rw [t_eq, iI_to (by omega) (by omega), iI_to (by omega) (by omega)]; exact q9)]
          rfl
        · rw [hc2 hb1 p3 d hd N xs, b_184_5, n9, if_neg (by rw [t_eq, iI_to (by omega) (by omega), iI_to (by omega) (by omega)]; exact q9)]
          rfl
  · exact Ok.same hI (r_104 L (s_142bB M L z h1 h2 q) (by decide)) (s_184B M L z h1 h2 q) (by omega) (by omega)

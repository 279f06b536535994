/-! out, of both. -/
abbrev on (x : Nat) : Nat := cZ (fun k => x.testBit k = true) 6
theorem bit1 {x k : Nat} (hx : x < 1024) (hk : k < 31) : iI x >>> (iI k &&& 31) &&& 1 = iI ((if x.testBit k = true then 1 else 0 : Nat) : Int) := by
  have e2 := tb_iff x k
  have e1 : ((x >>> k) &&& 1 : Nat) ≤ 1 := Nat.and_le_right
  rw [iN_shr (by omega) (by omega), show (1 : Int32) = iI (1 : Nat) from rfl, iN_and (Nat.lt_of_le_of_lt (Nat.shiftRight_le _ _) (by omega)) (by omega)]
  congr 2
  by_cases q : x.testBit k = true
  · rw [if_pos q, e2.2 q]
  · rw [if_neg q]
    have : ¬ ((x >>> k) &&& 1 = 1) := fun e => q (e2.1 e)
    omega
theorem bit1_1 {x k : Nat} (hx : x < 1024) (hk : k < 31) : (iI x >>> (iI k &&& 31) &&& 1 = 1) ↔ x.testBit k = true := by
  rw [bit1 hx hk]
  by_cases q : x.testBit k = true
  · rw [if_pos q]; exact ⟨fun _ => q, fun _ => rfl⟩
  · rw [if_neg q]; exact ⟨fun e => absurd e (by decide), fun e => absurd e q⟩
theorem bit1_0 {x k : Nat} (hx : x < 1024) (hk : k < 31) : (iI x >>> (iI k &&& 31) &&& 1 = 0) ↔ ¬ x.testBit k = true := by
  rw [bit1 hx hk]
  by_cases q : x.testBit k = true
  · rw [if_pos q]; exact ⟨fun e => absurd e (by decide), fun e => absurd q e⟩
  · rw [if_neg q]; exact ⟨fun _ => q, fun _ => rfl⟩
abbrev bo (V : Vw) (N set x : Nat) : Prop := pr V.n x ∧ ¬ set.testBit (x / 6) = true ∧ ¬ set.testBit (x % 6) = true ∧ clq V (x / 6) (x % 6) 0 N
theorem bo_no {V : Vw} {N set x : Nat} (h : ¬ pr V.n x) : ¬ bo V N set x := fun e => h e.1
theorem bo_ij {V : Vw} {N set i j : Nat} (hij : i < j) (hj : j < V.n) (hk : Vk V) : bo V N set (6 * i + j) ↔ ¬ set.testBit i = true ∧ ¬ set.testBit j = true ∧ clq V i j 0 N := by
  have := hk.n
  show pr V.n (6 * i + j) ∧ ¬ set.testBit ((6 * i + j) / 6) = true ∧ ¬ set.testBit ((6 * i + j) % 6) = true ∧ clq V ((6 * i + j) / 6) ((6 * i + j) % 6) 0 N ↔ _
  rw [show (6 * i + j) / 6 = i by omega, show (6 * i + j) % 6 = j by omega]
  constructor
  · exact fun e => e.2
  · exact fun e => ⟨by show (6 * i + j) / 6 < (6 * i + j) % 6 ∧ (6 * i + j) % 6 < V.n; omega, e⟩
def ofo (V : Vw) (N : Nat) : Nat → Nat → Nat
  | 0, f => f
  | c + 1, f => ofo V N c (if on c ≤ on f ∧ cZ (bo V N c) 36 = 0 then c else f)
section ZR
variable (M : Nat → Nat → Int32) (L : Nat → Nat → Int64)
theorem s_159 (x : Nat) (hx : x < 1024) : zc 1 159 [.int (iI x)] M L (some (.int (iI (on x)))) M L := by
  refine zc_of (n := 0) (ls := [some (.int (iI x)), none, none]) mk_159 rfl rfl rfl rfl (fun d hd N xs => ?_)
  rw [b_159_0]
  have hl := upto (fun k : Nat => zz_X (zz_call_ d) tb_159 1 [some (.int (iI x)), some (.int (iI (cZ (fun k => x.testBit k = true) k))), some (.int (iI k))] [] (zm N xs M L)) 6 (fun k hk6 => by
    show zz_X (zz_call_ d) tb_159 1 _ _ _ = zz_X (zz_call_ d) tb_159 1 _ _ _
    rw [b_159_1, if_neg (by rw [t_le, show (6 : Int32).toInt = 6 from rfl, iI_to (by omega) (by omega)]; omega), bit1 hx (by omega), show (1 : Int32) = iI 1 from rfl, iI_add, iI_add]
    rfl)
  refine Eq.trans hl ?_
  show zz_X (zz_call_ d) tb_159 1 _ _ _ = _
  rw [b_159_1, if_pos (by rw [t_le, show (6 : Int32).toInt = 6 from rfl, iI_to (by omega) (by omega)]; omega), b_159_2]
theorem g_159 (x : Nat) (hx : x < 1024) {d N : Nat} {xs : Nat → Int32} {tb_ : List zz_B} {t_ : Nat} {ls_ : zz_L} {rest_ : List Value} (hd_ : 1 ≤ d) : (zz_o (zz_call_ d 159 [.int (iI x)] (zm N xs M L)) fun r => zz_X (zz_call_ d) tb_ t_ ls_ (r.1.toList ++ rest_) r.2) = zz_X (zz_call_ d) tb_ t_ ls_ ((.int (iI (on x))) :: rest_) (zm N xs M L) := (s_159 M L x hx).go hd_
theorem s_158 (x k : Nat) (hx : x < 1024) (hk : k < 31) : zc 1 158 [.int (iI x), .int (iI k)] M L (some (.int (b2 (x.testBit k = true)))) M L := by
  refine zc_of (n := 0) (ls := [some (.int (iI x)), some (.int (iI k))]) mk_158 rfl rfl rfl rfl (fun d hd N xs => ?_)
  rw [b_158_0]
  by_cases q : x.testBit k = true
  · rw [if_pos ((bit1_1 hx hk).2 q), b_158_2, if_pos (Or.inr rfl), b2_t q]
    rfl
  · rw [if_neg (fun e => q ((bit1_1 hx hk).1 e)), b_158_1, b_158_2, if_pos (Or.inl rfl), b2_f q]
    rfl
theorem g_158 (x k : Nat) (hx : x < 1024) (hk : k < 31) {d N : Nat} {xs : Nat → Int32} {tb_ : List zz_B} {t_ : Nat} {ls_ : zz_L} {rest_ : List Value} (hd_ : 1 ≤ d) : (zz_o (zz_call_ d 158 [.int (iI x), .int (iI k)] (zm N xs M L)) fun r => zz_X (zz_call_ d) tb_ t_ ls_ (r.1.toList ++ rest_) r.2) = zz_X (zz_call_ d) tb_ t_ ls_ ((.int (b2 (x.testBit k = true))) :: rest_) (zm N xs M L) := (s_158 M L x k hx hk).go hd_
theorem s_75 (V : Vw) (hk : Vk V) (N9 : Nat) (hp : Kp V N9 M) (i j x : Nat) (hij : i < j) (hj : j < V.n) (hx : x < 9) : zc 1 75 [.ref 38, .int (iI i), .int (iI j), .int (iI ((x : Int) - 4))] M L (some (.int (b2 (clq V i j ((x : Int) - 4) N9)))) M L := by
  refine zc_of (n := 0) (ls := [some (.ref 38), some (.int (iI i)), some (.int (iI j)), some (.int (iI ((x : Int) - 4))), none]) mk_75 rfl rfl rfl rfl (fun d hd N xs => ?_)
  have hn := hk.n
  have hb := bX_lt V N9 (6 * i + j)
  have e : (bX V N9 (6 * i + j)).testBit x = true ↔ clq V i j ((x : Int) - 4) N9 := by
    rw [bX_ij hij hj hk]
    unfold br
    rw [bS_bit]
    exact ⟨fun a => a.2, fun a => ⟨hx, a⟩⟩
  rw [b_75_0, show (6 : Int32) = iI 6 from rfl, show (4 : Int32) = iI 4 from rfl, iI_mul, iI_add, iI_add, show (6 : Int) * (i : Int) + (j : Int) = ((6 * i + j : Nat) : Int) by omega, show (x : Int) - 4 + 4 = ((x : Nat) : Int) by omega, if_neg (by rw [t_lt, show (0 : Int32).toInt = 0 from rfl, iI_to (by omega) (by omega)]; omega), if_neg (by rw [t_le, show (36 : Int32).toInt = 36 from rfl, iI_to (by omega) (by omega)]; omega), ix_nat (by omega) (by omega), o_some, hp.2.1 _ (by omega)]
  by_cases q : clq V i j ((x : Int) - 4) N9
  · rw [if_pos ((bit1_1 hb (by omega)).2 (e.2 q)), b_75_2, if_pos (Or.inr rfl), b2_t q]
    rfl
  · rw [if_neg (fun a => q (e.1 ((bit1_1 hb (by omega)).1 a))), b_75_1, b_75_2, if_pos (Or.inl rfl), b2_f q]
    rfl
theorem g_75 (V : Vw) (hk : Vk V) (N9 : Nat) (hp : Kp V N9 M) (i j x : Nat) (hij : i < j) (hj : j < V.n) (hx : x < 9) {d N : Nat} {xs : Nat → Int32} {tb_ : List zz_B} {t_ : Nat} {ls_ : zz_L} {rest_ : List Value} (hd_ : 1 ≤ d) : (zz_o (zz_call_ d 75 [.ref 38, .int (iI i), .int (iI j), .int (iI ((x : Int) - 4))] (zm N xs M L)) fun r => zz_X (zz_call_ d) tb_ t_ ls_ (r.1.toList ++ rest_) r.2) = zz_X (zz_call_ d) tb_ t_ ls_ ((.int (b2 (clq V i j ((x : Int) - 4) N9))) :: rest_) (zm N xs M L) := (s_75 M L V hk N9 hp i j x hij hj hx).go hd_
theorem l_79j {d : Nat} (hd : 1 ≤ d) (N : Nat) (xs : Nat → Int32) (V : Vw) (hk : Vk V) (N9 : Nat) (hp : Kp V N9 M) (set : Nat) (hs : set < 64) (i : Nat) (hi : i < V.n) : ∀ c j : Nat, j + c = V.n → i < j → cZ (bo V N9 set) (6 * i + j) = 0 → zz_X (zz_call_ d) tb_79 2 [some (.ref 38), some (.int (iI set)), some (.int (iI i)), some (.int (iI j))] [] (zm N xs M L) = if cZ (bo V N9 set) (6 * i + V.n) = 0 then zz_X (zz_call_ d) tb_79 1 [some (.ref 38), some (.int (iI set)), some (.int (iI ((i + 1 : Nat) : Int))), some (.int (iI V.n))] [] (zm N xs M L) else some (some (.int (iI 0)), zm N xs M L)
  | 0, j, hc, hij, hz => by
    have hn := hk.n
    rw [b_79_2, hp.1, if_pos (by rw [t_le, iI_to (by omega) (by omega), iI_to (by omega) (by omega)]; omega), b_79_5, show (1 : Int32) = iI 1 from rfl, iI_add, show j = V.n by omega, if_pos (by rw [show 6 * i + V.n = 6 * i + j by omega]; exact hz)]
    rfl
  | c + 1, j, hc, hij, hz => by
    have hn := hk.n
    have hb := bo_ij (N := N9) (set := set) hij (show j < V.n by omega) hk
    have hmo := cZ_mono (bo V N9 set) (show 6 * i + j + 1 ≤ 6 * i + V.n by omega)
    have g75 := g_75 (d := d) (N := N) (xs := xs) (tb_ := tb_79) (t_ := 3) (ls_ := [some (.ref 38), some (.int (iI set)), some (.int (iI i)), some (.int (iI j))]) (rest_ := []) M L V hk N9 hp i j 4 hij (by omega) (by omega) hd
    have l4 : ¬ bo V N9 set (6 * i + j) → zz_X (zz_call_ d) tb_79 4 [some (.ref 38), some (.int (iI set)), some (.int (iI i)), some (.int (iI j))] [] (zm N xs M L) = if cZ (bo V N9 set) (6 * i + V.n) = 0 then zz_X (zz_call_ d) tb_79 1 [some (.ref 38), some (.int (iI set)), some (.int (iI ((i + 1 : Nat) : Int))), some (.int (iI V.n))] [] (zm N xs M L) else some (some (.int (iI 0)), zm N xs M L) := by
      intro q
      rw [b_79_4, show (1 : Int32) = iI 1 from rfl, iI_add]
      exact l_79j hd N xs V hk N9 hp set hs i hi c (j + 1) (by omega) (by omega) (by rw [show 6 * i + (j + 1) = 6 * i + j + 1 by omega, cZ_f (p := bo V N9 set) q]; exact hz)
    rw [b_79_2, hp.1, if_neg (by rw [t_le, iI_to (by omega) (by omega), iI_to (by omega) (by omega)]; omega)]
    by_cases q1 : set.testBit i = true
    · rw [if_neg (fun e => (bit1_0 (by omega) (by omega)).1 e q1)]
      exact l4 (fun e => (hb.1 e).1 q1)
    · rw [if_pos ((bit1_0 (by omega) (by omega)).2 q1)]
      by_cases q2 : set.testBit j = true
      · rw [if_neg (fun e => (bit1_0 (by omega) (by omega)).1 e q2)]
        exact l4 (fun e => (hb.1 e).2.1 q2)
      · rw [if_pos ((bit1_0 (by omega) (by omega)).2 q2)]
        refine Eq.trans g75 ?_
        rw [b_79_3]
        by_cases q3 : clq V i j (((4 : Nat) : Int) - 4) N9
        · have hq : bo V N9 set (6 * i + j) := hb.2 ⟨q1, q2, q3⟩
          rw [cZ_t (p := bo V N9 set) hq] at hmo
          rw [b2_t q3, if_neg (show ¬ iI 1 = (0 : Int32) from iI10), if_neg (by omega)]
          rfl
        · rw [b2_f q3, if_pos (show iI 0 = (0 : Int32) from rfl)]
          exact l4 (fun e => q3 (hb.1 e).2.2)
theorem l_79 {d : Nat} (hd : 1 ≤ d) (N : Nat) (xs : Nat → Int32) (V : Vw) (hk : Vk V) (N9 : Nat) (hp : Kp V N9 M) (set : Nat) (hs : set < 64) : ∀ (c i : Nat) (o : Option Value), i + c = V.n → cZ (bo V N9 set) (7 * i + 1) = 0 → zz_X (zz_call_ d) tb_79 1 [some (.ref 38), some (.int (iI set)), some (.int (iI i)), o] [] (zm N xs M L) = some (some (.int (b2 (cZ (bo V N9 set) 36 = 0))), zm N xs M L)
  | 0, i, o, hc, hz => by
    have hn := hk.n
    have ec : cZ (bo V N9 set) (7 * i + 1) = cZ (bo V N9 set) 36 := cZ_eq (fun x hx => bo_no (fun h => by have h1 := h.1; have h2 := h.2; omega))
    rw [b_79_1, hp.1, if_pos (by rw [t_le, iI_to (by omega) (by omega), iI_to (by omega) (by omega)]; omega), b_79_6, b2_t (by rw [← ec]; exact hz)]
    rfl
  | c + 1, i, o, hc, hz => by
    have hn := hk.n
    have ec : cZ (bo V N9 set) (6 * i + V.n) = cZ (bo V N9 set) (7 * (i + 1) + 1) := cZ_eq (fun x hx => bo_no (fun h => by have h1 := h.1; have h2 := h.2; omega))
    have hj := l_79j M L hd N xs V hk N9 hp set hs i (by omega) (V.n - (i + 1)) (i + 1) (by omega) (by omega) (by rw [show 6 * i + (i + 1) = 7 * i + 1 by omega]; exact hz)
    rw [b_79_1, hp.1, if_neg (by rw [t_le, iI_to (by omega) (by omega), iI_to (by omega) (by omega)]; omega), show (1 : Int32) = iI 1 from rfl, iI_add]
    refine Eq.trans hj ?_
    by_cases q : cZ (bo V N9 set) (6 * i + V.n) = 0
    · rw [if_pos q]
      exact l_79 hd N xs V hk N9 hp set hs c (i + 1) _ (by omega) (by rw [← ec]; exact q)
    · have hmo := cZ_mono (bo V N9 set) (show 6 * i + V.n ≤ 36 by omega)
      rw [if_neg q, b2_f (by omega)]
theorem s_79 (V : Vw) (hk : Vk V) (N9 : Nat) (hp : Kp V N9 M) (set : Nat) (hs : set < 64) : zc 2 79 [.ref 38, .int (iI set)] M L (some (.int (b2 (cZ (bo V N9 set) 36 = 0)))) M L := by
  refine zc_of (n := 1) (ls := [some (.ref 38), some (.int (iI set)), none, none]) mk_79 rfl rfl rfl rfl (fun d hd N xs => ?_)
  rw [b_79_0]
  exact l_79 M L hd N xs V hk N9 hp set hs V.n 0 none (by omega) (cZ_eq (e := 0) (fun x hx => bo_no (fun h => by have h1 := h.1; have h2 := h.2; omega)))
theorem g_79 (V : Vw) (hk : Vk V) (N9 : Nat) (hp : Kp V N9 M) (set : Nat) (hs : set < 64) {d N : Nat} {xs : Nat → Int32} {tb_ : List zz_B} {t_ : Nat} {ls_ : zz_L} {rest_ : List Value} (hd_ : 2 ≤ d) : (zz_o (zz_call_ d 79 [.ref 38, .int (iI set)] (zm N xs M L)) fun r => zz_X (zz_call_ d) tb_ t_ ls_ (r.1.toList ++ rest_) r.2) = zz_X (zz_call_ d) tb_ t_ ls_ ((.int (b2 (cZ (bo V N9 set) 36 = 0))) :: rest_) (zm N xs M L) := (s_79 M L V hk N9 hp set hs).go hd_
theorem l_78 {d : Nat} (hd : 2 ≤ d) (N : Nat) (xs : Nat → Int32) (V : Vw) (hk : Vk V) (N9 : Nat) (hp : Kp V N9 M) : ∀ c f : Nat, c ≤ 64 → f < 64 → zz_X (zz_call_ d) tb_78 1 [some (.ref 38), some (.int (iI f)), some (.int (iI ((c : Int) - 1)))] [] (zm N xs M L) = some (some (.int (iI (ofo V N9 c f))), zm N xs M L)
  | 0, f, hc, hf => by
    rw [b_78_1, if_pos (by decide), b_78_6]
    rfl
  | c + 1, f, hc, hf => by
    have h1 := cZ_le (fun k => c.testBit k = true) 6
    have h2 := cZ_le (fun k => f.testBit k = true) 6
    have eo : ofo V N9 (c + 1) f = ofo V N9 c (if on c ≤ on f ∧ cZ (bo V N9 c) 36 = 0 then c else f) := rfl
    have l5 : ∀ g, g < 64 → (if on c ≤ on f ∧ cZ (bo V N9 c) 36 = 0 then c else f) = g → zz_X (zz_call_ d) tb_78 5 [some (.ref 38), some (.int (iI g)), some (.int (iI c))] [] (zm N xs M L) = some (some (.int (iI (ofo V N9 (c + 1) f))), zm N xs M L) := by
      intro g hg e
      rw [b_78_5, show (-1 : Int32) = iI (-1) from rfl, iI_add, eo, e]
      exact l_78 hd N xs V hk N9 hp c g (by omega) hg
    rw [show ((c + 1 : Nat) : Int) - 1 = (c : Int) by omega, b_78_1, if_neg (by rw [t_lt, show (0 : Int32).toInt = 0 from rfl, iI_to (by omega) (by omega)]; omega), g_9 M L c (by omega) (by omega), b_78_2, g_9 M L f hf (by omega), b_78_3]
    by_cases q1 : on c ≤ on f
    · rw [if_neg (by rw [t_lt, iI_to (by omega) (by omega), iI_to (by omega) (by omega)]; show ¬ ((on f : Nat) : Int) < ((on c : Nat) : Int); omega), g_79 M L V hk N9 hp c (by omega) (by omega), b_78_4]
      by_cases q2 : cZ (bo V N9 c) 36 = 0
      · rw [b2_t q2, if_neg (show ¬ iI 1 = (0 : Int32) from iI10)]
        exact l5 c (by omega) (if_pos ⟨q1, q2⟩)
      · rw [b2_f q2, if_pos (show iI 0 = (0 : Int32) from rfl)]
        exact l5 f hf (if_neg (fun e => q2 e.2))
    · rw [if_pos (by rw [t_lt, iI_to (by omega) (by omega), iI_to (by omega) (by omega)]; show ((on f : Nat) : Int) < ((on c : Nat) : Int); omega)]
      exact l5 f hf (if_neg (fun e => q1 e.1))
theorem s_78 (V : Vw) (hk : Vk V) (N9 : Nat) (hp : Kp V N9 M) : zc 3 78 [.ref 38] M L (some (.int (iI (ofo V N9 (2 ^ V.n) (2 ^ V.n - 1))))) M L := by
  refine zc_of (n := 2) (ls := [some (.ref 38), none, none]) mk_78 rfl rfl rfl rfl (fun d hd N xs => ?_)
  have hn := hk.n
  have h1 : (2 : Nat) ^ V.n ≤ 2 ^ 6 := Nat.pow_le_pow_right (by omega) hn
  have h0 := Nat.two_pow_pos V.n
  have e : ((1 : Int32) <<< (iI V.n &&& 31)) - 1 = iI (((2 ^ V.n : Nat) : Int) - 1) := by rw [iN_shl (by omega), Nat.one_shiftLeft, show (1 : Int32) = iI 1 from rfl, iI_sub]
  rw [b_78_0, hp.1, e]
  have hl := l_78 M L hd N xs V hk N9 hp (2 ^ V.n) (2 ^ V.n - 1) (by omega) (by omega)
  rw [show ((2 ^ V.n - 1 : Nat) : Int) = ((2 ^ V.n : Nat) : Int) - 1 by omega] at hl
  exact hl
theorem g_78 (V : Vw) (hk : Vk V) (N9 : Nat) (hp : Kp V N9 M) {d N : Nat} {xs : Nat → Int32} {tb_ : List zz_B} {t_ : Nat} {ls_ : zz_L} {rest_ : List Value} (hd_ : 3 ≤ d) : (zz_o (zz_call_ d 78 [.ref 38] (zm N xs M L)) fun r => zz_X (zz_call_ d) tb_ t_ ls_ (r.1.toList ++ rest_) r.2) = zz_X (zz_call_ d) tb_ t_ ls_ ((.int (iI (ofo V N9 (2 ^ V.n) (2 ^ V.n - 1)))) :: rest_) (zm N xs M L) := (s_78 M L V hk N9 hp).go hd_
end ZR
section ZL
variable (L : Nat → Nat → Int64) {V : Vw}
theorem l_231j (hk : Vk V) (n : Nat) (hn : n ≤ 60) (v2 : Int32) (set : Nat) (hs : set < 64) (i : Nat) (hi : i < V.n) : ∀ (c j : Nat) (M : Nat → Nat → Int32), j + c = V.n → i < j → Rv V (M 53) 0 → cZ (bo V (n + 1) set) (6 * i + j) = 0 → ∃ M' v, eqs M M' p2 ∧ ∀ d, 4 ≤ d → ∀ N xs, zz_X (zz_call_ d) tb_231 10 [some (.ref 52), some (.int (iI n)), some (.int v2), some (.int (iI set)), some (.int (iI 1)), some (.int (iI i)), some (.int (iI j))] [] (zm N xs M L) = zz_X (zz_call_ d) tb_231 9 [some (.ref 52), some (.int (iI n)), some (.int v2), some (.int (iI set)), some (.int (b2 (cZ (bo V (n + 1) set) (6 * i + V.n) = 0))), some (.int (iI ((i + 1 : Nat) : Int))), some (.int v)] [] (zm N xs M' L)
  | 0, j, M, hc, hij, hr, hz => by
    have hn6 := hk.n
    have e0 : M 53 0 = iI V.n := hr.n
    refine ⟨M, iI j, eqs.rf, fun d hd N xs => ?_⟩
    rw [b_231_10, e0, if_pos (by rw [t_le, iI_to (by omega) (by omega), iI_to (by omega) (by omega)]; omega), b_231_17, show (1 : Int32) = iI 1 from rfl, iI_add, b2_t (by rw [show 6 * i + V.n = 6 * i + j by omega]; exact hz)]
    rfl
  | c + 1, j, M, hc, hij, hr, hz => by
    have hn6 := hk.n
    have e0 : M 53 0 = iI V.n := hr.n
    have hb := bo_ij (N := n + 1) (set := set) hij (show j < V.n by omega) hk
    have hmo := cZ_mono (bo V (n + 1) set) (show 6 * i + j + 1 ≤ 6 * i + V.n by omega)
    have head : ∀ d, 4 ≤ d → ∀ N xs, zz_X (zz_call_ d) tb_231 10 [some (.ref 52), some (.int (iI n)), some (.int v2), some (.int (iI set)), some (.int (iI 1)), some (.int (iI i)), some (.int (iI j))] [] (zm N xs M L) = zz_X (zz_call_ d) tb_231 11 [some (.ref 52), some (.int (iI n)), some (.int v2), some (.int (iI set)), some (.int (iI 1)), some (.int (iI i)), some (.int (iI j))] [.int (b2 (set.testBit i = true))] (zm N xs M L) := by
      intro d hd N xs
      rw [b_231_10, e0, if_neg (by rw [t_le, iI_to (by omega) (by omega), iI_to (by omega) (by omega)]; omega), if_neg (show ¬ iI 1 = (0 : Int32) from iI10), g_158 M L set i (by omega) (by omega) (by omega)]
    have good : ¬ bo V (n + 1) set (6 * i + j) → ∀ M1, eqs M M1 p2 → (∀ d, 4 ≤ d → ∀ N xs, zz_X (zz_call_ d) tb_231 10 [some (.ref 52), some (.int (iI n)), some (.int v2), some (.int (iI set)), some (.int (iI 1)), some (.int (iI i)), some (.int (iI j))] [] (zm N xs M L) = zz_X (zz_call_ d) tb_231 14 [some (.ref 52), some (.int (iI n)), some (.int v2), some (.int (iI set)), some (.int (iI 1)), some (.int (iI i)), some (.int (iI j))] [] (zm N xs M1 L)) → ∃ M' v, eqs M M' p2 ∧ ∀ d, 4 ≤ d → ∀ N xs, zz_X (zz_call_ d) tb_231 10 [some (.ref 52), some (.int (iI n)), some (.int v2), some (.int (iI set)), some (.int (iI 1)), some (.int (iI i)), some (.int (iI j))] [] (zm N xs M L) = zz_X (zz_call_ d) tb_231 9 [some (.ref 52), some (.int (iI n)), some (.int v2), some (.int (iI set)), some (.int (b2 (cZ (bo V (n + 1) set) (6 * i + V.n) = 0))), some (.int (iI ((i + 1 : Nat) : Int))), some (.int v)] [] (zm N xs M' L) := by
      intro q M1 em hst
      obtain ⟨M', v, p1, p3⟩ := l_231j hk n hn v2 set hs i hi c (j + 1) M1 (by omega) (by omega) (by rw [p2_53 em]; exact hr) (by rw [show 6 * i + (j + 1) = 6 * i + j + 1 by omega, cZ_f (p := bo V (n + 1) set) q]; exact hz)
      refine ⟨M', v, em.tr p1, fun d hd N xs => ?_⟩
      rw [hst d hd N xs, b_231_14, b_231_16, show (1 : Int32) = iI 1 from rfl, iI_add]
      exact p3 d hd N xs
    by_cases q1 : set.testBit i = true
    · exact good (fun e => (hb.1 e).1 q1) M eqs.rf (fun d hd N xs => by rw [head d hd N xs, b2_t q1, b_231_11, if_neg (show ¬ iI 1 = (0 : Int32) from iI10)])
    · by_cases q2 : set.testBit j = true
      · exact good (fun e => (hb.1 e).2.1 q2) M eqs.rf (fun d hd N xs => by rw [head d hd N xs, b2_f q1, b_231_11, if_pos (show iI 0 = (0 : Int32) from rfl), g_158 M L set j (by omega) (by omega) (by omega), b2_t q2, b_231_12, if_neg (show ¬ iI 1 = (0 : Int32) from iI10)])
      · obtain ⟨M1, r1, r2⟩ := x_223 L M hk hr i j hi (by omega) 0 0 (by omega) (by omega) n hn
        have hst : ∀ d, 4 ≤ d → ∀ N xs, zz_X (zz_call_ d) tb_231 10 [some (.ref 52), some (.int (iI n)), some (.int v2), some (.int (iI set)), some (.int (iI 1)), some (.int (iI i)), some (.int (iI j))] [] (zm N xs M L) = zz_X (zz_call_ d) tb_231 13 [some (.ref 52), some (.int (iI n)), some (.int v2), some (.int (iI set)), some (.int (iI 1)), some (.int (iI i)), some (.int (iI j))] [.int (b2 (clq V i j (0 - 0) (n + 1)))] (zm N xs M1 L) := by
          intro d hd N xs
          rw [head d hd N xs, b2_f q1, b_231_11, if_pos (show iI 0 = (0 : Int32) from rfl), g_158 M L set j (by omega) (by omega) (by omega), b2_f q2, b_231_12, if_pos (show iI 0 = (0 : Int32) from rfl)]
          exact r2.go (by omega)
        by_cases q3 : clq V i j (0 - 0) (n + 1)
        · have hq : bo V (n + 1) set (6 * i + j) := hb.2 ⟨q1, q2, q3⟩
          rw [cZ_t (p := bo V (n + 1) set) hq] at hmo
          refine ⟨M1, iI ((j + 1 : Nat) : Int), r1, fun d hd N xs => ?_⟩
          rw [hst d hd N xs, b2_t q3, b_231_13, if_neg (show ¬ iI 1 = (0 : Int32) from iI10), b_231_15, b_231_16, b_231_10, b_231_17, show (1 : Int32) = iI 1 from rfl, iI_add, iI_add, b2_f (show ¬ cZ (bo V (n + 1) set) (6 * i + V.n) = 0 by omega)]
          by_cases e : M1 53 0 ≤ iI ((j : Int) + 1)
          · rw [if_pos e]; rfl
          · rw [if_neg e, if_pos (show (0 : Int32) = 0 from rfl)]; rfl
        · exact good (fun e => q3 (hb.1 e).2.2) M1 r1 (fun d hd N xs => by rw [hst d hd N xs, b2_f q3, b_231_13, if_pos (show iI 0 = (0 : Int32) from rfl)])
theorem e_231 {d : Nat} (N : Nat) (xs : Nat → Int32) (M : Nat → Nat → Int32) (v1 v2 v3 v5 : Int32) (o6 : Option Value) : zz_X (zz_call_ d) tb_231 9 [some (.ref 52), some (.int v1), some (.int v2), some (.int v3), some (.int (iI 0)), some (.int v5), o6] [] (zm N xs M L) = zz_X (zz_call_ d) tb_231 18 [some (.ref 52), some (.int v1), some (.int v2), some (.int v3), some (.int (iI 0)), some (.int v5), o6] [] (zm N xs M L) := by
  rw [b_231_9]
  by_cases e : M 53 0 ≤ v5
  · rw [if_pos e]
  · rw [if_neg e, if_pos (show iI 0 = (0 : Int32) from rfl)]
theorem l_231i (hk : Vk V) (n : Nat) (hn : n ≤ 60) (v2 : Int32) (set : Nat) (hs : set < 64) : ∀ (c i : Nat) (M : Nat → Nat → Int32) (o6 : Option Value), i + c = V.n → Rv V (M 53) 0 → cZ (bo V (n + 1) set) (7 * i + 1) = 0 → ∃ M' v5 o6', eqs M M' p2 ∧ ∀ d, 4 ≤ d → ∀ N xs, zz_X (zz_call_ d) tb_231 9 [some (.ref 52), some (.int (iI n)), some (.int v2), some (.int (iI set)), some (.int (iI 1)), some (.int (iI i)), o6] [] (zm N xs M L) = zz_X (zz_call_ d) tb_231 18 [some (.ref 52), some (.int (iI n)), some (.int v2), some (.int (iI set)), some (.int (b2 (cZ (bo V (n + 1) set) 36 = 0))), some (.int v5), o6'] [] (zm N xs M' L)
  | 0, i, M, o6, hc, hr, hz => by
    have hn6 := hk.n
    have e0 : M 53 0 = iI V.n := hr.n
    have ec : cZ (bo V (n + 1) set) (7 * i + 1) = cZ (bo V (n + 1) set) 36 := cZ_eq (fun x hx => bo_no (fun h => by have h1 := h.1; have h2 := h.2; omega))
    refine ⟨M, iI i, o6, eqs.rf, fun d hd N xs => ?_⟩
    rw [b_231_9, e0, if_pos (by rw [t_le, iI_to (by omega) (by omega), iI_to (by omega) (by omega)]; omega), b2_t (by rw [← ec]; exact hz)]
  | c + 1, i, M, o6, hc, hr, hz => by
    have hn6 := hk.n
    have e0 : M 53 0 = iI V.n := hr.n
    have ec : cZ (bo V (n + 1) set) (6 * i + V.n) = cZ (bo V (n + 1) set) (7 * (i + 1) + 1) := cZ_eq (fun x hx => bo_no (fun h => by have h1 := h.1; have h2 := h.2; omega))
    obtain ⟨M1, v, r1, r2⟩ := l_231j L hk n hn v2 set hs i (by omega) (V.n - (i + 1)) (i + 1) M (by omega) (by omega) hr (by rw [show 6 * i + (i + 1) = 7 * i + 1 by omega]; exact hz)
    have hst : ∀ d, 4 ≤ d → ∀ N xs, zz_X (zz_call_ d) tb_231 9 [some (.ref 52), some (.int (iI n)), some (.int v2), some (.int (iI set)), some (.int (iI 1)), some (.int (iI i)), o6] [] (zm N xs M L) = zz_X (zz_call_ d) tb_231 9 [some (.ref 52), some (.int (iI n)), some (.int v2), some (.int (iI set)), some (.int (b2 (cZ (bo V (n + 1) set) (6 * i + V.n) = 0))), some (.int (iI ((i + 1 : Nat) : Int))), some (.int v)] [] (zm N xs M1 L) := by
      intro d hd N xs
      rw [b_231_9, e0, if_neg (by rw [t_le, iI_to (by omega) (by omega), iI_to (by omega) (by omega)]; omega), if_neg (show ¬ iI 1 = (0 : Int32) from iI10), show (1 : Int32) = iI 1 from rfl, iI_add]
      exact r2 d hd N xs
    by_cases q : cZ (bo V (n + 1) set) (6 * i + V.n) = 0
    · rw [b2_t q] at hst
      obtain ⟨M', v5, o6', p1, p3⟩ := l_231i hk n hn v2 set hs c (i + 1) M1 (some (.int v)) (by omega) (by rw [p2_53 r1]; exact hr) (by rw [← ec]; exact q)
      exact ⟨M', v5, o6', r1.tr p1, fun d hd N xs => (hst d hd N xs).trans (p3 d hd N xs)⟩
    · have hmo := cZ_mono (bo V (n + 1) set) (show 6 * i + V.n ≤ 36 by omega)
      rw [b2_f q] at hst
      refine ⟨M1, iI ((i + 1 : Nat) : Int), some (.int v), r1, fun d hd N xs => ?_⟩
      rw [hst d hd N xs, b2_f (show ¬ cZ (bo V (n + 1) set) 36 = 0 by omega)]
      exact e_231 L N xs M1 _ _ _ _ _
theorem bo_z (N set : Nat) (hk : Vk V) : cZ (bo V N set) (7 * 0 + 1) = 0 := cZ_eq (e := 0) (fun x hx => bo_no (fun h => by have h1 := h.1; have h2 := h.2; omega))
theorem l_231 (hk : Vk V) (n : Nat) (hn : n ≤ 60) : ∀ (c f : Nat) (M : Nat → Nat → Int32) (o4 o5 o6 : Option Value), c ≤ 64 → f < 64 → Rv V (M 53) 0 → ∃ M', eqs M M' p2 ∧ ∀ d, 4 ≤ d → ∀ N xs, zz_X (zz_call_ d) tb_231 3 [some (.ref 52), some (.int (iI n)), some (.int (iI f)), some (.int (iI ((c : Int) - 1))), o4, o5, o6] [] (zm N xs M L) = some (some (.int (iI (on (ofo V (n + 1) c f)))), zm N xs (zz_wI M' 52 10 (iI (ofo V (n + 1) c f))) L)
  | 0, f, M, o4, o5, o6, hc, hf, hr => by
    refine ⟨M, eqs.rf, fun d hd N xs => ?_⟩
    rw [b_231_3, if_pos (by decide), b_231_21, g_159 M L f (by omega) (by omega), b_231_22, g_162 _ _ _ _ (by omega), b_231_23]
    rfl
  | c + 1, f, M, o4, o5, o6, hc, hf, hr => by
    have h1 := cZ_le (fun k => c.testBit k = true) 6
    have h2 := cZ_le (fun k => f.testBit k = true) 6
    have h1' : on c ≤ 6 := h1
    have h2' : on f ≤ 6 := h2
    have eo : ofo V (n + 1) (c + 1) f = ofo V (n + 1) c (if on c ≤ on f ∧ cZ (bo V (n + 1) c) 36 = 0 then c else f) := rfl
    have head : ∀ d, 4 ≤ d → ∀ N xs, zz_X (zz_call_ d) tb_231 3 [some (.ref 52), some (.int (iI n)), some (.int (iI f)), some (.int (iI (((c + 1 : Nat) : Int) - 1))), o4, o5, o6] [] (zm N xs M L) = zz_X (zz_call_ d) tb_231 8 [some (.ref 52), some (.int (iI n)), some (.int (iI f)), some (.int (iI c)), o4, o5, o6] [.int (b2 (on c ≤ on f))] (zm N xs M L) := by
      intro d hd N xs
      rw [show ((c + 1 : Nat) : Int) - 1 = (c : Int) by omega, b_231_3, if_neg (by rw [t_lt, show (0 : Int32).toInt = 0 from rfl, iI_to (by omega) (by omega)]; omega), if_neg (by rw [t_eq, show (1000000 : Int32).toInt = 1000000 from rfl, iI_to (by omega) (by omega)]; omega), g_159 M L c (by omega) (by omega), b_231_4, g_159 M L f (by omega) (by omega), b_231_5]
      by_cases q : on c ≤ on f
      · rw [if_neg (by rw [t_lt, iI_to (by omega) (by omega), iI_to (by omega) (by omega)]; show ¬ ((on f : Nat) : Int) < ((on c : Nat) : Int); omega), b_231_6, b2_t q]
        rfl
      · rw [if_pos (by rw [t_lt, iI_to (by omega) (by omega), iI_to (by omega) (by omega)]; show ((on f : Nat) : Int) < ((on c : Nat) : Int); omega), b_231_7, b2_f q]
        rfl
    by_cases q1 : on c ≤ on f
    · obtain ⟨M1, v5, o61, r1, r2⟩ := l_231i L hk n hn (iI f) c (by omega) V.n 0 M o6 (by omega) hr (bo_z _ _ hk)
      rw [b2_t q1] at head
      by_cases q2 : cZ (bo V (n + 1) c) 36 = 0
      · obtain ⟨M', p1, p3⟩ := l_231 hk n hn c c M1 (some (.int (iI 1))) (some (.int v5)) o61 (by omega) (by omega) (by rw [p2_53 r1]; exact hr)
        refine ⟨M', r1.tr p1, fun d hd N xs => ?_⟩
        rw [head d hd N xs, b_231_8, eo, if_pos ⟨q1, q2⟩]
        refine Eq.trans (r2 d hd N xs) ?_
        rw [b2_t q2, b_231_18, if_neg (show ¬ iI 1 = (0 : Int32) from iI10), b_231_20, show (-1 : Int32) = iI (-1) from rfl, iI_add]
        exact p3 d hd N xs
      · obtain ⟨M', p1, p3⟩ := l_231 hk n hn c f M1 (some (.int (iI 0))) (some (.int v5)) o61 (by omega) hf (by rw [p2_53 r1]; exact hr)
        refine ⟨M', r1.tr p1, fun d hd N xs => ?_⟩
        rw [head d hd N xs, b_231_8, eo, if_neg (fun e => q2 e.2)]
        refine Eq.trans (r2 d hd N xs) ?_
        rw [b2_f q2, b_231_18, if_pos (show iI 0 = (0 : Int32) from rfl), b_231_19, b_231_20, show (-1 : Int32) = iI (-1) from rfl, iI_add]
        exact p3 d hd N xs
    · rw [b2_f q1] at head
      obtain ⟨M', p1, p3⟩ := l_231 hk n hn c f M (some (.int (iI 0))) (some (.int 0)) o6 (by omega) hf hr
      refine ⟨M', p1, fun d hd N xs => ?_⟩
      rw [head d hd N xs, b_231_8, e_231 L N xs M, b_231_18, if_pos (show iI 0 = (0 : Int32) from rfl), b_231_19, b_231_20, eo, if_neg (fun e => q1 e.1), show (-1 : Int32) = iI (-1) from rfl, iI_add]
      exact p3 d hd N xs
end ZL
theorem bo_all {V : Vw} (hk : Vk V) (N : Nat) : cZ (bo V N (2 ^ V.n - 1)) 36 = 0 := by
  have h := @cZ_pos (bo V N (2 ^ V.n - 1)) _ 36
  by_cases q : 0 < cZ (bo V N (2 ^ V.n - 1)) 36
  · obtain ⟨x, hx, h1, h2, h3, h4⟩ := h.1 q
    rw [Nat.testBit_two_pow_sub_one, decide_eq_true_eq] at h3
    exact absurd h1.2 h3
  · omega
theorem ofo_lt {V : Vw} {N : Nat} : ∀ c f : Nat, c ≤ 64 → f < 64 → ofo V N c f < 64
  | 0, f, _, h => h
  | c + 1, f, hc, h => by
    show ofo V N c (if on c ≤ on f ∧ cZ (bo V N c) 36 = 0 then c else f) < 64
    refine ofo_lt c _ (by omega) ?_
    split <;> omega
theorem o_out {M : Nat → Nat → Int32} {L : Nat → Nat → Int64} (x : Int32) (hI : Inv M L) : Ok 124 231 [.int x] M L := by
  obtain ⟨z, h1, h2, rfl⟩ := iI_of x
  obtain ⟨V, hk, hv, hr⟩ := hI.view
  have hn6 := hk.n
  have hp6 : (2 : Nat) ^ V.n ≤ 2 ^ 6 := Nat.pow_le_pow_right (by omega) hn6
  have hp0 := Nat.two_pow_pos V.n
  by_cases q : 0 ≤ z ∧ z ≤ 60
  · obtain ⟨n, rfl⟩ : ∃ y : Nat, z = y := ⟨z.toNat, by omega⟩
    obtain ⟨M1, L1, r1, r2, r3, r4⟩ := x_72 L hk hv n (by omega)
    generalize hr0 : ofo V (n + 1) (2 ^ V.n) (2 ^ V.n - 1) = res at *
    have hres : res < 64 := by rw [← hr0]; exact ofo_lt _ _ (by omega) (by omega)
    have e53 : zz_wI M1 0 10 (iI res) 53 = M 53 := by rw [w_ne (by omega)]; exact r1.col 53 (fun k => Or.inr (by omega))
    have hr1 : Rv V (zz_wI M1 0 10 (iI res) 53) 0 := by rw [e53]; exact hr
    obtain ⟨M2, v5, o6, p1, p3⟩ := l_231i L1 hk n (by omega) (iI 1000000) (2 ^ V.n - 1) (by omega) V.n 0 (zz_wI M1 0 10 (iI res)) none (by omega) hr1 (bo_z _ _ hk)
    obtain ⟨M3, u1, u3⟩ := l_231 L1 hk n (by omega) (2 ^ V.n - 1) (2 ^ V.n - 1) M2 (some (.int (iI 1))) (some (.int v5)) o6 (by omega) (by omega) (by rw [p2_53 p1]; exact hr1)
    have eofo : ofo V (n + 1) (2 ^ V.n - 1) (2 ^ V.n - 1) = res := by
      rw [← hr0]
      have e : 2 ^ V.n = (2 ^ V.n - 1) + 1 := by omega
      conv => rhs; rw [show ofo V (n + 1) (2 ^ V.n) (2 ^ V.n - 1) = ofo V (n + 1) ((2 ^ V.n - 1) + 1) (2 ^ V.n - 1) from congrArg (fun t => ofo V (n + 1) t (2 ^ V.n - 1)) e]
      show _ = ofo V (n + 1) (2 ^ V.n - 1) (if on (2 ^ V.n - 1) ≤ on (2 ^ V.n - 1) ∧ cZ (bo V (n + 1) (2 ^ V.n - 1)) 36 = 0 then 2 ^ V.n - 1 else 2 ^ V.n - 1)
      rw [if_pos ⟨Nat.le_refl _, bo_all hk (n + 1)⟩]
    rw [eofo] at u3
    refine Ok.tells (n := 9) (n' := 6) (v := .int (iI (on res))) (x := iI res) (M1 := zz_wI M1 0 10 (iI res)) (L1 := L1) (M2 := zz_wI M3 52 10 (iI res)) (L2 := L1) hI ?_ ?_ (eqs.ww (p39_A r1)) (eqs.ww ((p2_A p1).tr (p2_A u1))) r2 SL.rf (by omega) (by omega)
    · refine zc_of (n := 8) (ls := [some (.ref 0), some (.int (iI n))]) mk_124 rfl rfl rfl rfl (fun d hd N xs => ?_)
      have g78 := g_78 (d := d) (N := N) (xs := xs) (tb_ := tb_124) (t_ := 4) (ls_ := [some (.ref 0), some (.int (iI n))]) (rest_ := [.ref 0]) M1 L1 V hk (n + 1) r3 (by omega)
      rw [hr0] at g78
      rw [b_124_0, if_neg (by rw [t_lt, show (0 : Int32).toInt = 0 from rfl, iI_to (by omega) (by omega)]; omega), if_pos (by rw [t_le, show (60 : Int32).toInt = 60 from rfl, iI_to (by omega) (by omega)]; omega), b_124_2, r4.gov (by omega), b_124_3]
      refine Eq.trans g78 ?_
      rw [b_124_4, w_at, g_9 _ L1 res hres (by omega), b_124_5]
    · refine zc_of (n := 5) (ls := [some (.ref 52), some (.int (iI n)), none, none, none, none, none]) mk_231 rfl rfl rfl rfl (fun d hd N xs => ?_)
      have e0 : zz_wI M1 0 10 (iI res) 53 0 = iI V.n := hr1.n
      have ef : ((1 : Int32) <<< (iI V.n &&& 31)) - 1 = iI ((2 ^ V.n - 1 : Nat) : Int) := by rw [iN_shl (by omega), Nat.one_shiftLeft, show (1 : Int32) = iI 1 from rfl, iI_sub, show ((2 ^ V.n - 1 : Nat) : Int) = ((2 ^ V.n : Nat) : Int) - 1 by omega]
      rw [b_231_0, iI_long (by omega) (by omega), lI_lit, lI_lit, g_157 _ L1 n 0 60 (by omega) (by omega) (by omega) (by omega) (by omega) (by omega) (by omega), b2_t (by omega), b_231_1, if_neg (show ¬ iI 1 = (0 : Int32) from iI10), b_231_2, e0, ef, b_231_3, if_neg (by rw [t_lt, show (0 : Int32).toInt = 0 from rfl, iI_to (by omega) (by omega)]; omega), if_pos rfl, b_231_6, b_231_8]
      refine Eq.trans (p3 d (by omega) N xs) ?_
      rw [b2_t (bo_all hk (n + 1)), b_231_18, if_neg (show ¬ iI 1 = (0 : Int32) from iI10), b_231_20, show (-1 : Int32) = iI (-1) from rfl, iI_add]
      exact u3 d (by omega) N xs
  · exact Ok.same hI (s_124B M L z h1 h2 q) (s_231B M L z h1 h2 q) (by omega) (by omega)

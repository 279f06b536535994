/-! Keeper: the search, against all codes in their order. -/
def dg (n k i : Nat) : Nat := k / 5 ^ (n - 1 - i) % 5
def cd (t : Nat → Nat) : Nat → Nat
  | 0 => 0
  | i + 1 => cd t i * 5 + t i
theorem cd_dg {t : Nat → Nat} (ht : ∀ j, t j < 5) {j : Nat} : ∀ {i : Nat}, j < i → cd t i / 5 ^ (i - 1 - j) % 5 = t j
  | 0, h => by omega
  | i + 1, h => by
    have h5 := ht i
    have e1 : cd t (i + 1) = cd t i * 5 + t i := rfl
    by_cases q : j = i
    · subst q
      rw [e1, show j + 1 - 1 - j = 0 by omega, Nat.pow_zero, Nat.div_one]
      omega
    · have ih := cd_dg ht (j := j) (i := i) (by omega)
      rw [show i + 1 - 1 - j = 1 + (i - 1 - j) by omega, Nat.pow_add, Nat.pow_one, ← Nat.div_div_eq_div_mul, e1, show (cd t i * 5 + t i) / 5 = cd t i by omega]
      exact ih
theorem dg_pre {t : Nat → Nat} (ht : ∀ j, t j < 5) {n c i j k : Nat} (hn : i + c = n) (hj : j < i) (hk : k / 5 ^ c = cd t i) : dg n k j = t j := by
  unfold dg
  rw [show n - 1 - j = c + (i - 1 - j) by omega, Nat.pow_add, ← Nat.div_div_eq_div_mul, hk]
  exact cd_dg ht hj
theorem dg_lt (n k i : Nat) : dg n k i < 5 := Nat.mod_lt _ (by omega)
def bc (co : Nat → Nat) (o : Option Nat) : Nat := match o with
  | none => 1073741824
  | some c => co c
def stO (fe : Nat → Prop) [DecidablePred fe] (co : Nat → Nat) (o : Option Nat) (k : Nat) : Option Nat := if fe k ∧ co k < bc co o then some k else o
def fo (fe : Nat → Prop) [DecidablePred fe] (co : Nat → Nat) : Nat → Nat → Option Nat → Option Nat
  | 0, _, o => o
  | c + 1, k, o => fo fe co c (k + 1) (stO fe co o k)
theorem fo_add (fe : Nat → Prop) [DecidablePred fe] (co : Nat → Nat) : ∀ (a b k : Nat) (o : Option Nat), fo fe co (a + b) k o = fo fe co b (k + a) (fo fe co a k o)
  | 0, b, k, o => by rw [Nat.zero_add]; rfl
  | a + 1, b, k, o => by
    rw [show a + 1 + b = (a + b) + 1 by omega]
    show fo fe co (a + b) (k + 1) (stO fe co o k) = fo fe co b (k + (a + 1)) (fo fe co a (k + 1) (stO fe co o k))
    rw [fo_add fe co a b (k + 1), show k + 1 + a = k + (a + 1) by omega]
theorem fo_no {fe : Nat → Prop} [DecidablePred fe] {co : Nat → Nat} {o : Option Nat} : ∀ (c k : Nat), (∀ x, k ≤ x → x < k + c → ¬ (fe x ∧ co x < bc co o)) → fo fe co c k o = o
  | 0, _, _ => rfl
  | c + 1, k, h => by
    show fo fe co c (k + 1) (stO fe co o k) = o
    have e : stO fe co o k = o := if_neg (h k (by omega) (by omega))
    rw [e]
    exact fo_no c (k + 1) (fun x h1 h2 => h x (by omega) (by omega))
def cw (V : Vw) (f c i : Nat) : Nat := if f = 0 then c + 1 else max (c / 1024) (2 * V.floor i) * 1024 + (c % 1024 + 64 + 2 ^ i)
def cs (V : Vw) (f : Nat) (t : Nat → Nat) : Nat → Nat
  | 0 => 0
  | i + 1 => if t i = 2 then cs V f t i else cw V f (cs V f t i) i
theorem cw_ge (V : Vw) (f c i : Nat) : c ≤ cw V f c i := by
  unfold cw
  split
  · omega
  · have h1 : c / 1024 ≤ max (c / 1024) (2 * V.floor i) := Nat.le_max_left _ _
    have h2 := Nat.mul_le_mul_right 1024 h1
    have h3 := Nat.two_pow_pos i
    omega
theorem cs_mono (V : Vw) (f : Nat) (t : Nat → Nat) {i : Nat} : ∀ {n : Nat}, i ≤ n → cs V f t i ≤ cs V f t n
  | 0, h => by rw [show i = 0 by omega]; exact Nat.le_refl _
  | n + 1, h => by
    by_cases q : i = n + 1
    · rw [q]; exact Nat.le_refl _
    · refine Nat.le_trans (cs_mono V f t (show i ≤ n by omega)) ?_
      show cs V f t n ≤ if t n = 2 then cs V f t n else cw V f (cs V f t n) n
      split
      · exact Nat.le_refl _
      · exact cw_ge _ _ _ _
theorem cs_cg (V : Vw) (f : Nat) {t u : Nat → Nat} : ∀ {i : Nat}, (∀ j, j < i → t j = u j) → cs V f t i = cs V f u i
  | 0, _ => rfl
  | i + 1, h => by
    show (if t i = 2 then cs V f t i else cw V f (cs V f t i) i) = (if u i = 2 then cs V f u i else cw V f (cs V f u i) i)
    rw [h i (by omega), cs_cg V f (fun j hj => h j (by omega))]
def hi (V : Vw) (t : Nat → Nat) : Nat → Nat
  | 0 => 0
  | i + 1 => if t i = 2 then hi V t i else max (hi V t i) (V.floor i)
abbrev tS (t : Nat → Nat) (i : Nat) : Nat := bS (fun j => t j ≠ 2) i
abbrev tC (t : Nat → Nat) (i : Nat) : Nat := cZ (fun j => t j ≠ 2) i
theorem hi_le {V : Vw} (hk : Vk V) (t : Nat → Nat) : ∀ i, hi V t i ≤ 3
  | 0 => by show 0 ≤ 3; omega
  | i + 1 => by
    have h1 := hi_le hk t i
    have h2 := hk.floor i
    show (if t i = 2 then hi V t i else max (hi V t i) (V.floor i)) ≤ 3
    split <;> omega
theorem or_add {x i : Nat} (h : x < 2 ^ i) : x ||| (1 <<< i) = x + 2 ^ i := by
  have := Nat.two_pow_add_eq_or_of_lt h 1
  rw [Nat.mul_one] at this
  rw [Nat.one_shiftLeft, Nat.or_comm, ← this, Nat.add_comm]
theorem cs_1 {V : Vw} (t : Nat → Nat) : ∀ {i : Nat}, i ≤ 6 → cs V 1 t i = 2048 * hi V t i + 64 * tC t i + tS t i
  | 0, _ => rfl
  | i + 1, h => by
    have ih := cs_1 (V := V) t (i := i) (by omega)
    have hl := bS_64 (fun j => t j ≠ 2) (n := i) (by omega)
    have hl2 := bS_lt (fun j => t j ≠ 2) i
    have hc := cZ_le (fun j => t j ≠ 2) i
    show (if t i = 2 then cs V 1 t i else cw V 1 (cs V 1 t i) i) = 2048 * (if t i = 2 then hi V t i else max (hi V t i) (V.floor i)) + 64 * tC t (i + 1) + tS t (i + 1)
    have eS : tS t (i + 1) = if t i ≠ 2 then tS t i ||| (1 <<< i) else tS t i := rfl
    by_cases q : t i = 2
    · rw [if_pos q, if_pos q, eS, if_neg (fun e => e q), show tC t (i + 1) = tC t i from cZ_f (p := fun j => t j ≠ 2) (fun e => e q), ih]
    · rw [if_neg q, if_neg q, eS, if_pos q, or_add hl2, show tC t (i + 1) = tC t i + 1 from cZ_t (p := fun j => t j ≠ 2) q]
      unfold cw
      rw [if_neg (by omega), ih]
      have e1 : (2048 * hi V t i + 64 * tC t i + tS t i) / 1024 = 2 * hi V t i := by
        show (2048 * hi V t i + 64 * cZ (fun j => t j ≠ 2) i + bS (fun j => t j ≠ 2) i) / 1024 = _
        omega
      have e2 : (2048 * hi V t i + 64 * tC t i + tS t i) % 1024 = 64 * tC t i + tS t i := by
        show (2048 * hi V t i + 64 * cZ (fun j => t j ≠ 2) i + bS (fun j => t j ≠ 2) i) % 1024 = 64 * cZ (fun j => t j ≠ 2) i + bS (fun j => t j ≠ 2) i
        omega
      have e3 : max (2 * hi V t i) (2 * V.floor i) * 1024 = 2048 * max (hi V t i) (V.floor i) := by omega
      rw [e1, e2, e3]
      show 2048 * max (hi V t i) (V.floor i) + (64 * cZ (fun j => t j ≠ 2) i + bS (fun j => t j ≠ 2) i + 64 + 2 ^ i) = 2048 * max (hi V t i) (V.floor i) + 64 * (cZ (fun j => t j ≠ 2) i + 1) + (bS (fun j => t j ≠ 2) i + 2 ^ i)
      omega
theorem cs_0 {V : Vw} (t : Nat → Nat) : ∀ i, cs V 0 t i = tC t i
  | 0 => rfl
  | i + 1 => by
    have ih := cs_0 (V := V) t i
    show (if t i = 2 then cs V 0 t i else cw V 0 (cs V 0 t i) i) = _
    by_cases q : t i = 2
    · rw [if_pos q, ih, show tC t (i + 1) = tC t i from cZ_f (p := fun j => t j ≠ 2) (fun e => e q)]
    · rw [if_neg q, show tC t (i + 1) = tC t i + 1 from cZ_t (p := fun j => t j ≠ 2) q]
      unfold cw
      rw [if_pos rfl, ih]
theorem cs_lt {V : Vw} (hk : Vk V) {f : Nat} (hf : f < 2) (t : Nat → Nat) {i : Nat} (h : i ≤ 6) : cs V f t i < 10000 := by
  have hl := bS_64 (fun j => t j ≠ 2) (n := i) (by omega)
  have hc := cZ_le (fun j => t j ≠ 2) i
  have hh := hi_le hk t i
  by_cases q : f = 0
  · subst q
    rw [cs_0]
    show cZ (fun j => t j ≠ 2) i < 10000
    omega
  · have e : f = 1 := by omega
    subst e
    rw [cs_1 t h]
    show 2048 * hi V t i + 64 * cZ (fun j => t j ≠ 2) i + bS (fun j => t j ≠ 2) i < 10000
    omega
abbrev bd (V : Vw) (N : Nat) (t : Nat → Nat) (x : Nat) : Prop := pr V.n x ∧ clq V (x / 6) (x % 6) ((t (x % 6) : Int) - (t (x / 6) : Int)) N
abbrev feT (V : Vw) (N : Nat) (t : Nat → Nat) : Prop := cZ (bd V N t) 36 = 0
abbrev feK (V : Vw) (N k : Nat) : Prop := feT V N (dg V.n k)
abbrev coK (V : Vw) (f k : Nat) : Nat := cs V f (dg V.n k) V.n
theorem bd_x {V : Vw} {N a b : Nat} {t : Nat → Nat} (hk : Vk V) (hab : a < b) (hb : b < V.n) (h : clq V a b ((t b : Int) - (t a : Int)) N) : ¬ feT V N t := by
  have hn := hk.n
  have : bd V N t (6 * a + b) := by
    refine ⟨by show (6 * a + b) / 6 < (6 * a + b) % 6 ∧ (6 * a + b) % 6 < V.n; omega, ?_⟩
    rw [show (6 * a + b) / 6 = a by omega, show (6 * a + b) % 6 = b by omega]
    exact h
  have := (cZ_pos (n := 36)).2 ⟨6 * a + b, by omega, this⟩
  show ¬ cZ (bd V N t) 36 = 0
  omega
theorem bd_ok {V : Vw} {N : Nat} {t : Nat → Nat} (h : ∀ a b, a < b → b < V.n → ¬ clq V a b ((t b : Int) - (t a : Int)) N) : feT V N t := by
  have hp := @cZ_pos (bd V N t) _ 36
  by_cases q : 0 < cZ (bd V N t) 36
  · obtain ⟨x, _, h1, h2⟩ := hp.1 q
    exact absurd h2 (h _ _ h1.1 h1.2)
  · show cZ (bd V N t) 36 = 0
    omega
section ZR
variable (M : Nat → Nat → Int32) (L : Nat → Nat → Int64)
theorem l_82 {d : Nat} (hd : 1 ≤ d) (N : Nat) (xs : Nat → Int32) (V : Vw) (hk : Vk V) (N9 : Nat) (hp : Kp V N9 M) (t : Nat → Nat) (ht : ∀ j, t j < 5) (i b : Nat) (hi : i < V.n) (hb : b < 5) (h43 : ∀ j, j < i → M 43 j = iI ((t j : Int) - 2)) : ∀ c k : Nat, k + c = i → cZ (fun k => clq V k i ((b : Int) - (t k : Int)) N9) k = 0 → zz_X (zz_call_ d) tb_82 1 [some (.ref 38), some (.int (iI i)), some (.int (iI ((b : Int) - 2))), some (.int (iI k))] [] (zm N xs M L) = some (some (.int (b2 (cZ (fun k => clq V k i ((b : Int) - (t k : Int)) N9) i = 0))), zm N xs M L)
  | 0, k, hc, hz => by
    have hn := hk.n
    rw [b_82_1, if_pos (by rw [t_le, iI_to (by omega) (by omega), iI_to (by omega) (by omega)]; omega), b_82_4, b2_t (by rw [show i = k by omega] at hz ⊢; exact hz)]
    rfl
  | c + 1, k, hc, hz => by
    have hn := hk.n
    have h5 := ht k
    have ex : ((b + 4 - t k : Nat) : Int) - 4 = (b : Int) - (t k : Int) := by omega
    have g75 := g_75 (d := d) (N := N) (xs := xs) (tb_ := tb_82) (t_ := 2) (ls_ := [some (.ref 38), some (.int (iI i)), some (.int (iI ((b : Int) - 2))), some (.int (iI k))]) (rest_ := []) M L V hk N9 hp k i (b + 4 - t k) (by omega) hi (by omega) hd
    rw [ex] at g75
    rw [b_82_1, if_neg (by rw [t_le, iI_to (by omega) (by omega), iI_to (by omega) (by omega)]; omega), ix_nat (by omega) (by omega), o_some, h43 k (by omega), iI_sub, show (b : Int) - 2 - ((t k : Int) - 2) = (b : Int) - (t k : Int) by omega]
    refine Eq.trans g75 ?_
    rw [b_82_2]
    by_cases q : clq V k i ((b : Int) - (t k : Int)) N9
    · have hmo := cZ_mono (fun k => clq V k i ((b : Int) - (t k : Int)) N9) (show k + 1 ≤ i by omega)
      rw [cZ_t (p := fun k => clq V k i ((b : Int) - (t k : Int)) N9) q] at hmo
      rw [b2_t q, if_neg (show ¬ iI 1 = (0 : Int32) from iI10), b2_f (by omega)]
      rfl
    · rw [b2_f q, if_pos (show iI 0 = (0 : Int32) from rfl), b_82_3, show (1 : Int32) = iI 1 from rfl, iI_add]
      exact l_82 hd N xs V hk N9 hp t ht i b hi hb h43 c (k + 1) (by omega) (by rw [cZ_f (p := fun k => clq V k i ((b : Int) - (t k : Int)) N9) q]; exact hz)
theorem s_82 (V : Vw) (hk : Vk V) (N9 : Nat) (hp : Kp V N9 M) (t : Nat → Nat) (ht : ∀ j, t j < 5) (i b : Nat) (hi : i < V.n) (hb : b < 5) (h43 : ∀ j, j < i → M 43 j = iI ((t j : Int) - 2)) : zc 2 82 [.ref 38, .int (iI i), .int (iI ((b : Int) - 2))] M L (some (.int (b2 (cZ (fun k => clq V k i ((b : Int) - (t k : Int)) N9) i = 0)))) M L := by
  refine zc_of (n := 1) (ls := [some (.ref 38), some (.int (iI i)), some (.int (iI ((b : Int) - 2))), none]) mk_82 rfl rfl rfl rfl (fun d hd N xs => ?_)
  rw [b_82_0]
  exact l_82 M L hd N xs V hk N9 hp t ht i b hi hb h43 i 0 (by omega) rfl
theorem g_82 (V : Vw) (hk : Vk V) (N9 : Nat) (hp : Kp V N9 M) (t : Nat → Nat) (ht : ∀ j, t j < 5) (i b : Nat) (hi : i < V.n) (hb : b < 5) (h43 : ∀ j, j < i → M 43 j = iI ((t j : Int) - 2)) {d N : Nat} {xs : Nat → Int32} {tb_ : List zz_B} {t_ : Nat} {ls_ : zz_L} {rest_ : List Value} (hd_ : 2 ≤ d) : (zz_o (zz_call_ d 82 [.ref 38, .int (iI i), .int (iI ((b : Int) - 2))] (zm N xs M L)) fun r => zz_X (zz_call_ d) tb_ t_ ls_ (r.1.toList ++ rest_) r.2) = zz_X (zz_call_ d) tb_ t_ ls_ ((.int (b2 (cZ (fun k => clq V k i ((b : Int) - (t k : Int)) N9) i = 0))) :: rest_) (zm N xs M L) := (s_82 M L V hk N9 hp t ht i b hi hb h43).go hd_
theorem s_83 (V : Vw) (hk : Vk V) (N9 : Nat) (hp : Kp V N9 M) (f c i : Nat) (hf : f < 2) (h7 : M 38 7 = iI f) (hi : i < V.n) (hc : c < 10000) (hl : f = 1 → c % 1024 + 64 + 2 ^ i < 1024) : zc 1 83 [.ref 38, .int (iI c), .int (iI i)] M L (some (.int (iI (cw V f c i)))) M L := by
  refine zc_of (n := 0) (ls := [some (.ref 38), some (.int (iI c)), some (.int (iI i)), none]) mk_83 rfl rfl rfl rfl (fun d hd N xs => ?_)
  have hn := hk.n
  have hfl := hk.floor i
  have hp6 : (2 : Nat) ^ i ≤ 2 ^ 6 := Nat.pow_le_pow_right (by omega) (by omega)
  unfold cw
  rw [b_83_0, h7]
  by_cases q : f = 0
  · rw [if_pos (by rw [q]; rfl), if_pos q, show (1 : Int32) = iI 1 from rfl, iI_add]
    rfl
  · have hl' := hl (by omega)
    have e10 : iI c >>> ((10 : Int32) &&& 31) = iI ((c / 1024 : Nat) : Int) := by rw [show (10 : Int32) = iI ((10 : Nat) : Int) from rfl, iN_shr (by omega) (by omega), Nat.shiftRight_eq_div_pow]
    have e23 : iI c &&& 1023 = iI ((c % 1024 : Nat) : Int) := by rw [show (1023 : Int32) = iI ((1023 : Nat) : Int) from rfl, iN_and (by omega) (by omega), show (1023 : Nat) = 2 ^ 10 - 1 from rfl, Nat.and_two_pow_sub_one_eq_mod]
    have esh : ∀ y : Nat, y < 100 → iI y <<< ((10 : Int32) &&& 31) = iI ((y * 1024 : Nat) : Int) := by decide +kernel
    rw [if_neg (by rw [t_eq, show (0 : Int32).toInt = 0 from rfl, iI_to (by omega) (by omega)]; omega), if_neg q, b_83_1, ix_nat (by omega) (by omega), o_some, hp.2.2 i hi, e10, e23, show (2 : Int32) = iI 2 from rfl, iI_mul, show (2 : Int) * ((V.floor i : Nat) : Int) = ((2 * V.floor i : Nat) : Int) by omega, iN_shl (by omega), Nat.one_shiftLeft, show (64 : Int32) = iI 64 from rfl, iI_add, iI_add, show ((c % 1024 : Nat) : Int) + 64 + ((2 ^ i : Nat) : Int) = ((c % 1024 + 64 + 2 ^ i : Nat) : Int) by omega]
    have em : (if iI ((c / 1024 : Nat) : Int) < iI ((2 * V.floor i : Nat) : Int) then iI ((2 * V.floor i : Nat) : Int) else iI ((c / 1024 : Nat) : Int)) = iI ((max (c / 1024) (2 * V.floor i) : Nat) : Int) := by
      by_cases e : c / 1024 < 2 * V.floor i
      · rw [if_pos (by rw [t_lt, iI_to (by omega) (by omega), iI_to (by omega) (by omega)]; omega), Nat.max_eq_right (by omega)]
      · rw [if_neg (by rw [t_lt, iI_to (by omega) (by omega), iI_to (by omega) (by omega)]; omega), Nat.max_eq_left (by omega)]
    have eo := Nat.two_pow_add_eq_or_of_lt (i := 10) (b := c % 1024 + 64 + 2 ^ i) hl' (max (c / 1024) (2 * V.floor i))
    rw [em, esh _ (by omega), iN_or (by omega) (by omega), Nat.mul_comm (max (c / 1024) (2 * V.floor i)) 1024, show (1024 : Nat) = 2 ^ 10 from rfl, ← eo]
theorem g_83 (V : Vw) (hk : Vk V) (N9 : Nat) (hp : Kp V N9 M) (f c i : Nat) (hf : f < 2) (h7 : M 38 7 = iI f) (hi : i < V.n) (hc : c < 10000) (hl : f = 1 → c % 1024 + 64 + 2 ^ i < 1024) {d N : Nat} {xs : Nat → Int32} {tb_ : List zz_B} {t_ : Nat} {ls_ : zz_L} {rest_ : List Value} (hd_ : 1 ≤ d) : (zz_o (zz_call_ d 83 [.ref 38, .int (iI c), .int (iI i)] (zm N xs M L)) fun r => zz_X (zz_call_ d) tb_ t_ ls_ (r.1.toList ++ rest_) r.2) = zz_X (zz_call_ d) tb_ t_ ls_ ((.int (iI (cw V f c i))) :: rest_) (zm N xs M L) := (s_83 M L V hk N9 hp f c i hf h7 hi hc hl).go hd_
end ZR

/-! how many bits: Long.bitCount, Integer.bitCount. -/
def mkB (b : Nat) : Nat → Nat
  | 0 => 0
  | j + 1 => b + 256 * mkB b j
def mpB (f : Nat → Nat) : Nat → Nat → Nat
  | 0, _ => 0
  | j + 1, x => f (x % 256) + 256 * mpB f j (x / 256)
theorem and8 (x m : Nat) : x &&& m = (x % 256 &&& m % 256) + 256 * (x / 256 &&& m / 256) := by
  have h1 : (x &&& m) % 2 ^ 8 = x % 2 ^ 8 &&& m % 2 ^ 8 := Nat.and_mod_two_pow
  have h2 : (x &&& m) / 2 ^ 8 = x / 2 ^ 8 &&& m / 2 ^ 8 := Nat.and_div_two_pow
  have h3 := Nat.div_add_mod (x &&& m) 256
  rw [show (2 : Nat) ^ 8 = 256 from rfl] at h1 h2
  rw [← h1, ← h2]
  omega
theorem mk_m (b j : Nat) (hb : b < 256) : mkB b (j + 1) % 256 = b ∧ mkB b (j + 1) / 256 = mkB b j := by
  show (b + 256 * mkB b j) % 256 = b ∧ (b + 256 * mkB b j) / 256 = mkB b j
  omega
theorem f1 : ∀ c, c < 256 → ∀ t, t < 2 → (c / 2 + 128 * t) &&& 85 = c / 2 &&& 85 := by decide +kernel
theorem f2 : ∀ c, c < 256 → ∀ t, t < 4 → (c / 4 + 64 * t) &&& 51 = c / 4 &&& 51 := by decide +kernel
theorem sh1 : ∀ j x, x / 2 &&& mkB 85 j = mpB (fun c => c / 2 &&& 85) j x
  | 0, x => Nat.and_zero _
  | j + 1, x => by
    have hm := mk_m 85 j (by omega)
    rw [and8, hm.1, hm.2, show x / 2 / 256 = x / 256 / 2 by omega, sh1 j (x / 256), show x / 2 % 256 = x % 256 / 2 + 128 * (x / 256 % 2) by omega, f1 _ (Nat.mod_lt _ (by omega)) _ (Nat.mod_lt _ (by omega))]
    rfl
theorem sh2 : ∀ j x, x / 4 &&& mkB 51 j = mpB (fun c => c / 4 &&& 51) j x
  | 0, x => Nat.and_zero _
  | j + 1, x => by
    have hm := mk_m 51 j (by omega)
    rw [and8, hm.1, hm.2, show x / 4 / 256 = x / 256 / 4 by omega, sh2 j (x / 256), show x / 4 % 256 = x % 256 / 4 + 64 * (x / 256 % 4) by omega, f2 _ (Nat.mod_lt _ (by omega)) _ (Nat.mod_lt _ (by omega))]
    rfl
theorem sh0 : ∀ j x, x &&& mkB 51 j = mpB (fun c => c &&& 51) j x
  | 0, x => Nat.and_zero _
  | j + 1, x => by
    have hm := mk_m 51 j (by omega)
    rw [and8, hm.1, hm.2, sh0 j (x / 256)]
    rfl
theorem mp_cg {f g : Nat → Nat} (h : ∀ c, c < 256 → f c = g c) : ∀ j x, mpB f j x = mpB g j x
  | 0, _ => rfl
  | j + 1, x => by
    show f (x % 256) + 256 * mpB f j (x / 256) = g (x % 256) + 256 * mpB g j (x / 256)
    rw [h _ (Nat.mod_lt _ (by omega)), mp_cg h j]
theorem mp_id : ∀ j x, x < 256 ^ j → mpB (fun c => c) j x = x
  | 0, x, h => by rw [Nat.pow_zero] at h; show 0 = x; omega
  | j + 1, x, h => by
    rw [Nat.pow_succ] at h
    show x % 256 + 256 * mpB (fun c => c) j (x / 256) = x
    rw [mp_id j (x / 256) (Nat.div_lt_of_lt_mul (by rw [Nat.mul_comm]; exact h))]
    omega
theorem mp_add (f g : Nat → Nat) : ∀ j x, mpB f j x + mpB g j x = mpB (fun c => f c + g c) j x
  | 0, _ => rfl
  | j + 1, x => by
    have := mp_add f g j (x / 256)
    show f (x % 256) + 256 * mpB f j (x / 256) + (g (x % 256) + 256 * mpB g j (x / 256)) = f (x % 256) + g (x % 256) + 256 * mpB (fun c => f c + g c) j (x / 256)
    omega
theorem mp_sub {f g : Nat → Nat} (h : ∀ c, c < 256 → g c ≤ f c) : ∀ j x, mpB g j x ≤ mpB f j x ∧ mpB f j x - mpB g j x = mpB (fun c => f c - g c) j x
  | 0, _ => ⟨Nat.le_refl _, rfl⟩
  | j + 1, x => by
    have ih := mp_sub h j (x / 256)
    have hc := h (x % 256) (Nat.mod_lt _ (by omega))
    show g (x % 256) + 256 * mpB g j (x / 256) ≤ f (x % 256) + 256 * mpB f j (x / 256) ∧ f (x % 256) + 256 * mpB f j (x / 256) - (g (x % 256) + 256 * mpB g j (x / 256)) = f (x % 256) - g (x % 256) + 256 * mpB (fun c => f c - g c) j (x / 256)
    omega
theorem mp_mp {f : Nat → Nat} (g : Nat → Nat) (h : ∀ c, c < 256 → f c < 256) : ∀ j x, mpB g j (mpB f j x) = mpB (fun c => g (f c)) j x
  | 0, _ => rfl
  | j + 1, x => by
    have hc := h (x % 256) (Nat.mod_lt _ (by omega))
    show g ((f (x % 256) + 256 * mpB f j (x / 256)) % 256) + 256 * mpB g j ((f (x % 256) + 256 * mpB f j (x / 256)) / 256) = g (f (x % 256)) + 256 * mpB (fun c => g (f c)) j (x / 256)
    rw [show (f (x % 256) + 256 * mpB f j (x / 256)) % 256 = f (x % 256) by omega, show (f (x % 256) + 256 * mpB f j (x / 256)) / 256 = mpB f j (x / 256) by omega, mp_mp g h j]
theorem mp_lt {f : Nat → Nat} (h : ∀ c, c < 256 → f c < 256) : ∀ j x, mpB f j x < 256 ^ j
  | 0, _ => by show 0 < 1; omega
  | j + 1, x => by
    have ih := mp_lt h j (x / 256)
    have hc := h (x % 256) (Nat.mod_lt _ (by omega))
    rw [Nat.pow_succ]
    show f (x % 256) + 256 * mpB f j (x / 256) < _
    omega
theorem sh4 {f : Nat → Nat} (h : ∀ c, c < 256 → f c % 16 ≤ 4 ∧ f c / 16 ≤ 4) : ∀ j x, (mpB f j x + mpB f j x / 16) &&& mkB 15 j = mpB (fun c => (f c + f c / 16) % 16) j x
  | 0, x => Nat.and_zero _
  | j + 1, x => by
    have hc := h (x % 256) (Nat.mod_lt _ (by omega))
    have ih := sh4 h j (x / 256)
    have hm := mk_m 15 j (by omega)
    have h16 : mpB f j (x / 256) % 16 ≤ 4 := by
      cases j with
      | zero => show 0 % 16 ≤ 4; omega
      | succ j =>
        have hc2 := h (x / 256 % 256) (Nat.mod_lt _ (by omega))
        show (f (x / 256 % 256) + 256 * mpB f j (x / 256 / 256)) % 16 ≤ 4
        omega
    have e : mpB f (j + 1) x = f (x % 256) + 256 * mpB f j (x / 256) := rfl
    rw [and8, hm.1, hm.2, e]
    have e1 : (f (x % 256) + 256 * mpB f j (x / 256) + (f (x % 256) + 256 * mpB f j (x / 256)) / 16) / 256 = mpB f j (x / 256) + mpB f j (x / 256) / 16 := by omega
    have e2 : (f (x % 256) + 256 * mpB f j (x / 256) + (f (x % 256) + 256 * mpB f j (x / 256)) / 16) % 256 &&& 15 = (f (x % 256) + f (x % 256) / 16) % 16 := by
      rw [show (15 : Nat) = 2 ^ 4 - 1 from rfl, Nat.and_two_pow_sub_one_eq_mod]
      omega
    rw [e1, e2, ih]
    rfl
def c1 (c : Nat) : Nat := c - (c / 2 &&& 85)
def c2 (c : Nat) : Nat := (c1 c &&& 51) + (c1 c / 4 &&& 51)
def c3 (c : Nat) : Nat := (c2 c + c2 c / 16) % 16
theorem f3 : ∀ c, c < 256 → (c / 2 &&& 85) ≤ c := by decide +kernel
theorem f4 : ∀ c, c < 256 → c1 c < 256 := by decide +kernel
theorem f5 : ∀ c, c < 256 → c2 c % 16 ≤ 4 ∧ c2 c / 16 ≤ 4 := by decide +kernel
theorem f6 : ∀ c, c < 256 → c3 c = cZ (fun k => c.testBit k = true) 8 := by decide +kernel
theorem sb1 {x : Nat} (h : x < 256 ^ 8) : x - (x / 2 &&& mkB 85 8) = mpB c1 8 x ∧ (x / 2 &&& mkB 85 8) ≤ x := by
  have e := mp_sub (f := fun c => c) (g := fun c => c / 2 &&& 85) f3 8 x
  rw [mp_id 8 x h, ← sh1] at e
  exact ⟨e.2, e.1⟩
theorem sb2 (x : Nat) : (mpB c1 8 x &&& mkB 51 8) + (mpB c1 8 x / 4 &&& mkB 51 8) = mpB c2 8 x := by
  rw [sh0, sh2, mp_mp _ f4, mp_mp _ f4, mp_add]
  rfl
theorem sb3 (x : Nat) : (mpB c2 8 x + mpB c2 8 x / 16) &&& mkB 15 8 = mpB c3 8 x := by
  rw [sh4 f5]
  rfl
theorem pcZ (x n : Nat) : cZ (fun k => x.testBit k = true) (8 + n) = cZ (fun k => (x % 256).testBit k = true) 8 + cZ (fun k => (x / 256).testBit k = true) n := by
  rw [cZ_add]
  have e1 : cZ (fun k => x.testBit k = true) 8 = cZ (fun k => (x % 256).testBit k = true) 8 := cZ_cg (fun k hk => by
    rw [show (256 : Nat) = 2 ^ 8 from rfl, Nat.testBit_mod_two_pow]
    simp [hk])
  have e2 : cZ (fun k => x.testBit (8 + k) = true) n = cZ (fun k => (x / 256).testBit k = true) n := cZ_cg (fun k hk => by
    rw [show (256 : Nat) = 2 ^ 8 from rfl, Nat.testBit_div_two_pow, Nat.add_comm])
  rw [e1, e2]
theorem c3_le (c : Nat) (h : c < 256) : c3 c ≤ 8 := by
  rw [f6 c h]
  exact cZ_le _ _
theorem dvl {r q m : Nat} (h : r < m) : (r + m * q) / m = q := by rw [Nat.add_mul_div_left _ _ (by omega), Nat.div_eq_of_lt h, Nat.zero_add]
theorem mdl {r q m : Nat} (h : r < m) : (r + m * q) % m = r := by rw [Nat.add_mul_mod_self_left, Nat.mod_eq_of_lt h]
theorem sq1 {a0 a1 a2 a3 a4 a5 a6 a7 : Nat} (h0 : a0 ≤ 8) : (a0 + 256 * (a1 + 256 * (a2 + 256 * (a3 + 256 * (a4 + 256 * (a5 + 256 * (a6 + 256 * (a7 + 256 * 0)))))))) / 256 = (a1 + 256 * (a2 + 256 * (a3 + 256 * (a4 + 256 * (a5 + 256 * (a6 + 256 * (a7 + 256 * 0))))))) := dvl (by omega)
theorem sq2 {a0 a1 a2 a3 a4 a5 a6 a7 : Nat} : a0 + 256 * (a1 + 256 * (a2 + 256 * (a3 + 256 * (a4 + 256 * (a5 + 256 * (a6 + 256 * (a7 + 256 * 0))))))) + (a1 + 256 * (a2 + 256 * (a3 + 256 * (a4 + 256 * (a5 + 256 * (a6 + 256 * (a7 + 256 * 0))))))) = ((a0 + a1) + 256 * (a1 + a2) + 65536 * ((a2 + a3) + 256 * ((a3 + a4) + 256 * ((a4 + a5) + 256 * ((a5 + a6) + 256 * ((a6 + a7) + 256 * a7)))))) := by omega
theorem sq3 {a0 a1 a2 a3 a4 a5 a6 a7 : Nat} (h0 : a0 ≤ 8) (h1 : a1 ≤ 8) (h2 : a2 ≤ 8) : ((a0 + a1) + 256 * (a1 + a2) + 65536 * ((a2 + a3) + 256 * ((a3 + a4) + 256 * ((a4 + a5) + 256 * ((a5 + a6) + 256 * ((a6 + a7) + 256 * a7)))))) / 65536 = ((a2 + a3) + 256 * ((a3 + a4) + 256 * ((a4 + a5) + 256 * ((a5 + a6) + 256 * ((a6 + a7) + 256 * a7))))) := dvl (by omega)
theorem sq4 {a0 a1 a2 a3 a4 a5 a6 a7 : Nat} : ((a0 + a1) + 256 * (a1 + a2) + 65536 * ((a2 + a3) + 256 * ((a3 + a4) + 256 * ((a4 + a5) + 256 * ((a5 + a6) + 256 * ((a6 + a7) + 256 * a7)))))) + ((a2 + a3) + 256 * ((a3 + a4) + 256 * ((a4 + a5) + 256 * ((a5 + a6) + 256 * ((a6 + a7) + 256 * a7))))) = (((a0 + a1) + (a2 + a3)) + 256 * ((a1 + a2) + (a3 + a4)) + 65536 * ((a2 + a3) + (a4 + a5)) + 16777216 * ((a3 + a4) + (a5 + a6)) + 4294967296 * (((a4 + a5) + (a6 + a7)) + 256 * (((a5 + a6) + a7) + 256 * ((a6 + a7) + 256 * a7)))) := by omega
theorem sq5 {a0 a1 a2 a3 a4 a5 a6 a7 : Nat} (h0 : a0 ≤ 8) (h1 : a1 ≤ 8) (h2 : a2 ≤ 8) (h3 : a3 ≤ 8) (h4 : a4 ≤ 8) (h5 : a5 ≤ 8) (h6 : a6 ≤ 8) : (((a0 + a1) + (a2 + a3)) + 256 * ((a1 + a2) + (a3 + a4)) + 65536 * ((a2 + a3) + (a4 + a5)) + 16777216 * ((a3 + a4) + (a5 + a6)) + 4294967296 * (((a4 + a5) + (a6 + a7)) + 256 * (((a5 + a6) + a7) + 256 * ((a6 + a7) + 256 * a7)))) / 4294967296 = (((a4 + a5) + (a6 + a7)) + 256 * (((a5 + a6) + a7) + 256 * ((a6 + a7) + 256 * a7))) := dvl (by omega)
theorem sq6 {a0 a1 a2 a3 a4 a5 a6 a7 : Nat} (h0 : a0 ≤ 8) (h1 : a1 ≤ 8) (h2 : a2 ≤ 8) (h3 : a3 ≤ 8) (h4 : a4 ≤ 8) (h5 : a5 ≤ 8) (h6 : a6 ≤ 8) (h7 : a7 ≤ 8) : ((((a0 + a1) + (a2 + a3)) + 256 * ((a1 + a2) + (a3 + a4)) + 65536 * ((a2 + a3) + (a4 + a5)) + 16777216 * ((a3 + a4) + (a5 + a6)) + 4294967296 * (((a4 + a5) + (a6 + a7)) + 256 * (((a5 + a6) + a7) + 256 * ((a6 + a7) + 256 * a7)))) + (((a4 + a5) + (a6 + a7)) + 256 * (((a5 + a6) + a7) + 256 * ((a6 + a7) + 256 * a7)))) % 128 = a0 + (a1 + (a2 + (a3 + (a4 + (a5 + (a6 + a7)))))) := by
  rw [show (((a0 + a1) + (a2 + a3)) + 256 * ((a1 + a2) + (a3 + a4)) + 65536 * ((a2 + a3) + (a4 + a5)) + 16777216 * ((a3 + a4) + (a5 + a6)) + 4294967296 * (((a4 + a5) + (a6 + a7)) + 256 * (((a5 + a6) + a7) + 256 * ((a6 + a7) + 256 * a7)))) + (((a4 + a5) + (a6 + a7)) + 256 * (((a5 + a6) + a7) + 256 * ((a6 + a7) + 256 * a7))) = (a0 + a1 + (a2 + a3) + (a4 + a5 + (a6 + a7))) + 128 * (2 * (((((a1 + a2) + (a3 + a4)) + ((a5 + a6) + a7)) + 256 * ((((a2 + a3) + (a4 + a5)) + (a6 + a7)) + 256 * (((a3 + a4) + (a5 + a6)) + a7))) + 16777216 * (((a4 + a5) + (a6 + a7)) + 256 * (((a5 + a6) + a7) + 256 * ((a6 + a7) + 256 * a7))))) by omega, mdl (by omega)]
  omega
theorem sb4 (x : Nat) : ((mpB c3 8 x + mpB c3 8 x / 256) + (mpB c3 8 x + mpB c3 8 x / 256) / 65536 + ((mpB c3 8 x + mpB c3 8 x / 256) + (mpB c3 8 x + mpB c3 8 x / 256) / 65536) / 4294967296) % 128 = cZ (fun k => x.testBit k = true) 64 := by
  have b : ∀ y, c3 (y % 256) ≤ 8 := fun y => c3_le _ (Nat.mod_lt _ (by omega))
  have e : ∀ y, c3 (y % 256) = cZ (fun k => (y % 256).testBit k = true) 8 := fun y => f6 _ (Nat.mod_lt _ (by omega))
  rw [show (64 : Nat) = 8 + 56 from rfl, pcZ, show (56 : Nat) = 8 + 48 from rfl, pcZ, show (48 : Nat) = 8 + 40 from rfl, pcZ, show (40 : Nat) = 8 + 32 from rfl, pcZ, show (32 : Nat) = 8 + 24 from rfl, pcZ, show (24 : Nat) = 8 + 16 from rfl, pcZ, show (16 : Nat) = 8 + 8 from rfl, pcZ, show cZ (fun k => (x / 256 / 256 / 256 / 256 / 256 / 256 / 256).testBit k = true) 8 = cZ (fun k => (x / 256 / 256 / 256 / 256 / 256 / 256 / 256 % 256).testBit k = true) 8 from cZ_cg (fun k hk => by rw [show (x / 256 / 256 / 256 / 256 / 256 / 256 / 256 % 256) = (x / 256 / 256 / 256 / 256 / 256 / 256 / 256) % 2 ^ 8 from rfl, Nat.testBit_mod_two_pow]; simp [hk])]
  simp only [← e]
  have b0 := b x
  have b1 := b (x / 256)
  have b2 := b (x / 256 / 256)
  have b3 := b (x / 256 / 256 / 256)
  have b4 := b (x / 256 / 256 / 256 / 256)
  have b5 := b (x / 256 / 256 / 256 / 256 / 256)
  have b6 := b (x / 256 / 256 / 256 / 256 / 256 / 256)
  have b7 := b (x / 256 / 256 / 256 / 256 / 256 / 256 / 256)
  have em : mpB c3 8 x = c3 (x % 256) + 256 * (c3 (x / 256 % 256) + 256 * (c3 (x / 256 / 256 % 256) + 256 * (c3 (x / 256 / 256 / 256 % 256) + 256 * (c3 (x / 256 / 256 / 256 / 256 % 256) + 256 * (c3 (x / 256 / 256 / 256 / 256 / 256 % 256) + 256 * (c3 (x / 256 / 256 / 256 / 256 / 256 / 256 % 256) + 256 * (c3 (x / 256 / 256 / 256 / 256 / 256 / 256 / 256 % 256) + 256 * 0))))))) := rfl
  rw [em]
  generalize c3 (x % 256) = a0 at *
  generalize c3 (x / 256 % 256) = a1 at *
  generalize c3 (x / 256 / 256 % 256) = a2 at *
  generalize c3 (x / 256 / 256 / 256 % 256) = a3 at *
  generalize c3 (x / 256 / 256 / 256 / 256 % 256) = a4 at *
  generalize c3 (x / 256 / 256 / 256 / 256 / 256 % 256) = a5 at *
  generalize c3 (x / 256 / 256 / 256 / 256 / 256 / 256 % 256) = a6 at *
  generalize c3 (x / 256 / 256 / 256 / 256 / 256 / 256 / 256 % 256) = a7 at *
  rw [sq1 b0, sq2, sq3 b0 b1 b2, sq4, sq5 b0 b1 b2 b3 b4 b5 b6, sq6 b0 b1 b2 b3 b4 b5 b6 b7]
theorem lN_sh {x k : Nat} (hx : x < 2 ^ 64) (hk : k < 64) : ((lI x).toUInt64 >>> ((iI k).toInt64.toUInt64 &&& Int64.toUInt64 63)).toInt64 = lI (x / 2 ^ k : Nat) := by
  rw [k63u k hk]
  apply lN_of
  rw [lN_ushr hx hk, Nat.shiftRight_eq_div_pow]
theorem lNsb {a b : Nat} (h : b ≤ a) : lI a - lI b = lI (a - b : Nat) := by
  rw [lI_sub]
  congr 1
  omega
theorem lNad (a b : Nat) : lI a + lI b = lI (a + b : Nat) := by
  rw [lI_add]
  congr 1
theorem i127 (y : Nat) : iI y &&& 127 = iI (y % 128 : Nat) := by
  apply iN_of
  rw [Int32.toBitVec_and, iN_bv, show (127 : Int32).toBitVec = BitVec.ofNat 32 127 from rfl, BitVec.toNat_and, BitVec.toNat_ofNat, BitVec.toNat_ofNat, show 127 % 2 ^ 32 = 2 ^ 7 - 1 from rfl, Nat.and_two_pow_sub_one_eq_mod]
  omega
section ZR
variable (M : Nat → Nat → Int32) (L : Nat → Nat → Int64)
theorem s_10 (x : Nat) (hx : x < 2 ^ 64) : zc 1 10 [.long (lI x)] M L (some (.int (iI (cZ (fun k => x.testBit k = true) 64)))) M L := by
  refine zc_of (n := 0) (ls := [some (.long (lI x)), none]) mk_10 rfl rfl rfl rfl (fun d hd N xs => ?_)
  have hx8 : x < 256 ^ 8 := hx
  have h1 := sb1 hx8
  have q1 : ((1 : Int32).toInt64.toUInt64 &&& Int64.toUInt64 63) = ((iI (1 : Nat)).toInt64.toUInt64 &&& Int64.toUInt64 63) := rfl
  have l1 : mpB c1 8 x < 2 ^ 64 := mp_lt f4 8 x
  have l2 : mpB c2 8 x < 2 ^ 64 := mp_lt (fun c hc => by have := f5 c hc; omega) 8 x
  have l3 : mpB c3 8 x < 2 ^ 60 := by
    have b : ∀ y, c3 (y % 256) ≤ 8 := fun y => c3_le _ (Nat.mod_lt _ (by omega))
    have b0 := b (x / 256 / 256 / 256 / 256 / 256 / 256 / 256)
    have l7 : mpB c3 7 x < 256 ^ 7 := mp_lt (fun c hc => by have := c3_le c hc; omega) 7 x
    have l6 := fun y => mp_lt (f := c3) (fun c hc => by have := c3_le c hc; omega) 6 y
    have e1 : mpB c3 8 x = c3 (x % 256) + 256 * (c3 (x / 256 % 256) + 256 * (c3 (x / 256 / 256 % 256) + 256 * (c3 (x / 256 / 256 / 256 % 256) + 256 * (c3 (x / 256 / 256 / 256 / 256 % 256) + 256 * (c3 (x / 256 / 256 / 256 / 256 / 256 % 256) + 256 * (c3 (x / 256 / 256 / 256 / 256 / 256 / 256 % 256) + 256 * (c3 (x / 256 / 256 / 256 / 256 / 256 / 256 / 256 % 256) + 256 * 0))))))) := rfl
    rw [e1]
    have a0 := b x
    have a1 := b (x / 256)
    have a2 := b (x / 256 / 256)
    have a3 := b (x / 256 / 256 / 256)
    have a4 := b (x / 256 / 256 / 256 / 256)
    have a5 := b (x / 256 / 256 / 256 / 256 / 256)
    have a6 := b (x / 256 / 256 / 256 / 256 / 256 / 256)
    omega
  have k5 : mkB 85 8 = 6148914691236517205 := by decide +kernel
  have k3 : mkB 51 8 = 3689348814741910323 := by decide +kernel
  have kf : mkB 15 8 = 1085102592571150095 := by decide +kernel
  have e1 : lI x - (((lI x).toUInt64 >>> ((1 : Int32).toInt64.toUInt64 &&& Int64.toUInt64 63)).toInt64 &&& 6148914691236517205) = lI (mpB c1 8 x) := by
    have s := @lN_sh x 1 hx (by omega)
    rw [show ((1 : Int32).toInt64.toUInt64 &&& Int64.toUInt64 63) = ((iI (1 : Nat)).toInt64.toUInt64 &&& Int64.toUInt64 63) from rfl, s, show (6148914691236517205 : Int64) = lI ((6148914691236517205 : Nat) : Int) from rfl, lN_and (by omega) (by omega), ← k5, Nat.pow_one, lNsb h1.2, h1.1]
  have e2 : (lI (mpB c1 8 x) &&& 3689348814741910323) + (((lI (mpB c1 8 x)).toUInt64 >>> ((2 : Int32).toInt64.toUInt64 &&& Int64.toUInt64 63)).toInt64 &&& 3689348814741910323) = lI (mpB c2 8 x) := by
    have s := @lN_sh (mpB c1 8 x) 2 l1 (by omega)
    rw [show ((2 : Int32).toInt64.toUInt64 &&& Int64.toUInt64 63) = ((iI (2 : Nat)).toInt64.toUInt64 &&& Int64.toUInt64 63) from rfl, s, show (3689348814741910323 : Int64) = lI ((3689348814741910323 : Nat) : Int) from rfl, lN_and l1 (by omega), lN_and (by omega) (by omega), ← k3, lNad, show 2 ^ 2 = 4 from rfl, sb2]
  have e3 : (lI (mpB c2 8 x) + ((lI (mpB c2 8 x)).toUInt64 >>> ((4 : Int32).toInt64.toUInt64 &&& Int64.toUInt64 63)).toInt64) &&& 1085102592571150095 = lI (mpB c3 8 x) := by
    have s := @lN_sh (mpB c2 8 x) 4 l2 (by omega)
    have l2' : mpB c2 8 x + mpB c2 8 x / 2 ^ 4 < 2 ^ 64 := by
      have b : ∀ y, c2 (y % 256) ≤ 68 := fun y => by have := f5 (y % 256) (Nat.mod_lt _ (by omega)); omega
      have l7 := fun y => mp_lt (f := c2) (fun c hc => by have := f5 c hc; omega) 7 y
      have e1 : mpB c2 8 x = c2 (x % 256) + 256 * (c2 (x / 256 % 256) + 256 * (c2 (x / 256 / 256 % 256) + 256 * (c2 (x / 256 / 256 / 256 % 256) + 256 * (c2 (x / 256 / 256 / 256 / 256 % 256) + 256 * (c2 (x / 256 / 256 / 256 / 256 / 256 % 256) + 256 * (c2 (x / 256 / 256 / 256 / 256 / 256 / 256 % 256) + 256 * (c2 (x / 256 / 256 / 256 / 256 / 256 / 256 / 256 % 256) + 256 * 0))))))) := rfl
      have a0 := b x
      have a1 := b (x / 256)
      have a2 := b (x / 256 / 256)
      have a3 := b (x / 256 / 256 / 256)
      have a4 := b (x / 256 / 256 / 256 / 256)
      have a5 := b (x / 256 / 256 / 256 / 256 / 256)
      have a6 := b (x / 256 / 256 / 256 / 256 / 256 / 256)
      have a7 := b (x / 256 / 256 / 256 / 256 / 256 / 256 / 256)
      clear s l1 h1
      omega
    rw [show ((4 : Int32).toInt64.toUInt64 &&& Int64.toUInt64 63) = ((iI (4 : Nat)).toInt64.toUInt64 &&& Int64.toUInt64 63) from rfl, s, lNad, show (1085102592571150095 : Int64) = lI ((1085102592571150095 : Nat) : Int) from rfl, lN_and l2' (by omega), ← kf, show 2 ^ 4 = 16 from rfl, sb3]
  rw [b_10_0, e1, e2, e3]
  have s8 := @lN_sh (mpB c3 8 x) 8 (by omega) (by omega)
  rw [show ((8 : Int32).toInt64.toUInt64 &&& Int64.toUInt64 63) = ((iI (8 : Nat)).toInt64.toUInt64 &&& Int64.toUInt64 63) from rfl, s8, lNad, show 2 ^ 8 = 256 from rfl]
  have s16 := @lN_sh (mpB c3 8 x + mpB c3 8 x / 256) 16 (by omega) (by omega)
  rw [show ((16 : Int32).toInt64.toUInt64 &&& Int64.toUInt64 63) = ((iI (16 : Nat)).toInt64.toUInt64 &&& Int64.toUInt64 63) from rfl, s16, lNad, show 2 ^ 16 = 65536 from rfl]
  have s32 := @lN_sh (mpB c3 8 x + mpB c3 8 x / 256 + (mpB c3 8 x + mpB c3 8 x / 256) / 65536) 32 (by omega) (by omega)
  rw [show ((32 : Int32).toInt64.toUInt64 &&& Int64.toUInt64 63) = ((iI (32 : Nat)).toInt64.toUInt64 &&& Int64.toUInt64 63) from rfl, s32, lNad, show 2 ^ 32 = 4294967296 from rfl, lI_int, i127, sb4]
theorem g_10 (x : Nat) (hx : x < 2 ^ 64) {d N : Nat} {xs : Nat → Int32} {tb_ : List zz_B} {t_ : Nat} {ls_ : zz_L} {rest_ : List Value} (hd_ : 1 ≤ d) : (zz_o (zz_call_ d 10 [.long (lI x)] (zm N xs M L)) fun r => zz_X (zz_call_ d) tb_ t_ ls_ (r.1.toList ++ rest_) r.2) = zz_X (zz_call_ d) tb_ t_ ls_ ((.int (iI (cZ (fun k => x.testBit k = true) 64))) :: rest_) (zm N xs M L) := (s_10 M L x hx).go hd_
end ZR
theorem bc6 : ∀ x : Nat, x < 64 → ∀ (C : zz_C) (N : Nat) (xs : Nat → Int32) (M : Nat → Nat → Int32) (L : Nat → Nat → Int64), zz_X C tb_9 0 [some (.int (iI x))] [] (zm N xs M L) = some (some (.int (iI (cZ (fun k => x.testBit k = true) 6))), zm N xs M L) := by
  intro x hx C N xs M L
  rw [b_9_0]
  refine congrArg (fun v => some (some (Value.int v), zm N xs M L)) ?_
  clear C N xs M L
  revert x
  decide +kernel
section ZR
variable (M : Nat → Nat → Int32) (L : Nat → Nat → Int64)
theorem s_9 (x : Nat) (hx : x < 64) : zc 1 9 [.int (iI x)] M L (some (.int (iI (cZ (fun k => x.testBit k = true) 6)))) M L := by
  refine zc_of (n := 0) (ls := [some (.int (iI x))]) mk_9 rfl rfl rfl rfl (fun d hd N xs => ?_)
  exact bc6 x hx _ N xs M L
theorem g_9 (x : Nat) (hx : x < 64) {d N : Nat} {xs : Nat → Int32} {tb_ : List zz_B} {t_ : Nat} {ls_ : zz_L} {rest_ : List Value} (hd_ : 1 ≤ d) : (zz_o (zz_call_ d 9 [.int (iI x)] (zm N xs M L)) fun r => zz_X (zz_call_ d) tb_ t_ ls_ (r.1.toList ++ rest_) r.2) = zz_X (zz_call_ d) tb_ t_ ls_ ((.int (iI (cZ (fun k => x.testBit k = true) 6))) :: rest_) (zm N xs M L) := (s_9 M L x hx).go hd_
end ZR

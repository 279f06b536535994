/-! apart: both alike. -/
def sR (n x r : Nat) (M : Nat → Nat → Int32) (c : Nat) : Nat → Nat → Int32 := fun e k => if e = 55 ∧ 40 * r + c ≤ k ∧ k < 40 * r + n then iI ((dg n x (k - 40 * r) : Int) - 2) else M e k
theorem sR_s {n x r c : Nat} {M : Nat → Nat → Int32} (h : c < n) : zz_wI (sR n x r M (c + 1)) 55 (40 * r + c) (iI ((dg n x c : Int) - 2)) = sR n x r M c := by
  funext e k
  rw [w_val]
  unfold sR
  by_cases q : e = 55 ∧ k = 40 * r + c
  · rw [if_pos q, if_pos ⟨q.1, by omega, by omega⟩, q.2, show 40 * r + c - 40 * r = c by omega]
  · rw [if_neg q]
    by_cases q2 : e = 55 ∧ 40 * r + (c + 1) ≤ k ∧ k < 40 * r + n
    · rw [if_pos q2, if_pos ⟨q2.1, by omega, q2.2.2⟩]
    · rw [if_neg q2, if_neg (by omega)]
theorem sR_n {n x r : Nat} {M : Nat → Nat → Int32} : sR n x r M n = M := by
  funext e k
  unfold sR
  rw [if_neg (by omega)]
theorem sR_ne {n x r c e : Nat} {M : Nat → Nat → Int32} (h : e ≠ 55) : sR n x r M c e = M e := by
  funext k
  unfold sR
  rw [if_neg (fun a => h a.1)]
section ZL
variable (L : Nat → Nat → Int64) {V : Vw}
theorem l_227b (hk : Vk V) (x r : Nat) (hr6 : r < 6) (hx : x < 1000000) (n w : Int32) (M : Nat → Nat → Int32) {d : Nat} (N : Nat) (xs : Nat → Int32) : ∀ c : Nat, c ≤ V.n → zz_X (zz_call_ d) tb_227 16 [some (.ref 52), some (.int n), some (.int (iI r)), some (.int w), some (.int (iI ((x / 5 ^ (V.n - c) : Nat) : Int))), some (.int (iI ((c : Int) - 1)))] [] (zm N xs (sR V.n x r M c) L) = some (some (.int w), zm N xs (sR V.n x r M 0) L)
  | 0, hc => by
    rw [b_227_16, if_pos (by decide), b_227_17]
  | c + 1, hc => by
    have hn := hk.n
    have hle : x / 5 ^ (V.n - (c + 1)) ≤ x := Nat.div_le_self _ _
    have e1 : x / 5 ^ (V.n - (c + 1)) % 5 = dg V.n x c := by unfold dg; rw [show V.n - (c + 1) = V.n - 1 - c by omega]
    have e2 : x / 5 ^ (V.n - (c + 1)) / 5 = x / 5 ^ (V.n - c) := by rw [Nat.div_div_eq_div_mul, show V.n - c = (V.n - (c + 1)) + 1 by omega, Nat.pow_succ]
    have ih := l_227b hk x r hr6 hx n w M (d := d) N xs c (by omega)
    generalize hw : x / 5 ^ (V.n - (c + 1)) = u at hle e1 e2 ⊢
    rw [show ((c + 1 : Nat) : Int) - 1 = (c : Int) by omega, b_227_16, if_neg (by rw [t_lt, show (0 : Int32).toInt = 0 from rfl, iI_to (by omega) (by omega)]; omega), show (40 : Int32) = iI 40 from rfl, show (5 : Int32) = iI 5 from rfl, show (2 : Int32) = iI 2 from rfl, iI_mul, iI_add, show (40 : Int) * (r : Int) + (c : Int) = ((40 * r + c : Nat) : Int) by omega, ix_nat (by omega) (by omega), o_some, iI_rem (by omega) (by omega) (by omega) (by omega), iI_div (by omega) (by omega) (by omega) (by omega), show (u : Int).tmod 5 = ((u % 5 : Nat) : Int) from rfl, show (u : Int).tdiv 5 = ((u / 5 : Nat) : Int) from rfl, e1, e2, iI_sub, sR_s (by omega), show (-1 : Int32) = iI (-1) from rfl, iI_add]
    exact ih
end ZL
theorem o_apart {M : Nat → Nat → Int32} {L : Nat → Nat → Int64} (x y : Int32) (hI : Inv M L) : Ok 121 227 [.int x, .int y] M L := by
  obtain ⟨z, h1, h2, rfl⟩ := iI_of x
  obtain ⟨w, h3, h4, rfl⟩ := iI_of y
  obtain ⟨V, hk, hv, hr⟩ := hI.view
  have hn6 := hk.n
  by_cases q : (0 ≤ z ∧ z ≤ 7) ∧ 0 ≤ w ∧ w < 6
  · by_cases q0 : V.n = 0
    · exact Ok.same hI (s_121Z M L z w q (by rw [hv.n, q0]; rfl)) (s_227Z M L z w q (by rw [show M 53 0 = iI V.n from hr.n, q0]; rfl)) (by omega) (by omega)
    · obtain ⟨n, rfl⟩ : ∃ y : Nat, z = y := ⟨z.toNat, by omega⟩
      obtain ⟨r, rfl⟩ : ∃ y : Nat, w = y := ⟨w.toNat, by omega⟩
      have hr6 : r < 6 := by omega
      obtain ⟨M1, L1, r1, r2, r3, r4⟩ := x_72 L hk hv n (by omega)
      obtain ⟨M2, u1, u2, u3, u4⟩ := x_80 L1 hk (n + 1) 0 (by omega) r3
      generalize ho : fo (feK V (n + 1)) (coK V 0) (5 ^ V.n) 0 none = o at *
      have e12 : ∀ c, (c < 38 ∨ 44 < c) → M2 c = M c := fun c hc => by rw [u1.col c (fun k => ⟨by omega, by omega, Or.inl (by omega)⟩)]; exact r1.col c (fun k => hc)
      have hv2 : Hv V M2 := hv.c2 (fun c c1 c2 => e12 c (by omega))
      have hhead : ∀ d, 13 ≤ d → ∀ N xs, zz_X (zz_call_ d) tb_121 0 [some (.ref 0), some (.int (iI n)), some (.int (iI r)), none] [] (zm N xs M L) = zz_X (zz_call_ d) tb_121 6 [some (.ref 0), some (.int (iI n)), some (.int (iI r)), none] [.int (b2 (o ≠ none))] (zm N xs M2 L1) := by
        intro d hd N xs
        rw [b_121_0, if_neg (by rw [t_lt, show (0 : Int32).toInt = 0 from rfl, iI_to (by omega) (by omega)]; omega), if_neg (by rw [t_lt, show (7 : Int32).toInt = 7 from rfl, iI_to (by omega) (by omega)]; omega), g_11a M L r (by omega) (by omega) (by omega), b2_t (by omega), b_121_1, if_neg (show ¬ iI 1 = (0 : Int32) from iI10), b_121_3, hv.n, if_neg (by rw [t_eq, show (0 : Int32).toInt = 0 from rfl, iI_to (by omega) (by omega)]; omega), b_121_4, r4.gov (by omega), b_121_5]
        exact u4.go (by omega)
      have rhead : ∀ (MX : Nat → Nat → Int32), Rv V (MX 53) 0 → ∃ M', eqs MX M' p63 ∧ False ∨ ∃ M', eqs MX M' pA ∧ M' 9 = MX 9 ∧ (∀ e, e ≠ 63 → e ≠ 64 → e ≠ 52 → M' e = MX e) ∧ Rv V (M' 53) 0 ∧ ∀ d, 6 ≤ d → ∀ N xs, zz_X (zz_call_ d) tb_227 0 [some (.ref 52), some (.int (iI n)), some (.int (iI r)), none, none, none] [] (zm N xs MX L1) = zz_X (zz_call_ d) tb_227 13 [some (.ref 52), some (.int (iI n)), some (.int (iI r)), some (.int (iI (le0 V o))), some (.int (iI (bst o))), some (.int (iI ((5 ^ V.n : Nat) : Int)))] [] (zm N xs M' L1) := by
        intro MX hrx
        have e0 : MX 53 0 = iI V.n := hrx.n
        obtain ⟨M3, v1, v2, v3⟩ := x_224 L1 MX hk hrx n (by omega)
        have hr3 : Rv V (M3 53) 0 := by rw [p63_53 v1]; exact hrx
        obtain ⟨M4, w1, w2⟩ := l_227 L1 hk (n + 1) (iI n) (iI r) (5 ^ V.n) 0 none M3 (by omega) hr3 v2
        rw [ho] at w2
        have ee : ∀ e, e ≠ 63 → e ≠ 64 → e ≠ 52 → M4 e = MX e := fun e e1 e2 e3 => by rw [w1.col e (fun k => ⟨e2, Or.inl e3⟩)]; exact v1.col e (fun k => ⟨e1, Or.inl e3⟩)
        refine ⟨M4, Or.inr ⟨M4, (p63_A v1).tr (p64_A w1), ee 9 (by omega) (by omega) (by omega), ee, by rw [p64_53 w1]; exact hr3, fun d hd N xs => ?_⟩⟩
        rw [b_227_0, iI_long (by omega) (by omega), lI_lit, lI_lit, g_157 _ L1 n 0 7 (by omega) (by omega) (by omega) (by omega) (by omega) (by omega) (by omega), b2_t (by omega), b_227_1, if_neg (show ¬ iI 1 = (0 : Int32) from iI10), g_164 MX L1 r (by omega) (by omega) (by omega), b2_t (by omega), b_227_2, if_neg (show ¬ iI 1 = (0 : Int32) from iI10), b_227_4, e0, if_neg (by rw [t_eq, show (0 : Int32).toInt = 0 from rfl, iI_to (by omega) (by omega)]; omega), b_227_5, v3.gov (by omega), b_227_6]
        exact w2 d (by omega) N xs
      cases o with
      | none =>
        obtain ⟨_, hh⟩ := rhead M2 (by rw [e12 53 (by omega)]; exact hr)
        obtain ⟨M4, a1, a0, aa, a2, a3⟩ := hh.resolve_left (fun e => e.2)
        refine ⟨.int (iI (-9)), M2, L1, M4, L1, zc.mono (n := 14) (zc_of (n := 13) (ls := [some (.ref 0), some (.int (iI n)), some (.int (iI r)), none]) mk_121 rfl rfl rfl rfl (fun d hd N xs => ?_)) (by omega), zc.mono (n := 7) (zc_of (n := 6) (ls := [some (.ref 52), some (.int (iI n)), some (.int (iI r)), none, none, none]) mk_227 rfl rfl rfl rfl (fun d hd N xs => ?_)) (by omega), hI.cg ((p39_A r1).tr ((p80_A u1).tr a1)) r2⟩
        · rw [hhead d hd N xs, b2_f (fun e => e rfl), b_121_6, if_pos (show iI 0 = (0 : Int32) from rfl)]
          rfl
        · rw [a3 d hd N xs, b_227_13, if_pos (show iI ((le0 V none : Nat) : Int) = (1000000 : Int32) from rfl)]
          rfl
      | some k =>
        have hco := cs_lt hk (f := 0) (by omega) (dg V.n k) hn6
        have hco' : coK V 0 k < 10000 := hco
        have hk5 : k < 1000000 := by
          have h5 : (5 : Nat) ^ V.n ≤ 5 ^ 6 := Nat.pow_le_pow_right (by omega) hn6
          have hlt : ∀ (c a : Nat) (o : Option Nat), (∀ x, o = some x → x < 1000000) → a + c ≤ 15625 → ∀ x, fo (feK V (n + 1)) (coK V 0) c a o = some x → x < 1000000 := by
            intro c
            induction c with
            | zero => intro a o h _ x hx; exact h x hx
            | succ c ih =>
              intro a o h hac x hx
              refine ih (a + 1) (stO (feK V (n + 1)) (coK V 0) o a) (fun y hy => ?_) (by omega) x hx
              unfold stO at hy
              by_cases e : feK V (n + 1) a ∧ coK V 0 a < bc (coK V 0) o
              · rw [if_pos e] at hy; cases hy; omega
              · rw [if_neg e] at hy; exact h y hy
          exact hlt (5 ^ V.n) 0 none (fun x hx => by cases hx) (by omega) k ho
        have h8 : M2 38 8 = iI ((coK V 0 k : Nat) : Int) := u2
        have h44 := u3 k rfl
        have g18 := s_18a M2 L1 r (iI 0) V.n (by omega) (by omega) (by omega)
        rw [Int.toNat_natCast] at g18
        -- the component's row
        have hX : ∀ c, c ≠ 9 → c ≠ 3 + r → zfl (zz_wI M2 9 r (iI V.n)) (3 + r) V.n (iI 0) c = M2 c := fun c c1 c2 => by rw [f_ne c2, w_ne c1]
        have hX9 : zfl (zz_wI M2 9 r (iI V.n)) (3 + r) V.n (iI 0) 9 = upd (M2 9) r (iI V.n) := by rw [f_ne (by omega)]; exact rr_at
        generalize hM3 : zfl (zz_wI M2 9 r (iI V.n)) (3 + r) V.n (iI 0) = M3 at *
        have hX9r : M3 9 r = iI V.n := by rw [hX9]; exact if_pos rfl
        have hsX : ∀ i c, c ≠ 3 + r → sI M3 (3 + r) (fun j => iI ((dg V.n k j : Int) - 2)) i c = M3 c := fun i c hc => sI_ne hc
        have hc1 : zc 14 121 [.ref 0, .int (iI n), .int (iI r)] M L (some (.int (iI ((coK V 0 k : Nat) : Int)))) (sI M3 (3 + r) (fun j => iI ((dg V.n k j : Int) - 2)) V.n) L1 := by
          refine zc_of (n := 13) (ls := [some (.ref 0), some (.int (iI n)), some (.int (iI r)), none]) mk_121 rfl rfl rfl rfl (fun d hd N xs => ?_)
          rw [hhead d hd N xs, b2_t (fun e => by cases e), b_121_6, if_neg (show ¬ iI 1 = (0 : Int32) from iI10), b_121_7, hv2.n, show (0 : Int32) = iI 0 from rfl, g18.gov (by omega), b_121_8]
          have hl := upto (fun i : Nat => zz_X (zz_call_ d) tb_121 9 [some (.ref 0), some (.int (iI n)), some (.int (iI r)), some (.int (iI i))] [] (zm N xs (sI M3 (3 + r) (fun j => iI ((dg V.n k j : Int) - 2)) i) L1)) V.n (fun i hi => by
            show zz_X (zz_call_ d) tb_121 9 _ _ _ = zz_X (zz_call_ d) tb_121 9 _ _ _
            have c84 : zc 1 84 [.ref 38, .int (iI i)] (sI M3 (3 + r) (fun j => iI ((dg V.n k j : Int) - 2)) i) L1 (some (.int (iI ((dg V.n k i : Int) - 2)))) (sI M3 (3 + r) (fun j => iI ((dg V.n k j : Int) - 2)) i) L1 := zc_of (n := 0) (ls := [some (.ref 38), some (.int (iI i))]) mk_84 rfl rfl rfl rfl (fun d hd N xs => by
              rw [b_84_0, if_neg (by rw [t_lt, show (0 : Int32).toInt = 0 from rfl, iI_to (by omega) (by omega)]; omega), if_neg (by rw [t_le, show (6 : Int32).toInt = 6 from rfl, iI_to (by omega) (by omega)]; omega), ix_nat (by omega) (by omega), o_some, hsX i 44 (by omega), hX 44 (by omega) (by omega), h44 i hi, b_84_2])
            have e9 : (sI M3 (3 + r) (fun j => iI ((dg V.n k j : Int) - 2)) i 9 ((r : Int)).toNat).toInt = (V.n : Int) := by rw [Int.toNat_natCast, hsX i 9 (by omega), hX9r, iI_to (by omega) (by omega)]
            have g17 := s_17a (sI M3 (3 + r) (fun j => iI ((dg V.n k j : Int) - 2)) i) L1 r i (iI ((dg V.n k i : Int) - 2)) (by omega) (by omega) (by omega) (by rw [e9]; omega) (by rw [e9]; omega)
            rw [Int.toNat_natCast, Int.toNat_natCast] at g17
            rw [b_121_9, hsX i 23 (by omega), hX 23 (by omega) (by omega), hv2.n, if_neg (by rw [t_le, iI_to (by omega) (by omega), iI_to (by omega) (by omega)]; omega), c84.go (by omega), b_121_10, g17.go (by omega), b_121_11, sI_s M3 (3 + r) (fun j => iI ((dg V.n k j : Int) - 2)) i, show (1 : Int32) = iI 1 from rfl, iI_add]
            rfl)
          simp only [sI_0] at hl
          refine Eq.trans hl ?_
          have c85 : zc 1 85 [.ref 38] (sI M3 (3 + r) (fun j => iI ((dg V.n k j : Int) - 2)) V.n) L1 (some (.int (iI ((coK V 0 k : Nat) : Int)))) (sI M3 (3 + r) (fun j => iI ((dg V.n k j : Int) - 2)) V.n) L1 := zc_of (n := 0) (ls := [some (.ref 38)]) mk_85 rfl rfl rfl rfl (fun d hd N xs => by rw [b_85_0, hsX V.n 38 (by omega), hX 38 (by omega) (by omega), h8])
          rw [b_121_9, hsX V.n 23 (by omega), hX 23 (by omega) (by omega), hv2.n, if_pos (by rw [t_le]; omega), b_121_12, c85.go (by omega), b_121_13]
        generalize hMX : sI M3 (3 + r) (fun j => iI ((dg V.n k j : Int) - 2)) V.n = MX at *
        have xne : ∀ c, (c < 38 ∨ 44 < c) → c ≠ 9 → c ≠ 3 + r → MX c = M c := fun c c0 c1 c2 => by rw [← hMX, hsX V.n c c2, hX c c1 c2, e12 c c0]
        have x9 : MX 9 = upd (M 9) r (iI V.n) := by rw [← hMX, hsX V.n 9 (by omega), hX9, e12 9 (by omega)]
        have xr : ∀ i, i < V.n → MX (3 + r) i = iI ((dg V.n k i : Int) - 2) := fun i hi => by rw [← hMX, sI_in hi]
        obtain ⟨_, hh⟩ := rhead MX (by rw [xne 53 (by omega) (by omega) (by omega)]; exact hr)
        obtain ⟨M4, a1, a0, aa, a2, a3⟩ := hh.resolve_left (fun e => e.2)
        have g166 := s_166 M4 L1 r (iI V.n) (by omega) (by omega)
        rw [Int.toNat_natCast] at g166
        have hc2 : zc 7 227 [.ref 52, .int (iI n), .int (iI r)] MX L1 (some (.int (iI ((coK V 0 k : Nat) : Int)))) (sR V.n k r (zfr (zz_wI M4 56 r (iI V.n)) 55 (40 * r) 40 (iI 0)) 0) L1 := by
          refine zc_of (n := 6) (ls := [some (.ref 52), some (.int (iI n)), some (.int (iI r)), none, none, none]) mk_227 rfl rfl rfl rfl (fun d hd N xs => ?_)
          have e0 : M4 53 0 = iI V.n := a2.n
          have e0' : zfr (zz_wI M4 56 r (iI V.n)) 55 (40 * r) 40 (iI 0) 53 0 = iI V.n := by rw [r_ne (by omega), w_ne (by omega)]; exact e0
          have hl := l_227b L1 hk k r hr6 hk5 (iI n) (iI ((le0 V (some k) : Nat) : Int)) (zfr (zz_wI M4 56 r (iI V.n)) 55 (40 * r) 40 (iI 0)) (d := d) N xs V.n (Nat.le_refl _)
          rw [sR_n, Nat.sub_self, Nat.pow_zero, Nat.div_one] at hl
          have hle : le0 V (some k) = coK V 0 k := rfl
          rw [a3 d hd N xs, b_227_13, if_neg (by rw [t_eq, show (1000000 : Int32).toInt = 1000000 from rfl, iI_to (by omega) (by omega)]; omega), b_227_14, e0, g166.gov (by omega), b_227_15, e0', show (1 : Int32) = iI 1 from rfl, iI_sub]
          exact hl
        refine ⟨_, _, _, _, _, hc1.mono (by omega), hc2.mono (by omega), ?_⟩
        have fne : ∀ c, c ≠ 55 → c ≠ 56 → sR V.n k r (zfr (zz_wI M4 56 r (iI V.n)) 55 (40 * r) 40 (iI 0)) 0 c = M4 c := fun c c1 c2 => by rw [sR_ne c1, r_ne c1, w_ne c2]
        have big : ∀ p : Nat → Nat → Prop, (∀ c k, p c k → pA c k ∧ c ≠ 55 ∧ c ≠ 56 ∧ c ≠ 9 ∧ c ≠ 3 + r) → eqs M (sR V.n k r (zfr (zz_wI M4 56 r (iI V.n)) 55 (40 * r) 40 (iI 0)) 0) p := fun p hp c j hpc => by
          obtain ⟨b1, b2, b3, b4, b5⟩ := hp c j hpc
          rw [fne c b2 b3, a1 c j b1, xne c (by unfold pA pR pT pD pF pH at b1; omega) b4 b5]
        refine ⟨?_, hI.2.1.cg (big pT (fun c k h => ⟨Or.inr (Or.inl h), by unfold pT at h; omega⟩)), hI.2.2.1.cg (big pD (fun c k h => ⟨Or.inr (Or.inr (Or.inl h)), by unfold pD at h; omega⟩)), hI.2.2.2.1.cg (big pF (fun c k h => ⟨Or.inr (Or.inr (Or.inr (Or.inl h))), by unfold pF at h; omega⟩)), hI.2.2.2.2.1.cg (big pH (fun c k h => ⟨Or.inr (Or.inr (Or.inr (Or.inr h))), by unfold pH at h; omega⟩)), hI.2.2.2.2.2.cg r2⟩
        intro ρ hρ
        obtain ⟨b1, b2, b3, b4⟩ := hI.1 ρ hρ
        have m9 : sR V.n k r (zfr (zz_wI M4 56 r (iI V.n)) 55 (40 * r) 40 (iI 0)) 0 9 ρ = upd (M 9) r (iI V.n) ρ := by rw [fne 9 (by omega) (by omega), a0, x9]
        have m56 : sR V.n k r (zfr (zz_wI M4 56 r (iI V.n)) 55 (40 * r) 40 (iI 0)) 0 56 ρ = upd (M 56) r (iI V.n) ρ := by
          rw [sR_ne (by omega), r_ne (by omega), w_val]
          unfold upd
          by_cases e : ρ = r
          · rw [if_pos ⟨rfl, e⟩, if_pos e]
          · rw [if_neg (fun a => e a.2), if_neg e, aa 56 (by omega) (by omega) (by omega), xne 56 (by omega) (by omega) (by omega)]
        rw [m9, m56]
        unfold upd
        by_cases e : ρ = r
        · subst e
          rw [if_pos rfl, if_pos rfl, iI_to (by omega) (by omega)]
          refine ⟨rfl, by omega, by omega, fun i hi => ?_⟩
          have hi' : i < V.n := by omega
          rw [fne (3 + ρ) (by omega) (by omega), aa (3 + ρ) (by omega) (by omega) (by omega), xr i hi']
          unfold sR
          rw [if_pos ⟨rfl, by omega, by omega⟩, show 40 * ρ + i - 40 * ρ = i by omega]
        · rw [if_neg e, if_neg e]
          refine ⟨b1, b2, b3, fun i hi => ?_⟩
          have hi40 : i < 40 := by omega
          rw [fne (3 + ρ) (by omega) (by omega), aa (3 + ρ) (by omega) (by omega) (by omega), xne (3 + ρ) (by omega) (by omega) (by omega)]
          unfold sR
          rw [if_neg (by omega), fr_val, if_neg (by omega), w_ne (by omega), aa 55 (by omega) (by omega) (by omega), xne 55 (by omega) (by omega) (by omega)]
          exact b4 i hi
  · exact Ok.same hI (s_121B M L z w h1 h2 h3 h4 q) (s_227B M L z w h1 h2 h3 h4 q) (by omega) (by omega)

/-! Keeper: the search. -/
def pS (i c k : Nat) : Prop := c ≠ 44 ∧ (c ≠ 43 ∨ k < i) ∧ (c ≠ 38 ∨ k ≠ 8)
theorem pS_K {V : Vw} {N i : Nat} {M M' : Nat → Nat → Int32} (h : Kp V N M) (e : eqs M M' (pS i)) : Kp V N M' := by
  obtain ⟨h1, h2, h3⟩ := h
  exact ⟨by rw [e 38 6 ⟨by omega, by omega, by omega⟩]; exact h1, fun x hx => by rw [e 42 x ⟨by omega, by omega, by omega⟩]; exact h2 x hx, fun i hi => by rw [e 40 i ⟨by omega, by omega, by omega⟩]; exact h3 i hi⟩
theorem rng {k m x : Nat} (h1 : k * m ≤ x) (h2 : x < k * m + m) : x / m = k := Nat.div_eq_of_lt_le h1 (by rw [Nat.succ_mul]; exact h2)
theorem cd_cg {t u : Nat → Nat} : ∀ {i : Nat}, (∀ j, j < i → t j = u j) → cd t i = cd u i
  | 0, _ => rfl
  | i + 1, h => by
    show cd t i * 5 + t i = cd u i * 5 + u i
    rw [cd_cg (fun j hj => h j (by omega)), h i (by omega)]
theorem bc_le {V : Vw} (hk : Vk V) {f : Nat} (hf : f < 2) (o : Option Nat) : bc (coK V f) o ≤ 1073741824 := by
  cases o with
  | none => exact Nat.le_refl _
  | some k =>
    have := cs_lt hk hf (dg V.n k) hk.n
    show cs V f (dg V.n k) V.n ≤ _
    omega
/-- what the search holds -/
def Sx (V : Vw) (N f : Nat) (t : Nat → Nat) (i : Nat) (o : Option Nat) (M : Nat → Nat → Int32) : Prop := Kp V N M ∧ M 38 7 = iI f ∧ M 38 8 = iI (bc (coK V f) o) ∧ (∀ j, j < i → M 43 j = iI ((t j : Int) - 2)) ∧ ∀ k, o = some k → ∀ j, j < V.n → M 44 j = iI ((dg V.n k j : Int) - 2)
theorem Sx.nx {V : Vw} {N f i : Nat} {t : Nat → Nat} {o o' : Option Nat} {M M' : Nat → Nat → Int32} (h : Sx V N f t i o M) (e : eqs M M' (pS i)) (h8 : M' 38 8 = iI (bc (coK V f) o')) (h44 : ∀ k, o' = some k → ∀ j, j < V.n → M' 44 j = iI ((dg V.n k j : Int) - 2)) : Sx V N f t i o' M' :=
  ⟨pS_K h.1 e, by rw [e 38 7 ⟨by omega, by omega, by omega⟩]; exact h.2.1, h8, fun j hj => by rw [e 43 j ⟨by omega, by omega, by omega⟩]; exact h.2.2.2.1 j hj, h44⟩
section ZL
variable {V : Vw} (L : Nat → Nat → Int64)
theorem x_81 (hk : Vk V) (N9 f : Nat) (hf : f < 2) : ∀ (c i : Nat) (t : Nat → Nat) (o : Option Nat) (M : Nat → Nat → Int32), i + c = V.n → (∀ j, t j < 5) → Sx V N9 f t i o M → (∀ a b, a < b → b < i → ¬ clq V a b ((t b : Int) - (t a : Int)) N9) → ∃ M', eqs M M' (pS i) ∧ M' 38 8 = iI (bc (coK V f) (fo (feK V N9) (coK V f) (5 ^ c) (cd t i * 5 ^ c) o)) ∧ (∀ k, fo (feK V N9) (coK V f) (5 ^ c) (cd t i * 5 ^ c) o = some k → ∀ j, j < V.n → M' 44 j = iI ((dg V.n k j : Int) - 2)) ∧ zc (c + 4) 81 [.ref 38, .int (iI i), .int (iI (cs V f t i))] M L none M' L := by
  intro c
  induction c with
  | zero =>
    intro i t o M hn ht hx hp
    have h6 := hk.n
    have hcl := cs_lt hk hf t (i := i) (by omega)
    have hbl := bc_le hk hf o
    obtain ⟨x1, x2, x3, x4, x5⟩ := hx
    have edg : ∀ j, j < V.n → dg V.n (cd t i * 5 ^ 0) j = t j := fun j hj => dg_pre (c := 0) (i := i) ht (by omega) (by omega) (by rw [Nat.pow_zero, Nat.mul_one, Nat.div_one])
    have ecs : coK V f (cd t i * 5 ^ 0) = cs V f t i := by
      show cs V f (dg V.n (cd t i * 5 ^ 0)) V.n = _
      rw [show i = V.n by omega] at edg ⊢
      exact cs_cg V f edg
    have efe : feK V N9 (cd t i * 5 ^ 0) := bd_ok (fun a b h1 h2 => by rw [edg a (by omega), edg b h2]; exact hp a b h1 (by omega))
    have efo : fo (feK V N9) (coK V f) (5 ^ 0) (cd t i * 5 ^ 0) o = stO (feK V N9) (coK V f) o (cd t i * 5 ^ 0) := rfl
    rw [efo]
    by_cases q : cs V f t i < bc (coK V f) o
    · have es : stO (feK V N9) (coK V f) o (cd t i * 5 ^ 0) = some (cd t i * 5 ^ 0) := if_pos ⟨efe, by rw [ecs]; exact q⟩
      rw [es]
      refine ⟨sI (zz_wI M 38 8 (iI (cs V f t i))) 44 (M 43) 6, (eqs.rf.w (by unfold pS; omega)).r (by unfold pS; omega), ?_, ?_, ?_⟩
      · rw [sI_ne (by omega), w_at]
        show _ = iI ((coK V f (cd t i * 5 ^ 0) : Nat) : Int)
        rw [ecs]
      · intro k hk2 j hj
        cases hk2
        rw [sI_in (by omega), edg j hj]
        exact x4 j (by omega)
      · refine zc_of (n := 3) (ls := [some (.ref 38), some (.int (iI i)), some (.int (iI (cs V f t i))), none]) mk_81 rfl rfl rfl rfl (fun d hd N xs => ?_)
        rw [b_81_0, x3, if_pos (by rw [t_lt, iI_to (by omega) (by omega), iI_to (by omega) (by omega)]; omega), b_81_1, x1.1, if_pos (by rw [t_le, iI_to (by omega) (by omega), iI_to (by omega) (by omega)]; omega), b_81_2]
        have hl := upto (fun k : Nat => zz_X (zz_call_ d) tb_81 3 [some (.ref 38), some (.int (iI i)), some (.int (iI (cs V f t i))), some (.int (iI k))] [] (zm N xs (sI (zz_wI M 38 8 (iI (cs V f t i))) 44 (M 43) k) L)) 6 (fun k hk6 => by
          show zz_X (zz_call_ d) tb_81 3 _ _ _ = zz_X (zz_call_ d) tb_81 3 _ _ _
          rw [b_81_3, if_neg (by rw [t_le, show (6 : Int32).toInt = 6 from rfl, iI_to (by omega) (by omega)]; omega), ix_nat (by omega) (by omega), o_some, o_some, sI_ne (by omega : (43 : Nat) ≠ 44), w_ne (by omega : (43 : Nat) ≠ 38), sI_s, show (1 : Int32) = iI 1 from rfl, iI_add]
          rfl)
        simp only [sI_0] at hl
        refine Eq.trans hl ?_
        rw [b_81_3, if_pos (by rw [t_le, show (6 : Int32).toInt = 6 from rfl, iI_to (by omega) (by omega)]; omega), b_81_4]
    · have es : stO (feK V N9) (coK V f) o (cd t i * 5 ^ 0) = o := if_neg (fun e => q (by rw [← ecs]; exact e.2))
      rw [es]
      refine ⟨M, eqs.rf, x3, x5, zc_of (n := 3) (ls := [some (.ref 38), some (.int (iI i)), some (.int (iI (cs V f t i))), none]) mk_81 rfl rfl rfl rfl (fun d hd N xs => ?_)⟩
      rw [b_81_0, x3, if_neg (by rw [t_lt, iI_to (by omega) (by omega), iI_to (by omega) (by omega)]; omega)]
  | succ c IH =>
    intro i t o M hn ht hx hp
    have h6 := hk.n
    have hcl := cs_lt hk hf t (i := i) (by omega)
    have hbl := bc_le hk hf o
    by_cases q : cs V f t i < bc (coK V f) o
    · have loop : ∀ (e b : Nat) (o : Option Nat) (M : Nat → Nat → Int32), b + e = 5 → Sx V N9 f t i o M → ∃ M', eqs M M' (pS i) ∧ M' 38 8 = iI (bc (coK V f) (fo (feK V N9) (coK V f) (e * 5 ^ c) ((cd t i * 5 + b) * 5 ^ c) o)) ∧ (∀ k, fo (feK V N9) (coK V f) (e * 5 ^ c) ((cd t i * 5 + b) * 5 ^ c) o = some k → ∀ j, j < V.n → M' 44 j = iI ((dg V.n k j : Int) - 2)) ∧ ∀ d, c + 4 ≤ d → ∀ N xs, zz_X (zz_call_ d) tb_81 6 [some (.ref 38), some (.int (iI i)), some (.int (iI (cs V f t i))), some (.int (iI ((b : Int) - 2)))] [] (zm N xs M L) = some (none, zm N xs M' L) := by
        intro e
        induction e with
        | zero =>
          intro b o M hb hx
          rw [Nat.zero_mul]
          refine ⟨M, eqs.rf, hx.2.2.1, hx.2.2.2.2, fun d hd N xs => ?_⟩
          rw [b_81_6, if_pos (by rw [t_lt, show (2 : Int32).toInt = 2 from rfl, iI_to (by omega) (by omega)]; omega), b_81_11]
        | succ e ihe =>
          intro b o M hb hx
          have hbl := bc_le hk hf o
          have efo : fo (feK V N9) (coK V f) ((e + 1) * 5 ^ c) ((cd t i * 5 + b) * 5 ^ c) o = fo (feK V N9) (coK V f) (e * 5 ^ c) ((cd t i * 5 + (b + 1)) * 5 ^ c) (fo (feK V N9) (coK V f) (5 ^ c) ((cd t i * 5 + b) * 5 ^ c) o) := by
            rw [Nat.succ_mul, Nat.add_comm (e * 5 ^ c), fo_add, show (cd t i * 5 + (b + 1)) * 5 ^ c = (cd t i * 5 + b) * 5 ^ c + 5 ^ c by rw [← Nat.add_assoc, Nat.succ_mul]]
          rw [efo]
          have ht' : ∀ j, dup t i b j < 5 := fun j => by
            by_cases e : j = i
            · rw [e, dup_at]; omega
            · rw [dup_ne e]; exact ht j
          have ecd : cd (dup t i b) (i + 1) = cd t i * 5 + b := by
            show cd (dup t i b) i * 5 + dup t i b i = _
            rw [dup_at, cd_cg (u := t) (fun j hj => dup_ne (by omega))]
          have hcs : cs V f (dup t i b) i = cs V f t i := cs_cg V f (fun j hj => dup_ne (by omega))
          by_cases qf : cZ (fun k => clq V k i ((b : Int) - (t k : Int)) N9) i = 0
          · have e1 : eqs M (zz_wI M 43 i (iI ((b : Int) - 2))) (pS i) := eqs.rf.w (by unfold pS; omega)
            have hx1 : Sx V N9 f (dup t i b) (i + 1) o (zz_wI M 43 i (iI ((b : Int) - 2))) := by
              obtain ⟨x1, x2, x3, x4, x5⟩ := hx
              refine ⟨pS_K x1 e1, by rw [w_ne (by omega)]; exact x2, by rw [w_ne (by omega)]; exact x3, fun j hj => ?_, fun k hk2 j hj => by rw [w_ne (by omega)]; exact x5 k hk2 j hj⟩
              by_cases e : j = i
              · rw [e, w_at, dup_at]
              · rw [w_nk e, dup_ne e]; exact x4 j (by omega)
            have hnc : ∀ k, k < i → ¬ clq V k i ((b : Int) - (t k : Int)) N9 := fun k hk2 hq => by
              have := (cZ_pos (p := fun k => clq V k i ((b : Int) - (t k : Int)) N9) (n := i)).2 ⟨k, hk2, hq⟩
              omega
            have hp1 : ∀ a b', a < b' → b' < i + 1 → ¬ clq V a b' ((dup t i b b' : Int) - (dup t i b a : Int)) N9 := by
              intro a b' h1 h2
              rw [dup_ne (show a ≠ i by omega)]
              by_cases e : b' = i
              · rw [e, dup_at]; exact hnc a (by omega)
              · rw [dup_ne e]; exact hp a b' h1 (by omega)
            obtain ⟨M2, r1, r2, r3, r4⟩ := IH (i + 1) (dup t i b) o (zz_wI M 43 i (iI ((b : Int) - 2))) (by omega) ht' hx1 hp1
            rw [ecd] at r2 r3
            have e2 : eqs M M2 (pS i) := e1.tr (r1.im (fun c k h => ⟨h.1, by have := h.2.1; omega, h.2.2⟩))
            obtain ⟨M', u1, u2, u3, u4⟩ := ihe (b + 1) (fo (feK V N9) (coK V f) (5 ^ c) ((cd t i * 5 + b) * 5 ^ c) o) M2 (by omega) (hx.nx e2 r2 r3)
            refine ⟨M', e2.tr u1, u2, u3, fun d hd N xs => ?_⟩
            have hl1 : f = 1 → cs V f t i % 1024 + 64 + 2 ^ i < 1024 := by
              intro e
              subst e
              have hl := bS_64 (fun j => t j ≠ 2) (n := i) (by omega)
              have hc := cZ_le (fun j => t j ≠ 2) i
              have hp6 : (2 : Nat) ^ i ≤ 2 ^ 6 := Nat.pow_le_pow_right (by omega) (by omega)
              rw [cs_1 t (by omega)]
              show (2048 * hi V t i + 64 * cZ (fun j => t j ≠ 2) i + bS (fun j => t j ≠ 2) i) % 1024 + 64 + 2 ^ i < 1024
              omega
            have l9 : ∀ x : Nat, cs V f (dup t i b) (i + 1) = x → zz_X (zz_call_ d) tb_81 9 [some (.ref 38), some (.int (iI i)), some (.int (iI (cs V f t i))), some (.int (iI ((b : Int) - 2)))] [.int (iI x), .int (iI ((i + 1 : Nat) : Int)), .ref 38] (zm N xs (zz_wI M 43 i (iI ((b : Int) - 2))) L) = some (none, zm N xs M' L) := by
              intro x hx
              rw [b_81_9, ← hx, r4.gov (by omega), b_81_10, show (1 : Int32) = iI 1 from rfl, iI_add, show (b : Int) - 2 + 1 = ((b + 1 : Nat) : Int) - 2 by omega]
              exact u4 d hd N xs
            rw [b_81_6, if_neg (by rw [t_lt, show (2 : Int32).toInt = 2 from rfl, iI_to (by omega) (by omega)]; omega), g_82 M L V hk N9 hx.1 t ht i b (by omega) (by omega) hx.2.2.2.1 (by omega), b2_t qf, b_81_7, if_neg (show ¬ iI 1 = (0 : Int32) from iI10), ix_nat (by omega) (by omega), o_some, show (1 : Int32) = iI 1 from rfl, iI_add]
            have ecs : cs V f (dup t i b) (i + 1) = if b = 2 then cs V f t i else cw V f (cs V f t i) i := by
              show (if dup t i b i = 2 then cs V f (dup t i b) i else cw V f (cs V f (dup t i b) i) i) = _
              rw [dup_at, hcs]
            by_cases q2 : b = 2
            · rw [if_pos (by rw [q2]; rfl)]
              exact l9 _ (by rw [ecs, if_pos q2])
            · rw [if_neg (by rw [t_eq, show (0 : Int32).toInt = 0 from rfl, iI_to (by omega) (by omega)]; omega), b_81_8, g_83 _ L V hk N9 hx1.1 f (cs V f t i) i hf hx1.2.1 (by omega) hcl hl1 (by omega)]
              exact l9 _ (by rw [ecs, if_neg q2])
          · have ez : fo (feK V N9) (coK V f) (5 ^ c) ((cd t i * 5 + b) * 5 ^ c) o = o := fo_no _ _ (fun x h1 h2 he => by
              have hr := rng h1 h2
              rw [← ecd] at hr
              have hdg : ∀ j, j < i + 1 → dg V.n x j = dup t i b j := fun j hj => dg_pre ht' (by omega) hj hr
              obtain ⟨k0, hk0, hq⟩ := (cZ_pos (p := fun k => clq V k i ((b : Int) - (t k : Int)) N9) (n := i)).1 (by omega)
              refine absurd he.1 (bd_x hk hk0 (show i < V.n by omega) ?_)
              rw [hdg i (by omega), hdg k0 (by omega), dup_at, dup_ne (by omega)]
              exact hq)
            rw [ez]
            obtain ⟨M', u1, u2, u3, u4⟩ := ihe (b + 1) o M (by omega) hx
            refine ⟨M', u1, u2, u3, fun d hd N xs => ?_⟩
            rw [b_81_6, if_neg (by rw [t_lt, show (2 : Int32).toInt = 2 from rfl, iI_to (by omega) (by omega)]; omega), g_82 M L V hk N9 hx.1 t ht i b (by omega) (by omega) hx.2.2.2.1 (by omega), b2_f qf, b_81_7, if_pos (show iI 0 = (0 : Int32) from rfl), b_81_10, show (1 : Int32) = iI 1 from rfl, iI_add, show (b : Int) - 2 + 1 = ((b + 1 : Nat) : Int) - 2 by omega]
            exact u4 d hd N xs
      obtain ⟨M', u1, u2, u3, u4⟩ := loop 5 0 o M (by omega) hx
      have ef : 5 * 5 ^ c = 5 ^ (c + 1) := by rw [Nat.pow_succ, Nat.mul_comm]
      have eg : (cd t i * 5 + 0) * 5 ^ c = cd t i * 5 ^ (c + 1) := by rw [Nat.add_zero, Nat.mul_assoc, ef]
      rw [ef, eg] at u2 u3
      refine ⟨M', u1, u2, u3, zc_of (n := c + 4) (ls := [some (.ref 38), some (.int (iI i)), some (.int (iI (cs V f t i))), none]) mk_81 rfl rfl rfl rfl (fun d hd N xs => ?_)⟩
      rw [b_81_0, hx.2.2.1, if_pos (by rw [t_lt, iI_to (by omega) (by omega), iI_to (by omega) (by omega)]; omega), b_81_1, hx.1.1, if_neg (by rw [t_le, iI_to (by omega) (by omega), iI_to (by omega) (by omega)]; omega), if_pos (by rw [t_lt, show (6 : Int32).toInt = 6 from rfl, iI_to (by omega) (by omega)]; omega), b_81_5]
      exact u4 d (by omega) N xs
    · have ez : fo (feK V N9) (coK V f) (5 ^ (c + 1)) (cd t i * 5 ^ (c + 1)) o = o := fo_no _ _ (fun x h1 h2 he => by
        have hr := rng h1 h2
        have hdg : ∀ j, j < i → dg V.n x j = t j := fun j hj => dg_pre ht hn hj hr
        have h3 : cs V f (dg V.n x) i ≤ cs V f (dg V.n x) V.n := cs_mono V f _ (by omega)
        rw [cs_cg V f hdg] at h3
        have h4 : cs V f (dg V.n x) V.n < bc (coK V f) o := he.2
        omega)
      rw [ez]
      refine ⟨M, eqs.rf, hx.2.2.1, hx.2.2.2.2, zc_of (n := c + 4) (ls := [some (.ref 38), some (.int (iI i)), some (.int (iI (cs V f t i))), none]) mk_81 rfl rfl rfl rfl (fun d hd N xs => ?_)⟩
      rw [b_81_0, hx.2.2.1, if_neg (by rw [t_lt, iI_to (by omega) (by omega), iI_to (by omega) (by omega)]; omega)]
end ZL

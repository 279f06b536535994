/-! a text as a house: the component, all of it. -/
def CX (s : Nat) (a : Nat → Int32) (z hc n : Nat) (q : Nat → Nat) (M : Nat → Nat → Int32) : Prop := M 17 5 = iI hc ∧ M 17 6 = iI n ∧ (∀ k, k < hc → M 18 k = iI (fv s a (z + 1 + k))) ∧ ∀ i, i < n → M 19 i = iI (kc (chA s a (q i))) ∧ M 20 i = iI (10 * fv s a (q i + 1) + fv s a (q i + 2)) ∧ M 21 i = iI (fv s a (q i + 3) - 4) ∧ M 22 i = iI (fv s a (q i + 4))
def p26 (c k : Nat) : Prop := c ≠ 18 ∧ (c ≠ 17 ∨ (k ≠ 5 ∧ k ≠ 7))
section ZL
variable (L : Nat → Nat → Int64)
theorem l_26 (t s z : Nat) (a : Nat → Int32) (hz : z < s) : ∀ (c j : Nat) (M : Nat → Nat → Int32) (o : Option Value), j + c = 7 → Tw M t s a → M 17 7 = iI ((z + 1 + j : Nat) : Int) → M 17 5 = iI j → (∀ k, k < j → M 18 k = iI (fv s a (z + 1 + k))) → ∃ M', eqs M M' p26 ∧ M' 17 7 = iI ((z + 1 + fx (fun k => ¬ fg s a 3 (z + 1 + k)) c j : Nat) : Int) ∧ M' 17 5 = iI (fx (fun k => ¬ fg s a 3 (z + 1 + k)) c j) ∧ (∀ k, k < fx (fun k => ¬ fg s a 3 (z + 1 + k)) c j → M' 18 k = iI (fv s a (z + 1 + k))) ∧ ∀ d, 5 ≤ d → ∀ N xs, zz_X (zz_call_ d) tb_26 5 [some (.ref 17), some (.ref 10), some (.int (iI t)), some (.int (iI j)), o] [] (zm N xs M L) = some (some (.int (b2 (0 < fx (fun k => ¬ fg s a 3 (z + 1 + k)) c j))), zm N xs M' L)
  | 0, j, M, o, hc, hw, h7, h5, h18 => by
    refine ⟨M, eqs.rf, h7, h5, h18, fun d hd N xs => ?_⟩
    show _ = some (some (Value.int (b2 (0 < j))), zm N xs M L)
    rw [b_26_5, if_pos (by rw [t_le, show (7 : Int32).toInt = 7 from rfl, iI_to (by omega) (by omega)]; omega), b_26_8, h5, if_neg (by rw [t_le, show (0 : Int32).toInt = 0 from rfl, iI_to (by omega) (by omega)]; omega), b_26_10, if_pos (Or.inr rfl), b2_t (by omega)]
    rfl
  | c + 1, j, M, o, hc, hw, h7, h5, h18 => by
    have h60 := hw.2.1
    by_cases q : fg s a 3 (z + 1 + j)
    · have hlt := fg_lt q
      have hb := fv_b s a (z + 1 + j)
      have ef : fx (fun k => ¬ fg s a 3 (z + 1 + k)) (c + 1) j = fx (fun k => ¬ fg s a 3 (z + 1 + k)) c (j + 1) := if_neg (fun e => e q)
      obtain ⟨M', r1, r2, r3, r4, r5⟩ := l_26 t s z a hz c (j + 1) (zz_wI (zz_wI (zz_wI M 17 7 (iI ((z + 1 + j + 1 : Nat) : Int))) 18 j (iI (fv s a (z + 1 + j)))) 17 5 (iI ((j + 1 : Nat) : Int))) (some (.int (iI (fv s a (z + 1 + j))))) (by omega) (hw.cg (fun c _ _ => by rw [w_ne (by omega), w_ne (by omega), w_ne (by omega)])) (by rw [w_nk (by omega), w_ne (by omega), w_at]; rfl) w_at (fun k hk => by
        rw [w_ne (by omega)]
        by_cases e : k = j
        · rw [e, w_at]
        · rw [w_nk e, w_ne (by omega)]; exact h18 k (by omega))
      rw [← ef] at r2 r3 r4 r5
      refine ⟨M', (((eqs.rf.w (by unfold p26; omega)).w (by unfold p26; omega)).w (by unfold p26; omega)).tr r1, r2, r3, r4, fun d hd N xs => ?_⟩
      rw [b_26_5, if_neg (by rw [t_le, show (7 : Int32).toInt = 7 from rfl, iI_to (by omega) (by omega)]; omega), show (3 : Int32) = iI ((3 : Nat) : Int) from rfl, g_28T M L t s (z + 1 + j) 3 a hw (by omega) h7 q (by omega), b_26_6, if_pos (by rw [t_le, show (0 : Int32).toInt = 0 from rfl, iI_to hb.1 hb.2]; exact q.1), b_26_7, ix_nat (by omega) (by omega), o_some, show (1 : Int32) = iI 1 from rfl, iI_add]
      exact r5 d hd N xs
    · have ef : fx (fun k => ¬ fg s a 3 (z + 1 + k)) (c + 1) j = j := if_pos q
      rw [ef]
      refine ⟨M, eqs.rf, h7, h5, h18, fun d hd N xs => ?_⟩
      rw [b_26_5, if_neg (by rw [t_le, show (7 : Int32).toInt = 7 from rfl, iI_to (by omega) (by omega)]; omega), show (3 : Int32) = iI ((3 : Nat) : Int) from rfl, g_28F M L t s (z + 1 + j) 3 a hw (by omega) (by omega) h7 q (by omega), b_26_6, if_neg (by decide), b_26_8, h5]
      by_cases q0 : 0 < j
      · rw [if_neg (by rw [t_le, show (0 : Int32).toInt = 0 from rfl, iI_to (by omega) (by omega)]; omega), b_26_10, if_pos (Or.inr rfl), b2_t q0]
        rfl
      · rw [if_pos (by rw [t_le, show (0 : Int32).toInt = 0 from rfl, iI_to (by omega) (by omega)]; omega), b_26_9, b_26_10, if_pos (Or.inl rfl), b2_f q0]
        rfl
theorem l_24 (t s z hc : Nat) (a : Nat → Int32) : ∀ (c p n : Nat) (q : Nat → Nat) (M : Nat → Nat → Int32), n + c = 6 → p ≤ s → Tw M t s a → M 17 7 = iI p → CX s a z hc n q M → ∃ M', eqs M M' p17 ∧ CX s a z hc (pl s a c p n q).2.1 (pl s a c p n q).2.2 M' ∧ ∀ d, 8 ≤ d → ∀ N xs, zz_X (zz_call_ d) tb_24 6 [some (.ref 17), some (.ref 10), some (.int (iI t)), some (.int (iI s)), some (.int (iI n))] [] (zm N xs M L) = some (some (.int (iI (pl s a c p n q).1)), zm N xs M' L)
  | 0, p, n, q, M, hn, hp, hw, h7, hx => by
    have h60 := hw.2.1
    refine ⟨M, eqs.rf, hx, fun d hd N xs => ?_⟩
    rw [b_24_6, if_pos (by rw [t_le, show (6 : Int32).toInt = 6 from rfl, iI_to (by omega) (by omega)]; omega), b_24_10, h7]
    show _ = some (some (Value.int (iI (if p < s then (p : Int) else -9))), zm N xs M L)
    by_cases q0 : p < s
    · rw [if_pos (by rw [t_lt, iI_to (by omega) (by omega), iI_to (by omega) (by omega)]; omega), b_24_11, b_24_13, if_pos q0, h7]
    · rw [if_neg (by rw [t_lt, iI_to (by omega) (by omega), iI_to (by omega) (by omega)]; omega), hx.2.1, if_neg (by rw [t_eq, show (0 : Int32).toInt = 0 from rfl, iI_to (by omega) (by omega)]; omega), b_24_12, b_24_13, if_neg q0]
      rfl
  | c + 1, p, n, q, M, hn, hp, hw, h7, hx => by
    have h60 := hw.2.1
    have hE : pl s a (c + 1) p n q = if p < s ∨ n = 0 then (if (tq s a p).2 = true then pl s a c (bl s a (tq s a p).1) (n + 1) (dup q n p) else ((tq s a p).1, n, q)) else (-9, n, q) := rfl
    by_cases q0 : p < s
    · have ht := tq_le (a := a) hp
      rw [hE, if_pos (Or.inl q0)]
      by_cases q1 : (tq s a p).2 = true
      · rw [if_pos q1]
        have hti := tq_i q1
        have h5 : (tq s a p).1 = p + 5 := by rw [hti.2.2.2.2.2]
        have e1 : eqs M (tpM s a M n p) p17 := (((((eqs.rf.w (by unfold p17; omega)).w (by unfold p17; omega)).w (by unfold p17; omega)).w (by unfold p17; omega)).w (by unfold p17; omega)).w (by unfold p17; omega)
        have e7 : tpM s a M n p 17 7 = iI ((p + 5 : Nat) : Int) := by unfold tpM; rw [w_nk (by omega), w_ne (by omega), w_ne (by omega), w_ne (by omega), w_ne (by omega), w_at]
        have e2 : eqs (tpM s a M n p) (zz_wI (tpM s a M n p) 17 7 (iI (bl s a (p + 5)))) p17 := eqs.rf.w (by unfold p17; omega)
        have hx2 : CX s a z hc (n + 1) (dup q n p) (zz_wI (tpM s a M n p) 17 7 (iI (bl s a (p + 5)))) := by
          obtain ⟨x1, x2, x3, x4⟩ := hx
          unfold tpM
          refine ⟨?_, ?_, ?_, ?_⟩
          · rw [w_nk (by omega), w_nk (by omega), w_ne (by omega), w_ne (by omega), w_ne (by omega), w_ne (by omega), w_nk (by omega)]; exact x1
          · rw [w_nk (by omega), w_at]
          · intro k hk
            rw [w_ne (by omega), w_ne (by omega), w_ne (by omega), w_ne (by omega), w_ne (by omega), w_ne (by omega), w_ne (by omega)]; exact x3 k hk
          · intro i hi
            by_cases e : i = n
            · subst e
              rw [dup_at]
              refine ⟨?_, ?_, ?_, ?_⟩
              · rw [w_ne (by omega), w_ne (by omega), w_ne (by omega), w_ne (by omega), w_ne (by omega), w_at]
              · rw [w_ne (by omega), w_ne (by omega), w_ne (by omega), w_ne (by omega), w_at]
              · rw [w_ne (by omega), w_ne (by omega), w_ne (by omega), w_at]
              · rw [w_ne (by omega), w_ne (by omega), w_at]
            · rw [dup_ne e]
              obtain ⟨y1, y2, y3, y4⟩ := x4 i (by omega)
              refine ⟨?_, ?_, ?_, ?_⟩
              · rw [w_ne (by omega), w_ne (by omega), w_ne (by omega), w_ne (by omega), w_ne (by omega), w_nk e, w_ne (by omega)]; exact y1
              · rw [w_ne (by omega), w_ne (by omega), w_ne (by omega), w_ne (by omega), w_nk e, w_ne (by omega), w_ne (by omega)]; exact y2
              · rw [w_ne (by omega), w_ne (by omega), w_ne (by omega), w_nk e, w_ne (by omega), w_ne (by omega), w_ne (by omega)]; exact y3
              · rw [w_ne (by omega), w_ne (by omega), w_nk e, w_ne (by omega), w_ne (by omega), w_ne (by omega), w_ne (by omega)]; exact y4
        obtain ⟨M', r1, r2, r3⟩ := l_24 t s z hc a c (bl s a (tq s a p).1) (n + 1) (dup q n p) (zz_wI (tpM s a M n p) 17 7 (iI (bl s a (p + 5)))) (by omega) (bl_le ht) (p17_T hw (e1.tr e2)) (by rw [w_at, h5]) hx2
        refine ⟨M', (e1.tr e2).tr r1, r2, fun d hd N xs => ?_⟩
        rw [b_24_6, if_neg (by rw [t_le, show (6 : Int32).toInt = 6 from rfl, iI_to (by omega) (by omega)]; omega), h7, if_neg (by rw [t_le, iI_to (by omega) (by omega), iI_to (by omega) (by omega)]; omega), g_27T M L t s p n a hw q0 (by omega) h7 q1 (by omega), b_24_7, if_neg (show ¬ iI 1 = (0 : Int32) from iI10), b_24_8, g_25 _ L t s (p + 5) a (p17_T hw e1) (by omega) e7 (by omega), b_24_9, show (1 : Int32) = iI 1 from rfl, iI_add]
        exact r3 d hd N xs
      · rw [if_neg q1]
        refine ⟨zz_wI M 17 7 (iI (tq s a p).1), eqs.rf.w (by unfold p17; omega), ?_, fun d hd N xs => ?_⟩
        · obtain ⟨x1, x2, x3, x4⟩ := hx
          refine ⟨by rw [w_nk (by omega)]; exact x1, by rw [w_nk (by omega)]; exact x2, fun k hk => by rw [w_ne (by omega)]; exact x3 k hk, fun i hi => ?_⟩
          rw [w_ne (by omega), w_ne (by omega), w_ne (by omega), w_ne (by omega)]
          exact x4 i hi
        · rw [b_24_6, if_neg (by rw [t_le, show (6 : Int32).toInt = 6 from rfl, iI_to (by omega) (by omega)]; omega), h7, if_neg (by rw [t_le, iI_to (by omega) (by omega), iI_to (by omega) (by omega)]; omega), g_27F M L t s p n a hw q0 (by omega) h7 q1 (by omega), b_24_7, if_pos (show iI 0 = (0 : Int32) from rfl), w_at]
    · have hk : kc (chA s a p) < 0 := by rw [ch_out q0]; decide
      have hst : ∀ d, 8 ≤ d → ∀ N xs, zz_X (zz_call_ d) tb_24 6 [some (.ref 17), some (.ref 10), some (.int (iI t)), some (.int (iI s)), some (.int (iI n))] [] (zm N xs M L) = zz_X (zz_call_ d) tb_24 10 [some (.ref 17), some (.ref 10), some (.int (iI t)), some (.int (iI s)), some (.int (iI n))] [] (zm N xs M L) := by
        intro d hd N xs
        rw [b_24_6, if_neg (by rw [t_le, show (6 : Int32).toInt = 6 from rfl, iI_to (by omega) (by omega)]; omega), h7, if_pos (by rw [t_le, iI_to (by omega) (by omega), iI_to (by omega) (by omega)]; omega)]
      rw [hE]
      by_cases q1 : n = 0
      · rw [if_pos (Or.inr q1), tq_k hk, if_neg (ffF _)]
        refine ⟨M, eqs.rf, hx, fun d hd N xs => ?_⟩
        rw [hst d hd N xs, b_24_10, h7, if_neg (by rw [t_lt, iI_to (by omega) (by omega), iI_to (by omega) (by omega)]; omega), hx.2.1, if_pos (by rw [q1]; rfl), b_24_11, b_24_13, h7]
      · rw [if_neg (by omega)]
        refine ⟨M, eqs.rf, hx, fun d hd N xs => ?_⟩
        rw [hst d hd N xs, b_24_10, h7, if_neg (by rw [t_lt, iI_to (by omega) (by omega), iI_to (by omega) (by omega)]; omega), hx.2.1, if_neg (by rw [t_eq, show (0 : Int32).toInt = 0 from rfl, iI_to (by omega) (by omega)]; omega), b_24_12, b_24_13]
        rfl
end ZL
def rdV (s : Nat) (a : Nat → Int32) : Int × Nat × (Nat → Nat) := if chA s a (bl s a 0) = 122 then (if hf s a (bl s a 0) = 0 then (((bl s a 0 + 1 : Nat) : Int), 0, fun _ => 0) else pl s a 6 (bl s a (bl s a 0 + 1 + hf s a (bl s a 0))) 0 (fun _ => 0)) else (((bl s a 0 : Nat) : Int), 0, fun _ => 0)
theorem hf_le (s z : Nat) (a : Nat → Int32) : hf s a z ≤ 7 := fx_le (fun k => ¬ fg s a 3 (z + 1 + k)) 7 0
theorem hf_lt {s z k : Nat} {a : Nat → Int32} (h : k < hf s a z) : fg s a 3 (z + 1 + k) := Decidable.not_not.1 (fx_min (p := fun k => ¬ fg s a 3 (z + 1 + k)) 7 0 k (by omega) h)
theorem hf_s {s z : Nat} {a : Nat → Int32} (hz : z < s) : z + 1 + hf s a z ≤ s := by
  by_cases q : hf s a z = 0
  · omega
  · have := fg_lt (hf_lt (s := s) (z := z) (a := a) (k := hf s a z - 1) (by omega))
    omega
/-- the component reads -/
theorem x_24 {M : Nat → Nat → Int32} (L : Nat → Nat → Int64) {t s : Nat} {a : Nat → Int32} (hw : Tw M t s a) : ∃ M', eqs M M' p17 ∧ ((rdV s a).1 = -9 → CX s a (bl s a 0) (hf s a (bl s a 0)) (rdV s a).2.1 (rdV s a).2.2 M') ∧ zc 9 24 [.ref 17, .ref 10, .int (iI t)] M L (some (.int (iI (rdV s a).1))) M' L := by
  have h60 := hw.2.1
  have e0 : eqs M (zz_wI (zz_wI (zz_wI M 17 7 (iI ((0 : Nat) : Int))) 17 5 (iI 0)) 17 6 (iI 0)) p17 := ((eqs.rf.w (by unfold p17; omega)).w (by unfold p17; omega)).w (by unfold p17; omega)
  have h70 : zz_wI (zz_wI (zz_wI M 17 7 (iI ((0 : Nat) : Int))) 17 5 (iI 0)) 17 6 (iI 0) 17 7 = iI ((0 : Nat) : Int) := by rw [w_nk (by omega), w_nk (by omega), w_at]
  have h50 : zz_wI (zz_wI (zz_wI M 17 7 (iI ((0 : Nat) : Int))) 17 5 (iI 0)) 17 6 (iI 0) 17 5 = iI ((0 : Nat) : Int) := by rw [w_nk (by omega), w_at]; rfl
  have h66 : zz_wI (zz_wI (zz_wI M 17 7 (iI ((0 : Nat) : Int))) 17 5 (iI 0)) 17 6 (iI 0) 17 6 = iI ((0 : Nat) : Int) := w_at
  generalize hM0 : zz_wI (zz_wI (zz_wI M 17 7 (iI ((0 : Nat) : Int))) 17 5 (iI 0)) 17 6 (iI 0) = M0 at *
  have hw0 := p17_T hw e0
  have hz := bl_le (s := s) (a := a) (Nat.zero_le s)
  generalize hzz : bl s a 0 = z at *
  have e1 : eqs M0 (zz_wI M0 17 7 (iI z)) p17 := eqs.rf.w (by unfold p17; omega)
  have hw1 := p17_T hw0 e1
  have start : ∀ d, 8 ≤ d → ∀ N xs, zz_X (zz_call_ d) tb_24 0 [some (.ref 17), some (.ref 10), some (.int (iI t)), none, none] [] (zm N xs M L) = zz_X (zz_call_ d) tb_24 2 [some (.ref 17), some (.ref 10), some (.int (iI t)), some (.int (iI s)), none] [] (zm N xs (zz_wI M0 17 7 (iI z)) L) := by
    intro d hd N xs
    have g := g_25 (d := d) (N := N) (xs := xs) (tb_ := tb_24) (t_ := 2) (ls_ := [some (.ref 17), some (.ref 10), some (.int (iI t)), some (.int (iI s)), none]) (rest_ := []) M0 L t s 0 a hw0 (by omega) h70 (by omega)
    rw [hzz] at g
    rw [b_24_0, g_15T M L hw (by omega), b_24_1, show zz_wI (zz_wI (zz_wI M 17 7 0) 17 5 0) 17 6 0 = M0 from hM0]
    exact g
  unfold rdV
  rw [hzz]
  by_cases q : chA s a z = 122
  · have hzs : z < s := by
      by_cases e : z < s
      · exact e
      · rw [ch_out e] at q; exact absurd q (by decide)
    rw [if_pos q]
    have e2 : eqs (zz_wI M0 17 7 (iI z)) (zz_wI (zz_wI M0 17 7 (iI z)) 17 7 (iI ((z + 1 : Nat) : Int))) p17 := eqs.rf.w (by unfold p17; omega)
    have hw2 := p17_T hw1 e2
    obtain ⟨M', r1, r2, r3, r4, r5⟩ := l_26 L t s z a hzs 7 0 (zz_wI (zz_wI M0 17 7 (iI z)) 17 7 (iI ((z + 1 : Nat) : Int))) none (by omega) hw2 (by rw [w_at]) (by rw [w_nk (by omega), w_nk (by omega)]; exact h50) (fun k hk => by omega)
    have r1' : eqs (zz_wI (zz_wI M0 17 7 (iI z)) 17 7 (iI ((z + 1 : Nat) : Int))) M' p17 := r1.im (fun c k h => by unfold p17 at h; unfold p26; omega)
    have hw3 := p17_T hw2 r1'
    have h26 : ∀ d, 6 ≤ d → ∀ N xs, zz_call_ d 26 [.ref 17, .ref 10, .int (iI t)] (zm N xs (zz_wI M0 17 7 (iI z)) L) = some (some (.int (b2 (0 < hf s a z))), zm N xs M' L) := by
      have c : zc 6 26 [.ref 17, .ref 10, .int (iI t)] (zz_wI M0 17 7 (iI z)) L (some (.int (b2 (0 < hf s a z)))) M' L := by
        refine zc_of (n := 5) (ls := [some (.ref 17), some (.ref 10), some (.int (iI t)), none, none]) mk_26 rfl rfl rfl rfl (fun d hd N xs => ?_)
        rw [b_26_0, w_at, g_13T _ L hw1 (by omega) (by omega), b2_t hzs, b_26_1, if_neg (show ¬ iI 1 = (0 : Int32) from iI10), w_at, g_16T _ L hw1 hzs (by omega), b_26_2, if_pos q, b_26_4, w_at, show (1 : Int32) = iI 1 from rfl, iI_add]
        exact r5 d hd N xs
      intro d hd N xs
      exact c d hd N xs 0 0
    have h7' : M' 17 7 = iI ((z + 1 + hf s a z : Nat) : Int) := r2
    have h5' : M' 17 5 = iI (hf s a z) := r3
    have h66' : M' 17 6 = iI ((0 : Nat) : Int) := by rw [r1 17 6 (by unfold p26; omega), w_nk (by omega), w_nk (by omega)]; exact h66
    by_cases q1 : hf s a z = 0
    · rw [if_pos q1]
      refine ⟨M', e0.tr (e1.tr (e2.tr r1')), fun h => by have h' : (((z + 1 : Nat) : Int)) = -9 := h; omega, ?_⟩
      refine zc_of (n := 8) (ls := [some (.ref 17), some (.ref 10), some (.int (iI t)), none, none]) mk_24 rfl rfl rfl rfl (fun d hd N xs => ?_)
      rw [start d hd N xs, b_24_2, h26 d (by omega) N xs, o_some]
      show zz_X (zz_call_ d) tb_24 3 _ [.int (b2 (0 < hf s a z))] _ = _
      rw [b_24_3, if_pos (by rw [b2_f (by omega)]; rfl), h7', q1]
    · rw [if_neg q1]
      have hs := hf_s (a := a) hzs
      have e4 : eqs M' (zz_wI M' 17 7 (iI (bl s a (z + 1 + hf s a z)))) p17 := eqs.rf.w (by unfold p17; omega)
      obtain ⟨M2, u1, u2, u3⟩ := l_24 L t s z (hf s a z) a 6 (bl s a (z + 1 + hf s a z)) 0 (fun _ => 0) (zz_wI M' 17 7 (iI (bl s a (z + 1 + hf s a z)))) (by omega) (bl_le hs) (p17_T hw3 e4) w_at ⟨by rw [w_nk (by omega)]; exact h5', by rw [w_nk (by omega)]; exact h66', fun k hk => by rw [w_ne (by omega)]; exact r4 k hk, fun i hi => by omega⟩
      refine ⟨M2, e0.tr (e1.tr (e2.tr (r1'.tr (e4.tr u1)))), fun _ => u2, ?_⟩
      refine zc_of (n := 8) (ls := [some (.ref 17), some (.ref 10), some (.int (iI t)), none, none]) mk_24 rfl rfl rfl rfl (fun d hd N xs => ?_)
      rw [start d hd N xs, b_24_2, h26 d (by omega) N xs, o_some]
      show zz_X (zz_call_ d) tb_24 3 _ [.int (b2 (0 < hf s a z))] _ = _
      rw [b_24_3, if_neg (by rw [b2_t (by omega)]; exact iI10), b_24_4, g_25 M' L t s (z + 1 + hf s a z) a hw3 hs h7' (by omega), b_24_5]
      exact u3 d hd N xs
  · rw [if_neg q]
    refine ⟨zz_wI M0 17 7 (iI z), e0.tr e1, fun h => by have h' : ((z : Nat) : Int) = -9 := h; omega, ?_⟩
    have c : zc 6 26 [.ref 17, .ref 10, .int (iI t)] (zz_wI M0 17 7 (iI z)) L (some (.int (iI 0))) (zz_wI M0 17 7 (iI z)) L := by
      refine zc_of (n := 5) (ls := [some (.ref 17), some (.ref 10), some (.int (iI t)), none, none]) mk_26 rfl rfl rfl rfl (fun d hd N xs => ?_)
      rw [b_26_0, w_at, g_13T _ L hw1 (by omega) (by omega), b_26_1]
      by_cases e : z < s
      · rw [b2_t e, if_neg (show ¬ iI 1 = (0 : Int32) from iI10), w_at, g_16T _ L hw1 e (by omega), b_26_2, if_neg q, b_26_3]
        rfl
      · rw [b2_f e, if_pos (show iI 0 = (0 : Int32) from rfl), b_26_3]
        rfl
    refine zc_of (n := 8) (ls := [some (.ref 17), some (.ref 10), some (.int (iI t)), none, none]) mk_24 rfl rfl rfl rfl (fun d hd N xs => ?_)
    rw [start d hd N xs, b_24_2, c.go (by omega), b_24_3, if_pos (show iI 0 = (0 : Int32) from rfl), w_at]

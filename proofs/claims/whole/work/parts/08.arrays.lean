/-! Arrays, static fields, System.arraycopy. -/
section ZA
variable {mt : List zz_Mt} {own : String} {y : MethodName} {cc : ByteArray} {ret : Option FieldType} {nL : Nat} {pcs : List Nat} {pc : Nat}
theorem zs_iald (hd : decode cc pc = .ok (.iaload, 1)) : zz_Snd mt own y cc ret nL pcs pc 1 zi_iald := by
  intro p l e R s mi args below meth c Q D cy A g0 bc bs d J C K r hF hN hc1 hc2 hfr hlo hMS hJ hK hR ls st m h
  obtain ⟨i, t1, e1, h1⟩ := zz_pI_some h
  obtain ⟨a, t2, e2, h2⟩ := zz_pR_some h1
  clear h h1
  subst e2 e1
  split at h2
  · rename_i hb
    have hb := Nat.le_of_ble_eq_true hb
    obtain ⟨hb5, h3⟩ := zz_b_some h2
    have hb5 := Nat.blt_eq.mp hb5
    obtain ⟨j, hj, h4⟩ := zz_o_some h3
    obtain ⟨hin, hj⟩ := zz_ix_some hj
    subst hj
    intro H locs La ad hc hi hn hl
    have hX := hc.2.2.1 (a - 1000) hb5
    have ea : 1000 + (a - 1000) = a := Nat.add_sub_cancel' hb
    rw [ea] at hX
    exact va_ti hF.1 hF.2.1 hX hi.2.2.1 hin rfl hd (hK _ _ _ h4 H locs La ad hc hi hn hl)
  · obtain ⟨s0, hs, hkd, h3⟩ := zz_ob_some h2
    obtain ⟨j, hj, h4⟩ := zz_o_some h3
    obtain ⟨hin, hj⟩ := zz_ix_some hj
    subst hj
    intro H locs La ad hc hi hn hl
    have he := zz_cw_at (cy := cy) (ad := ad) hs
    rw [zz_ce_0 hkd] at he
    exact va_iald hF.1 hF.2.1 hc.1 hi.1 a 0 he rfl hin hd (hK _ _ _ h4 H locs La ad hc hi hn hl)
theorem zs_zald (hd : decode cc pc = .ok (.baload, 1)) : zz_Snd mt own y cc ret nL pcs pc 1 zi_zald := by
  intro p l e R s mi args below meth c Q D cy A g0 bc bs d J C K r hF hN hc1 hc2 hfr hlo hMS hJ hK hR ls st m h
  obtain ⟨i, t1, e1, h1⟩ := zz_pI_some h
  obtain ⟨a, t2, e2, h2⟩ := zz_pR_some h1
  clear h h1
  subst e2 e1
  obtain ⟨s0, hs, hkd, h3⟩ := zz_ob_some h2
  obtain ⟨j, hj, h4⟩ := zz_o_some h3
  obtain ⟨hin, hj⟩ := zz_ix_some hj
  subst hj
  intro H locs La ad hc hi hn hl
  have he := zz_cw_at (cy := cy) (ad := ad) hs
  rw [zz_ce_2 hkd] at he
  exact va_zald hF.1 hF.2.1 hc.1 hi.1 a 2 he rfl hin hd (hK _ _ _ h4 H locs La ad hc hi hn hl)
theorem zs_lald (hd : decode cc pc = .ok (.laload, 1)) : zz_Snd mt own y cc ret nL pcs pc 1 zi_lald := by
  intro p l e R s mi args below meth c Q D cy A g0 bc bs d J C K r hF hN hc1 hc2 hfr hlo hMS hJ hK hR ls st m h
  obtain ⟨i, t1, e1, h1⟩ := zz_pI_some h
  obtain ⟨a, t2, e2, h2⟩ := zz_pR_some h1
  clear h h1
  subst e2 e1
  obtain ⟨s0, hs, hkd, h3⟩ := zz_ob_some h2
  obtain ⟨j, hj, h4⟩ := zz_o_some h3
  obtain ⟨hin, hj⟩ := zz_ix_some hj
  subst hj
  intro H locs La ad hc hi hn hl
  have he := zz_cw_at (cy := cy) (ad := ad) hs
  rw [zz_ce_1 hkd] at he
  exact va_lald hF.1 hF.2.1 hc.1 hi.1 a 1 he rfl hin hd (hK _ _ _ h4 H locs La ad hc hi hn hl)
theorem zs_aald {t : Nat} (ht : pcs[t]? = some (pc + 1)) (hd : decode cc pc = .ok (.aaload, 1)) : zz_Snd mt own y cc ret nL pcs pc 1 (zi_aald t) := by
  intro p l e R s mi args below meth c Q D cy A g0 bc bs d J C K r hF hN hc1 hc2 hfr hlo hMS hJ hK hR ls st m h
  obtain ⟨i, t1, e1, h1⟩ := zz_pI_some h
  obtain ⟨a, t2, e2, h2⟩ := zz_pR_some h1
  clear h h1
  subst e2 e1
  obtain ⟨s0, hs, hkd, h3⟩ := zz_ob_some h2
  obtain ⟨j, hj, h4⟩ := zz_o_some h3
  obtain ⟨hin, hj⟩ := zz_ix_some hj
  subst hj
  obtain ⟨o, ho, h5⟩ := zz_o_some h4
  obtain ⟨rr, er, h6⟩ := zz_o_some h5
  subst er
  intro H locs La ad hc hi hn hl
  have he := zz_cw_at (cy := cy) (ad := ad) hs
  rw [zz_ce_3 hkd] at he
  have hlt : i.toNatClampNeg < s0.2.1 := Nat.not_le.mp fun q => hin (Or.inr q)
  refine W.aald (v := .ref (ad rr)) (ty := .array .int) hF.1 hF.2.1 (hi.1 a _ he) ((hc.1.2 3 _ rfl).1 s0.2.1 _) rfl (fun q => by cases q) (by show ¬ (i < 0 ∨ (arrV _ _ _).slots.size ≤ _); rw [arrV_size]; exact hin) (by show (arrV _ _ _).slots[_]? = _; rw [arrV_read _ _ hlt]; simp only [List.getD_eq_getElem?_getD, ho]; rfl) rfl rfl hd (hJ _ _ ht _ _ _ h6 H locs La ad hc hi hn hl)
theorem zs_iast (hd : decode cc pc = .ok (.iastore, 1)) : zz_Snd mt own y cc ret nL pcs pc 1 zi_iast := by
  intro p l e R s mi args below meth c Q D cy A g0 bc bs d J C K r hF hN hc1 hc2 hfr hlo hMS hJ hK hR ls st m h
  obtain ⟨x, t0, e0, h0⟩ := zz_pI_some h
  obtain ⟨i, t1, e1, h1⟩ := zz_pI_some h0
  obtain ⟨a, t2, e2, h2⟩ := zz_pR_some h1
  clear h h0 h1
  subst e2 e1 e0
  obtain ⟨s0, hs, hkd, h3⟩ := zz_ob_some h2
  obtain ⟨j, hj, h4⟩ := zz_o_some h3
  obtain ⟨hin, hj⟩ := zz_ix_some hj
  subst hj
  intro H locs La ad hc hi hn hl
  have he := zz_cw_at (cy := cy) (ad := ad) hs
  rw [zz_ce_0 hkd] at he
  refine va_iast hF.1 hF.2.1 hc.1 hi.1 hi.2.1 hi.2.2.1 a 0 he rfl hin hd (fun H1 locs1 hP hD hS => ?_)
  have hset : (zz_cw cy ad m).set a (ad a, .inl (cy 0, s0.2.1, .inl (upd (m.2.2.1 a) i.toNatClampNeg x))) = zz_cw cy ad (m.1, m.2.1, zz_wI m.2.2.1 a i.toNatClampNeg x, m.2.2.2) := by
    rw [← zz_cw_set (cy := cy) (ad := ad) (m := m) (m' := (m.1, m.2.1, zz_wI m.2.2.1 a i.toNatClampNeg x, m.2.2.2)) (a := a) (s' := s0) rfl hs (fun b hba => ⟨rfl, zz_rI_n hba, rfl⟩)]
    congr 2
    rw [zz_ce_0 hkd]
    congr 4
    exact Eq.symm (by show zz_wI m.2.2.1 a i.toNatClampNeg x a = _; exact zz_rI_s)
  rw [hset] at hP hD
  exact hK _ _ _ h4 H1 locs1 La ad hc ⟨hP, hD, hS, hi.2.2.2.1, hi.2.2.2.2.1, hi.2.2.2.2.2⟩ hn hl
theorem zs_last (hd : decode cc pc = .ok (.lastore, 1)) : zz_Snd mt own y cc ret nL pcs pc 1 zi_last := by
  intro p l e R s mi args below meth c Q D cy A g0 bc bs d J C K r hF hN hc1 hc2 hfr hlo hMS hJ hK hR ls st m h
  obtain ⟨x, t0, e0, h0⟩ := zz_pL_some h
  obtain ⟨i, t1, e1, h1⟩ := zz_pI_some h0
  obtain ⟨a, t2, e2, h2⟩ := zz_pR_some h1
  clear h h0 h1
  subst e2 e1 e0
  obtain ⟨s0, hs, hkd, h3⟩ := zz_ob_some h2
  obtain ⟨j, hj, h4⟩ := zz_o_some h3
  obtain ⟨hin, hj⟩ := zz_ix_some hj
  subst hj
  intro H locs La ad hc hi hn hl
  have he := zz_cw_at (cy := cy) (ad := ad) hs
  rw [zz_ce_1 hkd] at he
  refine va_last hF.1 hF.2.1 hc.1 hi.1 hi.2.1 hi.2.2.1 a 1 he rfl hin hd (fun H1 locs1 hP hD hS => ?_)
  have hset : (zz_cw cy ad m).set a (ad a, .inl (cy 1, s0.2.1, .inr (.inl (vp_updL (m.2.2.2.1 a) i.toNatClampNeg x)))) = zz_cw cy ad (m.1, m.2.1, m.2.2.1, zz_wL m.2.2.2.1 a i.toNatClampNeg x, m.2.2.2.2) := by
    rw [← zz_cw_set (cy := cy) (ad := ad) (m := m) (m' := (m.1, m.2.1, m.2.2.1, zz_wL m.2.2.2.1 a i.toNatClampNeg x, m.2.2.2.2)) (a := a) (s' := s0) rfl hs (fun b hba => ⟨rfl, rfl, zz_rL_n hba⟩)]
    congr 2
    rw [zz_ce_1 hkd]
    congr 5
    exact Eq.symm (by show zz_wL m.2.2.2.1 a i.toNatClampNeg x a = _; exact zz_rL_s)
  rw [hset] at hP hD
  exact hK _ _ _ h4 H1 locs1 La ad hc ⟨hP, hD, hS, hi.2.2.2.1, hi.2.2.2.2.1, hi.2.2.2.2.2⟩ hn hl
theorem zs_zast (hd : decode cc pc = .ok (.bastore, 1)) : zz_Snd mt own y cc ret nL pcs pc 1 zi_zast := by
  intro p l e R s mi args below meth c Q D cy A g0 bc bs d J C K r hF hN hc1 hc2 hfr hlo hMS hJ hK hR ls st m h
  obtain ⟨x, t0, e0, h0⟩ := zz_pI_some h
  obtain ⟨i, t1, e1, h1⟩ := zz_pI_some h0
  obtain ⟨a, t2, e2, h2⟩ := zz_pR_some h1
  clear h h0 h1
  subst e2 e1 e0
  obtain ⟨s0, hs, hkd, h3⟩ := zz_ob_some h2
  obtain ⟨j, hj, h4⟩ := zz_o_some h3
  obtain ⟨hin, hj⟩ := zz_ix_some hj
  subst hj
  split at h4
  case isFalse => cases h4
  rename_i hz
  have hx : vp_nar .boolean x = x := by rcases hz with rfl | rfl <;> rfl
  intro H locs La ad hc hi hn hl
  have he := zz_cw_at (cy := cy) (ad := ad) hs
  rw [zz_ce_2 hkd] at he
  refine va_zast hF.1 hF.2.1 hc.1 hi.1 hi.2.1 hi.2.2.1 a 2 he rfl hin hd (fun H1 locs1 hP hD hS => ?_)
  rw [hx] at hP hD
  have hset : (zz_cw cy ad m).set a (ad a, .inl (cy 2, s0.2.1, .inl (upd (m.2.2.1 a) i.toNatClampNeg x))) = zz_cw cy ad (m.1, m.2.1, zz_wI m.2.2.1 a i.toNatClampNeg x, m.2.2.2) := by
    rw [← zz_cw_set (cy := cy) (ad := ad) (m := m) (m' := (m.1, m.2.1, zz_wI m.2.2.1 a i.toNatClampNeg x, m.2.2.2)) (a := a) (s' := s0) rfl hs (fun b hba => ⟨rfl, zz_rI_n hba, rfl⟩)]
    congr 2
    rw [zz_ce_2 hkd]
    congr 4
    exact Eq.symm (by show zz_wI m.2.2.1 a i.toNatClampNeg x a = _; exact zz_rI_s)
  rw [hset] at hP hD
  exact hK _ _ _ h4 H1 locs1 La ad hc ⟨hP, hD, hS, hi.2.2.2.1, hi.2.2.2.2.1, hi.2.2.2.2.2⟩ hn hl
theorem zs_alen (hd : decode cc pc = .ok (.arraylength, 1)) : zz_Snd mt own y cc ret nL pcs pc 1 zi_alen := by
  intro p l e R s mi args below meth c Q D cy A g0 bc bs d J C K r hF hN hc1 hc2 hfr hlo hMS hJ hK hR ls st m h
  obtain ⟨a, t1, e1, h1⟩ := zz_pR_some h
  clear h
  subst e1
  split at h1
  · rename_i hb
    have hb := Nat.le_of_ble_eq_true hb
    obtain ⟨hb5, h3⟩ := zz_b_some h1
    have hb5 := Nat.blt_eq.mp hb5
    intro H locs La ad hc hi hn hl
    have hX := hc.2.2.1 (a - 1000) hb5
    have ea : 1000 + (a - 1000) = a := Nat.add_sub_cancel' hb
    rw [ea] at hX
    exact va_tlen hF.1 hF.2.1 hX hi.2.2.1 rfl hd (hK _ _ _ h3 H locs La ad hc hi hn hl)
  · obtain ⟨s0, hs, h2⟩ := zz_sh_some h1
    obtain ⟨hb4, h3⟩ := zz_b_some h2
    have hb4 := Nat.blt_eq.mp hb4
    intro H locs La ad hc hi hn hl
    have he := zz_cw_at (cy := cy) (ad := ad) hs
    have hkd : s0.1 = 0 ∨ s0.1 = 1 ∨ s0.1 = 2 ∨ s0.1 = 3 := by omega
    rcases hkd with hkd | hkd | hkd | hkd
    · rw [zz_ce_0 hkd] at he
      exact va_alen hF.1 hF.2.1 hc.1 hi.1 a 0 he rfl rfl hd (hK _ _ _ h3 H locs La ad hc hi hn hl)
    · rw [zz_ce_1 hkd] at he
      exact va_alen hF.1 hF.2.1 hc.1 hi.1 a 1 he rfl rfl hd (hK _ _ _ h3 H locs La ad hc hi hn hl)
    · rw [zz_ce_2 hkd] at he
      exact va_alen hF.1 hF.2.1 hc.1 hi.1 a 2 he rfl rfl hd (hK _ _ _ h3 H locs La ad hc hi hn hl)
    · rw [zz_ce_3 hkd] at he
      exact va_alen hF.1 hF.2.1 hc.1 hi.1 a 3 he rfl rfl hd (hK _ _ _ h3 H locs La ad hc hi hn hl)
theorem zs_gets {i j : Nat} (hj : j < 4) (hlk : Cond.fieldLink own i "NeverTogether" (zz_sn j) "[I" ∈ zz_TG) (hd : decode cc pc = .ok (.getstatic i, 3)) : zz_Snd mt own y cc ret nL pcs pc 3 (zi_push (.ref (1000 + j))) := by
  intro p l e R s mi args below meth c Q D cy A g0 bc bs d J C K r hF hN hc1 hc2 hfr hlo hMS hJ hK hR ls st m h
  intro H locs La ad hc hi hn hl
  exact va_gets hF.1 hF.2.1 (hc.2.2.2.1 j hj) hi.2.2.1 hF.2.2.2.1 (hF.2.2.2.2 _ hlk) (fun _ hx => hx) hd (hK _ _ _ h H locs La ad hc hi hn hl)
theorem zs_getsN {i j : Nat} {host : String} (hj : j < 4) (hlk : Cond.fieldLinkNest own i "NeverTogether" (zz_sn j) "[I" host ∈ lw_tbl) (hd : decode cc pc = .ok (.getstatic i, 3)) : zz_Snd mt own y cc ret nL pcs pc 3 (zi_push (.ref (1000 + j))) := by
  intro p l e R s mi args below meth c Q D cy A g0 bc bs d J C K r hF hN hc1 hc2 hfr hlo hMS hJ hK hR ls st m h
  intro H locs La ad hc hi hn hl
  exact va_getsN hF.1 hF.2.1 (hc.2.2.2.1 j hj) hi.2.2.1 hF.2.2.2.1 (va_Nw.use (w := Cond.fieldLinkNest own i "NeverTogether" (zz_sn j) "[I" host) rfl (hc.2.2.2.2.2.1 _ hlk rfl)) (fun _ hx => hx) hd (hK _ _ _ h H locs La ad hc hi hn hl)
theorem zs_copy {i : Nat} (hw1 : Cond.methodLink own i arraycopyName ∈ zz_TG) (hw2 : Cond.native arraycopyName ∈ zz_TG) (hw3 : Cond.static arraycopyName ∈ zz_TG) (hw4 : Cond.initialized "java/lang/System" ∈ zz_TG) (hd : decode cc pc = .ok (.invokestatic i, 3)) : zz_Snd mt own y cc ret nL pcs pc 3 zi_copy := by
  intro p l e R s mi args below meth c Q D cy A g0 bc bs d J C K r hF hN hc1 hc2 hfr hlo hMS hJ hK hR ls st m h
  obtain ⟨n, t1, e1, h1⟩ := zz_pI_some h
  obtain ⟨dp, t2, e2, h2⟩ := zz_pI_some h1
  obtain ⟨b, t3, e3, h3⟩ := zz_pR_some h2
  obtain ⟨sp, t4, e4, h4⟩ := zz_pI_some h3
  obtain ⟨a, t5, e5, h5⟩ := zz_pR_some h4
  clear h h1 h2 h3 h4
  subst e5 e4 e3 e2 e1
  obtain ⟨s0, hs, hkd, h6⟩ := zz_ob_some h5
  obtain ⟨s1, hs1, hkd1, h7⟩ := zz_ob_some h6
  obtain ⟨hb, h8⟩ := zz_b_some h7
  have hb := Nat.le_of_ble_eq_true hb
  split at h8
  · cases h8
  rename_i hneg
  simp only [not_or] at hneg
  obtain ⟨g1, g2, g3, g4, g5⟩ := hneg
  intro H locs La ad hc hi hn hl
  have he := zz_cw_at (cy := cy) (ad := ad) hs
  rw [zz_ce_0 hkd] at he
  have he1 := zz_cw_at (cy := cy) (ad := ad) hs1
  rw [zz_ce_0 hkd1] at he1
  have hsum : ((t5.map (zz_tr ad)).map fun v => v.category).sum = (t5.map Value.category).sum := by
    rw [List.map_map]
    congr 1
    apply List.map_congr_left
    intro v _
    exact zz_tr_cat ad v
  have hnf : nativeFrameWords "java/lang/System" "arraycopy" 5 + 11 ≤ 56 := by decide +kernel
  refine va_copyi hF.1 hF.2.1 (hF.2.2.1.trans hl.1.symm) hF.2.2.2.1 (hF.2.2.2.2 _ hw1) (hF.2.2.2.2 _ hw2) (hF.2.2.2.2 _ hw3) (hF.2.2.2.2 _ hw4) hc.1 hi.1 hi.2.1 hi.2.2.1 a b 0 0 he he1 rfl rfl rfl g1 g2 g3 (Nat.not_lt.mp g4) (Nat.not_lt.mp g5) (fun _ _ => rfl) (by omega) (by rw [hsum]; omega) hd (fun H1 locs1 hP hD hS => ?_)
  have hset : (zz_cw cy ad m).set b (ad b, .inl (cy 0, s1.2.1, .inl (va_cpy (m.2.2.1 a) (m.2.2.1 b) sp.toNatClampNeg dp.toNatClampNeg n.toNatClampNeg))) = zz_cw cy ad (m.1, m.2.1, zz_rI m.2.2.1 b (va_cpy (m.2.2.1 a) (m.2.2.1 b) sp.toNatClampNeg dp.toNatClampNeg n.toNatClampNeg), m.2.2.2) := by
    rw [← zz_cw_set (cy := cy) (ad := ad) (m := m) (m' := (m.1, m.2.1, zz_rI m.2.2.1 b (va_cpy (m.2.2.1 a) (m.2.2.1 b) sp.toNatClampNeg dp.toNatClampNeg n.toNatClampNeg), m.2.2.2)) (a := b) (s' := s1) rfl hs1 (fun b hba => ⟨rfl, zz_rI_n hba, rfl⟩)]
    congr 2
    rw [zz_ce_0 hkd1]
    congr 4
    exact Eq.symm zz_rI_s
  rw [hset] at hP hD
  exact hK _ _ _ h8 H1 locs1 La ad hc ⟨hP, hD, hS, hi.2.2.2.1, hi.2.2.2.2.1, hi.2.2.2.2.2⟩ hn hl
end ZA

/-! The instructions that touch cells. -/
theorem zz_ce_ob {cy : Nat → ClassId} {ad : Nat → Nat} {s : zz_S} {ci : Nat} {f : Nat → Int32} {g : Nat → Int64} (h : s.1 = ci + 4) : zz_ce cy ad s f g = .inr (ci, (List.range s.2.1).map (fun k => zz_fv ad (zz_ft ci k) (f k) (g k) (s.2.2.getD k none))) := by
  obtain ⟨kd, r⟩ := s
  subst h
  rfl
theorem zz_ce_0 {cy : Nat → ClassId} {ad : Nat → Nat} {s : zz_S} {f : Nat → Int32} {g : Nat → Int64} (h : s.1 = 0) : zz_ce cy ad s f g = .inl (cy 0, s.2.1, .inl f) := by
  obtain ⟨kd, r⟩ := s
  subst h
  rfl
theorem zz_ce_1 {cy : Nat → ClassId} {ad : Nat → Nat} {s : zz_S} {f : Nat → Int32} {g : Nat → Int64} (h : s.1 = 1) : zz_ce cy ad s f g = .inl (cy 1, s.2.1, .inr (.inl g)) := by
  obtain ⟨kd, r⟩ := s
  subst h
  rfl
theorem zz_ce_2 {cy : Nat → ClassId} {ad : Nat → Nat} {s : zz_S} {f : Nat → Int32} {g : Nat → Int64} (h : s.1 = 2) : zz_ce cy ad s f g = .inl (cy 2, s.2.1, .inl f) := by
  obtain ⟨kd, r⟩ := s
  subst h
  rfl
theorem zz_ce_3 {cy : Nat → ClassId} {ad : Nat → Nat} {s : zz_S} {f : Nat → Int32} {g : Nat → Int64} (h : s.1 = 3) : zz_ce cy ad s f g = .inl (cy 3, s.2.1, .inr (.inr (.inr (.inr (fun j => (s.2.2.getD j none).map ad))))) := by
  obtain ⟨kd, r⟩ := s
  subst h
  rfl
theorem zz_map_set {n k : Nat} {F G : Nat → Value} {v : Value} (h1 : G k = v) (h2 : ∀ j, j ≠ k → G j = F j) : ((List.range n).map F).set k v = (List.range n).map G := by
  apply List.ext_getElem?
  intro j
  by_cases hj : j = k
  · subst hj
    by_cases hn : j < n
    · rw [List.getElem?_set_self (by simpa using hn)]
      simp [hn, h1]
    · rw [List.getElem?_eq_none (by simp; omega), List.getElem?_eq_none (by simp; omega)]
  · rw [List.getElem?_set_ne (Ne.symm hj)]
    by_cases hn : j < n
    · simp [hn, h2 j hj]
    · rw [List.getElem?_eq_none (by simp; omega), List.getElem?_eq_none (by simp; omega)]
theorem zz_rI_s {M : Nat → Nat → Int32} {a : Nat} {f : Nat → Int32} : zz_rI M a f a = f := if_pos rfl
theorem zz_rI_n {M : Nat → Nat → Int32} {a b : Nat} {f : Nat → Int32} (h : b ≠ a) : zz_rI M a f b = M b := if_neg h
theorem zz_rL_s {M : Nat → Nat → Int64} {a : Nat} {f : Nat → Int64} : zz_rL M a f a = f := if_pos rfl
theorem zz_rL_n {M : Nat → Nat → Int64} {a b : Nat} {f : Nat → Int64} (h : b ≠ a) : zz_rL M a f b = M b := if_neg h
-- classes
def zz_cok (ci : Nat) (C : String) (T : u_T) (N : Nat) : Prop := (∀ w ∈ u_ws C T N, w ∈ zz_TG) ∧ (∀ a, a < N → ∀ b, b < N → a ≠ b → (T a).2.1 ≠ (T b).2.1) ∧ (∀ k, k < N → zz_tag (T k).2.2.1 = zz_ft ci k ∧ zz_ft ci k < 4) ∧ Cond.instantiable C N ∈ zz_TG ∧ Cond.initialized C ∈ zz_TG
theorem zz_tag0 {d : String} (h : zz_tag d = 0) : parseFieldDescriptor d = some .int := by
  unfold zz_tag at h
  split at h <;> first | assumption | cases h
theorem zz_tag1 {d : String} (h : zz_tag d = 1) : parseFieldDescriptor d = some .long := by
  unfold zz_tag at h
  split at h <;> first | assumption | cases h
theorem zz_tag3 {d : String} (h : zz_tag d = 3) : parseFieldDescriptor d = some .boolean := by
  unfold zz_tag at h
  split at h <;> first | assumption | cases h
theorem zz_tag2 {d : String} (h : zz_tag d = 2) : (∃ n, parseFieldDescriptor d = some (.object n)) ∨ ∃ t, parseFieldDescriptor d = some (.array t) := by
  unfold zz_tag at h
  split at h <;> first | exact Or.inl ⟨_, by assumption⟩ | exact Or.inr ⟨_, by assumption⟩ | cases h
theorem zz_tag_some {d : String} (h : zz_tag d < 4) : parseFieldDescriptor d = some ((parseFieldDescriptor d).getD .int) := by
  cases hp : parseFieldDescriptor d with
  | none => simp [zz_tag, hp] at h
  | some t => rfl
theorem zz_cok0 : zz_cok 0 RX0 TX0 4 := ⟨by unfold zz_TG; intro w hw; exact List.mem_filter.mpr ((by decide +kernel : ∀ w ∈ u_ws RX0 TX0 4, w ∈ lw_tbl ∧ goodWord w = true) w hw), by decide +kernel, by decide +kernel, zz_tg (i := 261) (by decide +kernel) rfl, zz_tg (i := 76) (by decide +kernel) rfl⟩
theorem zz_cok1 : zz_cok 1 RX1 TX1 1 := ⟨by unfold zz_TG; intro w hw; exact List.mem_filter.mpr ((by decide +kernel : ∀ w ∈ u_ws RX1 TX1 1, w ∈ lw_tbl ∧ goodWord w = true) w hw), by decide +kernel, by decide +kernel, zz_tg (i := 249) (by decide +kernel) rfl, zz_tg (i := 75) (by decide +kernel) rfl⟩
theorem zz_cok2 : zz_cok 2 RX2 TX2 14 := ⟨by unfold zz_TG; intro w hw; exact List.mem_filter.mpr ((by decide +kernel : ∀ w ∈ u_ws RX2 TX2 14, w ∈ lw_tbl ∧ goodWord w = true) w hw), by decide +kernel, by decide +kernel, zz_tg (i := 145) (by decide +kernel) rfl, zz_tg (i := 72) (by decide +kernel) rfl⟩
theorem zz_cok3 : zz_cok 3 RX3 TX3 9 := ⟨by unfold zz_TG; intro w hw; exact List.mem_filter.mpr ((by decide +kernel : ∀ w ∈ u_ws RX3 TX3 9, w ∈ lw_tbl ∧ goodWord w = true) w hw), by decide +kernel, by decide +kernel, zz_tg (i := 215) (by decide +kernel) rfl, zz_tg (i := 74) (by decide +kernel) rfl⟩
theorem zz_cok4 : zz_cok 4 RX4 TX4 2 := ⟨by unfold zz_TG; intro w hw; exact List.mem_filter.mpr ((by decide +kernel : ∀ w ∈ u_ws RX4 TX4 2, w ∈ lw_tbl ∧ goodWord w = true) w hw), by decide +kernel, by decide +kernel, zz_tg (i := 200) (by decide +kernel) rfl, zz_tg (i := 73) (by decide +kernel) rfl⟩
theorem zz_cok5 : zz_cok 5 RX5 TX5 8 := ⟨by unfold zz_TG; intro w hw; exact List.mem_filter.mpr ((by decide +kernel : ∀ w ∈ u_ws RX5 TX5 8, w ∈ lw_tbl ∧ goodWord w = true) w hw), by decide +kernel, by decide +kernel, zz_tg (i := 107) (by decide +kernel) rfl, zz_tg (i := 71) (by decide +kernel) rfl⟩
theorem zz_cok6 : zz_cok 6 RX6 TX6 2 := ⟨by unfold zz_TG; intro w hw; exact List.mem_filter.mpr ((by decide +kernel : ∀ w ∈ u_ws RX6 TX6 2, w ∈ lw_tbl ∧ goodWord w = true) w hw), by decide +kernel, by decide +kernel, zz_tg (i := 91) (by decide +kernel) rfl, zz_tg (i := 70) (by decide +kernel) rfl⟩
theorem zz_cok7 : zz_cok 7 RX7 TX7 11 := ⟨by unfold zz_TG; intro w hw; exact List.mem_filter.mpr ((by decide +kernel : ∀ w ∈ u_ws RX7 TX7 11, w ∈ lw_tbl ∧ goodWord w = true) w hw), by decide +kernel, by decide +kernel, zz_tg (i := 83) (by decide +kernel) rfl, zz_tg (i := 69) (by decide +kernel) rfl⟩
theorem zz_cok8 : zz_cok 8 RX8 TX8 24 := ⟨by unfold zz_TG; intro w hw; exact List.mem_filter.mpr ((by decide +kernel : ∀ w ∈ u_ws RX8 TX8 24, w ∈ lw_tbl ∧ goodWord w = true) w hw), by decide +kernel, by decide +kernel, zz_tg (i := 975) (by decide +kernel) rfl, zz_tg (i := 77) (by decide +kernel) rfl⟩
theorem zz_cok_at {ci : Nat} {C : String} {T : u_T} {N : Nat} (h : vwCl[ci]? = some (C, T, N)) : zz_cok ci C T N := by
  match ci, h with
  | 0, h => cases h; exact zz_cok0
  | 1, h => cases h; exact zz_cok1
  | 2, h => cases h; exact zz_cok2
  | 3, h => cases h; exact zz_cok3
  | 4, h => cases h; exact zz_cok4
  | 5, h => cases h; exact zz_cok5
  | 6, h => cases h; exact zz_cok6
  | 7, h => cases h; exact zz_cok7
  | 8, h => cases h; exact zz_cok8
  | k + 9, h => simp [vwCl] at h
section ZF
variable {mt : List zz_Mt} {own : String} {y : MethodName} {cc : ByteArray} {ret : Option FieldType} {nL : Nat} {pcs : List Nat} {pc : Nat}
theorem zs_getI {ci k i N : Nat} {C : String} {T : u_T} (hcl : vwCl[ci]? = some (C, T, N)) (hk : k < N) (hft : zz_ft ci k = 0 ∨ zz_ft ci k = 3) (hlk : Cond.fieldLink own i (T k).1 (T k).2.1 (T k).2.2.1 ∈ zz_TG) (hd : decode cc pc = .ok (.getfield i, 3)) : zz_Snd mt own y cc ret nL pcs pc 3 (zi_getI ci k) := by
  intro p l e R s mi args below meth c Q D cy A g0 bc bs d J C K r hF hN hc1 hc2 hfr hlo hMS hJ hK hR ls st m h
  obtain ⟨a, t1, e1, h1⟩ := zz_pR_some h
  obtain ⟨s0, hs, hkd, h2⟩ := zz_ob_some h1
  obtain ⟨hb, h3⟩ := zz_b_some h2
  clear h h1 h2
  subst e1
  have hb := Nat.blt_eq.mp hb
  intro H locs La ad hc hi hn hl
  have he := zz_cw_at (cy := cy) (ad := ad) hs
  rw [zz_ce_ob hkd] at he
  exact va_get (v := .int (m.2.2.1 a k)) hF.1 hF.2.1 hF.2.2.2.2 (zz_cok_at hcl).1 hF.2.2.2.1 hc.1 hi.1 a he hcl k hk (hF.2.2.2.2 _ hlk) (fun _ hx => hx) (by rcases hft with hft | hft <;> simp [hb, hft, zz_fv]) hd (hK _ _ _ h3 H locs La ad hc hi hn hl)
theorem zs_getL {ci k i N : Nat} {C : String} {T : u_T} (hcl : vwCl[ci]? = some (C, T, N)) (hk : k < N) (hft : zz_ft ci k = 1) (hlk : Cond.fieldLink own i (T k).1 (T k).2.1 (T k).2.2.1 ∈ zz_TG) (hd : decode cc pc = .ok (.getfield i, 3)) : zz_Snd mt own y cc ret nL pcs pc 3 (zi_getL ci k) := by
  intro p l e R s mi args below meth c Q D cy A g0 bc bs d J C K r hF hN hc1 hc2 hfr hlo hMS hJ hK hR ls st m h
  obtain ⟨a, t1, e1, h1⟩ := zz_pR_some h
  obtain ⟨s0, hs, hkd, h2⟩ := zz_ob_some h1
  obtain ⟨hb, h3⟩ := zz_b_some h2
  clear h h1 h2
  subst e1
  have hb := Nat.blt_eq.mp hb
  intro H locs La ad hc hi hn hl
  have he := zz_cw_at (cy := cy) (ad := ad) hs
  rw [zz_ce_ob hkd] at he
  exact va_get (v := .long (m.2.2.2.1 a k)) hF.1 hF.2.1 hF.2.2.2.2 (zz_cok_at hcl).1 hF.2.2.2.1 hc.1 hi.1 a he hcl k hk (hF.2.2.2.2 _ hlk) (fun _ hx => hx) (by simp [hb, hft, zz_fv]) hd (hK _ _ _ h3 H locs La ad hc hi hn hl)
theorem zs_getR {ci k i N : Nat} {C : String} {T : u_T} (hcl : vwCl[ci]? = some (C, T, N)) (hk : k < N) (hft : zz_ft ci k = 2) (hlk : Cond.fieldLink own i (T k).1 (T k).2.1 (T k).2.2.1 ∈ zz_TG) (hd : decode cc pc = .ok (.getfield i, 3)) : zz_Snd mt own y cc ret nL pcs pc 3 (zi_getR ci k) := by
  intro p l e R s mi args below meth c Q D cy A g0 bc bs d J C K r hF hN hc1 hc2 hfr hlo hMS hJ hK hR ls st m h
  obtain ⟨a, t1, e1, h1⟩ := zz_pR_some h
  obtain ⟨s0, hs, hkd, h2⟩ := zz_ob_some h1
  obtain ⟨hb, h3⟩ := zz_b_some h2
  clear h h1 h2
  subst e1
  have hb := Nat.blt_eq.mp hb
  obtain ⟨o, ho, h4⟩ := zz_o_some h3
  obtain ⟨rr, er, h5⟩ := zz_o_some h4
  clear h3 h4
  subst er
  intro H locs La ad hc hi hn hl
  have he := zz_cw_at (cy := cy) (ad := ad) hs
  rw [zz_ce_ob hkd] at he
  exact va_get (v := .ref (ad rr)) hF.1 hF.2.1 hF.2.2.2.2 (zz_cok_at hcl).1 hF.2.2.2.1 hc.1 hi.1 a he hcl k hk (hF.2.2.2.2 _ hlk) (fun _ hx => hx) (by simp [hb, hft, zz_fv, List.getD_eq_getElem?_getD, ho, va_rf, zz_tr]) hd (hK _ _ _ h5 H locs La ad hc hi hn hl)
theorem zs_getIN {ci k i N : Nat} {C : String} {T : u_T} {host : String} (hcl : vwCl[ci]? = some (C, T, N)) (hk : k < N) (hft : zz_ft ci k = 0 ∨ zz_ft ci k = 3) (hlk : Cond.fieldLinkNest own i (T k).1 (T k).2.1 (T k).2.2.1 host ∈ lw_tbl) (hd : decode cc pc = .ok (.getfield i, 3)) : zz_Snd mt own y cc ret nL pcs pc 3 (zi_getI ci k) := by
  intro p l e R s mi args below meth c Q D cy A g0 bc bs d J C K r hF hN hc1 hc2 hfr hlo hMS hJ hK hR ls st m h
  obtain ⟨a, t1, e1, h1⟩ := zz_pR_some h
  obtain ⟨s0, hs, hkd, h2⟩ := zz_ob_some h1
  obtain ⟨hb, h3⟩ := zz_b_some h2
  clear h h1 h2
  subst e1
  have hb := Nat.blt_eq.mp hb
  intro H locs La ad hc hi hn hl
  have he := zz_cw_at (cy := cy) (ad := ad) hs
  rw [zz_ce_ob hkd] at he
  exact va_getN (v := .int (m.2.2.1 a k)) hF.1 hF.2.1 hF.2.2.2.2 (zz_cok_at hcl).1 hF.2.2.2.1 hc.1 hi.1 a he hcl k hk (va_Nw.use (w := Cond.fieldLinkNest own i (T k).1 (T k).2.1 (T k).2.2.1 host) rfl (hc.2.2.2.2.2.1 _ hlk rfl)) (fun _ hx => hx) (by rcases hft with hft | hft <;> simp [hb, hft, zz_fv]) hd (hK _ _ _ h3 H locs La ad hc hi hn hl)
theorem zs_getLN {ci k i N : Nat} {C : String} {T : u_T} {host : String} (hcl : vwCl[ci]? = some (C, T, N)) (hk : k < N) (hft : zz_ft ci k = 1) (hlk : Cond.fieldLinkNest own i (T k).1 (T k).2.1 (T k).2.2.1 host ∈ lw_tbl) (hd : decode cc pc = .ok (.getfield i, 3)) : zz_Snd mt own y cc ret nL pcs pc 3 (zi_getL ci k) := by
  intro p l e R s mi args below meth c Q D cy A g0 bc bs d J C K r hF hN hc1 hc2 hfr hlo hMS hJ hK hR ls st m h
  obtain ⟨a, t1, e1, h1⟩ := zz_pR_some h
  obtain ⟨s0, hs, hkd, h2⟩ := zz_ob_some h1
  obtain ⟨hb, h3⟩ := zz_b_some h2
  clear h h1 h2
  subst e1
  have hb := Nat.blt_eq.mp hb
  intro H locs La ad hc hi hn hl
  have he := zz_cw_at (cy := cy) (ad := ad) hs
  rw [zz_ce_ob hkd] at he
  exact va_getN (v := .long (m.2.2.2.1 a k)) hF.1 hF.2.1 hF.2.2.2.2 (zz_cok_at hcl).1 hF.2.2.2.1 hc.1 hi.1 a he hcl k hk (va_Nw.use (w := Cond.fieldLinkNest own i (T k).1 (T k).2.1 (T k).2.2.1 host) rfl (hc.2.2.2.2.2.1 _ hlk rfl)) (fun _ hx => hx) (by simp [hb, hft, zz_fv]) hd (hK _ _ _ h3 H locs La ad hc hi hn hl)
theorem zs_getRN {ci k i N : Nat} {C : String} {T : u_T} {host : String} (hcl : vwCl[ci]? = some (C, T, N)) (hk : k < N) (hft : zz_ft ci k = 2) (hlk : Cond.fieldLinkNest own i (T k).1 (T k).2.1 (T k).2.2.1 host ∈ lw_tbl) (hd : decode cc pc = .ok (.getfield i, 3)) : zz_Snd mt own y cc ret nL pcs pc 3 (zi_getR ci k) := by
  intro p l e R s mi args below meth c Q D cy A g0 bc bs d J C K r hF hN hc1 hc2 hfr hlo hMS hJ hK hR ls st m h
  obtain ⟨a, t1, e1, h1⟩ := zz_pR_some h
  obtain ⟨s0, hs, hkd, h2⟩ := zz_ob_some h1
  obtain ⟨hb, h3⟩ := zz_b_some h2
  clear h h1 h2
  subst e1
  have hb := Nat.blt_eq.mp hb
  obtain ⟨o, ho, h4⟩ := zz_o_some h3
  obtain ⟨rr, er, h5⟩ := zz_o_some h4
  clear h3 h4
  subst er
  intro H locs La ad hc hi hn hl
  have he := zz_cw_at (cy := cy) (ad := ad) hs
  rw [zz_ce_ob hkd] at he
  exact va_getN (v := .ref (ad rr)) hF.1 hF.2.1 hF.2.2.2.2 (zz_cok_at hcl).1 hF.2.2.2.1 hc.1 hi.1 a he hcl k hk (va_Nw.use (w := Cond.fieldLinkNest own i (T k).1 (T k).2.1 (T k).2.2.1 host) rfl (hc.2.2.2.2.2.1 _ hlk rfl)) (fun _ hx => hx) (by simp [hb, hft, zz_fv, List.getD_eq_getElem?_getD, ho, va_rf, zz_tr]) hd (hK _ _ _ h5 H locs La ad hc hi hn hl)
theorem zs_putI {ci k i N : Nat} {C : String} {T : u_T} (hcl : vwCl[ci]? = some (C, T, N)) (hk : k < N) (hft : zz_ft ci k = 0) (hfin : (T k).2.2.2 = false) (hlk : Cond.fieldLink own i (T k).1 (T k).2.1 (T k).2.2.1 ∈ zz_TG) (hd : decode cc pc = .ok (.putfield i, 3)) : zz_Snd mt own y cc ret nL pcs pc 3 (zi_putI ci k) := by
  intro p l e R s mi args below meth c Q D cy A g0 bc bs d J C K r hF hN hc1 hc2 hfr hlo hMS hJ hK hR ls st m h
  obtain ⟨x, t1, e1, h1⟩ := zz_pI_some h
  obtain ⟨a, t2, e2, h2⟩ := zz_pR_some h1
  obtain ⟨s0, hs, hkd, h3⟩ := zz_ob_some h2
  obtain ⟨hb, h4⟩ := zz_b_some h3
  clear h h1 h2 h3
  subst e2 e1
  have hb := Nat.blt_eq.mp hb
  intro H locs La ad hc hi hn hl
  have he := zz_cw_at (cy := cy) (ad := ad) hs
  rw [zz_ce_ob hkd] at he
  refine va_put (v := .int x) hF.1 hF.2.1 hF.2.2.2.2 (zz_cok_at hcl).1 (fun k => (parseFieldDescriptor (T k).2.2.1).getD .int) (fun k hk => zz_tag_some (by have := (zz_cok_at hcl).2.2.1 k hk; omega)) (zz_cok_at hcl).2.1 hF.2.2.2.1 hc.1 hi.1 hi.2.1 hi.2.2.1 a he hcl k hk (hF.2.2.2.2 _ hlk) (fun _ hx => hx) hfin (zz_tag0 (((zz_cok_at hcl).2.2.1 k hk).1.trans hft)) rfl rfl (by simpa using hb) hd (fun H1 locs1 hP hD hS => ?_)
  have hset : (zz_cw cy ad m).set a (ad a, .inr (ci, ((List.range s0.2.1).map (fun k => zz_fv ad (zz_ft ci k) (m.2.2.1 a k) (m.2.2.2.1 a k) (s0.2.2.getD k none))).set k (.int x))) = zz_cw cy ad (m.1, m.2.1, zz_wI m.2.2.1 a k x, m.2.2.2) := by
    rw [← zz_cw_set (cy := cy) (ad := ad) (m := m) (m' := (m.1, m.2.1, zz_wI m.2.2.1 a k x, m.2.2.2)) (a := a) (s' := s0) rfl hs (fun b hba => ⟨rfl, zz_rI_n hba, rfl⟩)]
    congr 2
    rw [zz_ce_ob hkd]
    congr 2
    refine zz_map_set ?_ (fun j hj => ?_)
    · simp [hft, zz_fv, zz_wI, zz_rI, upd]
    · simp [zz_wI, zz_rI, upd, hj]
  rw [hset] at hP hD
  exact hK _ _ _ h4 H1 locs1 La ad hc ⟨hP, hD, hS, hi.2.2.2.1, hi.2.2.2.2.1, hi.2.2.2.2.2⟩ hn hl
theorem zs_putZ {ci k i N : Nat} {C : String} {T : u_T} (hcl : vwCl[ci]? = some (C, T, N)) (hk : k < N) (hft : zz_ft ci k = 3) (hfin : (T k).2.2.2 = false) (hlk : Cond.fieldLink own i (T k).1 (T k).2.1 (T k).2.2.1 ∈ zz_TG) (hd : decode cc pc = .ok (.putfield i, 3)) : zz_Snd mt own y cc ret nL pcs pc 3 (zi_putZ ci k) := by
  intro p l e R s mi args below meth c Q D cy A g0 bc bs d J C K r hF hN hc1 hc2 hfr hlo hMS hJ hK hR ls st m h
  obtain ⟨x, t1, e1, h1⟩ := zz_pI_some h
  obtain ⟨a, t2, e2, h2⟩ := zz_pR_some h1
  obtain ⟨s0, hs, hkd, h3⟩ := zz_ob_some h2
  obtain ⟨hb, h4⟩ := zz_b_some h3
  clear h h1 h2 h3
  subst e2 e1
  have hb := Nat.blt_eq.mp hb
  split at h4
  case isFalse => cases h4
  rename_i hz
  intro H locs La ad hc hi hn hl
  have he := zz_cw_at (cy := cy) (ad := ad) hs
  rw [zz_ce_ob hkd] at he
  refine va_put (v := .int x) hF.1 hF.2.1 hF.2.2.2.2 (zz_cok_at hcl).1 (fun k => (parseFieldDescriptor (T k).2.2.1).getD .int) (fun k hk => zz_tag_some (by have := (zz_cok_at hcl).2.2.1 k hk; omega)) (zz_cok_at hcl).2.1 hF.2.2.2.1 hc.1 hi.1 hi.2.1 hi.2.2.1 a he hcl k hk (hF.2.2.2.2 _ hlk) (fun _ hx => hx) hfin (zz_tag3 (((zz_cok_at hcl).2.2.1 k hk).1.trans hft)) (by rcases hz with rfl | rfl <;> rfl) (by rcases hz with rfl | rfl <;> rfl) (by simpa using hb) hd (fun H1 locs1 hP hD hS => ?_)
  have hset : (zz_cw cy ad m).set a (ad a, .inr (ci, ((List.range s0.2.1).map (fun k => zz_fv ad (zz_ft ci k) (m.2.2.1 a k) (m.2.2.2.1 a k) (s0.2.2.getD k none))).set k (.int x))) = zz_cw cy ad (m.1, m.2.1, zz_wI m.2.2.1 a k x, m.2.2.2) := by
    rw [← zz_cw_set (cy := cy) (ad := ad) (m := m) (m' := (m.1, m.2.1, zz_wI m.2.2.1 a k x, m.2.2.2)) (a := a) (s' := s0) rfl hs (fun b hba => ⟨rfl, zz_rI_n hba, rfl⟩)]
    congr 2
    rw [zz_ce_ob hkd]
    congr 2
    refine zz_map_set ?_ (fun j hj => ?_)
    · simp [hft, zz_fv, zz_wI, zz_rI, upd]
    · simp [zz_wI, zz_rI, upd, hj]
  rw [hset] at hP hD
  exact hK _ _ _ h4 H1 locs1 La ad hc ⟨hP, hD, hS, hi.2.2.2.1, hi.2.2.2.2.1, hi.2.2.2.2.2⟩ hn hl
theorem zs_putL {ci k i N : Nat} {C : String} {T : u_T} (hcl : vwCl[ci]? = some (C, T, N)) (hk : k < N) (hft : zz_ft ci k = 1) (hfin : (T k).2.2.2 = false) (hlk : Cond.fieldLink own i (T k).1 (T k).2.1 (T k).2.2.1 ∈ zz_TG) (hd : decode cc pc = .ok (.putfield i, 3)) : zz_Snd mt own y cc ret nL pcs pc 3 (zi_putL ci k) := by
  intro p l e R s mi args below meth c Q D cy A g0 bc bs d J C K r hF hN hc1 hc2 hfr hlo hMS hJ hK hR ls st m h
  obtain ⟨x, t1, e1, h1⟩ := zz_pL_some h
  obtain ⟨a, t2, e2, h2⟩ := zz_pR_some h1
  obtain ⟨s0, hs, hkd, h3⟩ := zz_ob_some h2
  obtain ⟨hb, h4⟩ := zz_b_some h3
  clear h h1 h2 h3
  subst e2 e1
  have hb := Nat.blt_eq.mp hb
  intro H locs La ad hc hi hn hl
  have he := zz_cw_at (cy := cy) (ad := ad) hs
  rw [zz_ce_ob hkd] at he
  refine va_put (v := .long x) hF.1 hF.2.1 hF.2.2.2.2 (zz_cok_at hcl).1 (fun k => (parseFieldDescriptor (T k).2.2.1).getD .int) (fun k hk => zz_tag_some (by have := (zz_cok_at hcl).2.2.1 k hk; omega)) (zz_cok_at hcl).2.1 hF.2.2.2.1 hc.1 hi.1 hi.2.1 hi.2.2.1 a he hcl k hk (hF.2.2.2.2 _ hlk) (fun _ hx => hx) hfin (zz_tag1 (((zz_cok_at hcl).2.2.1 k hk).1.trans hft)) rfl rfl (by simpa using hb) hd (fun H1 locs1 hP hD hS => ?_)
  have hset : (zz_cw cy ad m).set a (ad a, .inr (ci, ((List.range s0.2.1).map (fun k => zz_fv ad (zz_ft ci k) (m.2.2.1 a k) (m.2.2.2.1 a k) (s0.2.2.getD k none))).set k (.long x))) = zz_cw cy ad (m.1, m.2.1, m.2.2.1, zz_wL m.2.2.2.1 a k x, m.2.2.2.2) := by
    rw [← zz_cw_set (cy := cy) (ad := ad) (m := m) (m' := (m.1, m.2.1, m.2.2.1, zz_wL m.2.2.2.1 a k x, m.2.2.2.2)) (a := a) (s' := s0) rfl hs (fun b hba => ⟨rfl, rfl, zz_rL_n hba⟩)]
    congr 2
    rw [zz_ce_ob hkd]
    congr 2
    refine zz_map_set ?_ (fun j hj => ?_)
    · simp [hft, zz_fv, zz_wL, zz_rL, vp_updL]
    · simp [zz_wL, zz_rL, vp_updL, hj]
  rw [hset] at hP hD
  exact hK _ _ _ h4 H1 locs1 La ad hc ⟨hP, hD, hS, hi.2.2.2.1, hi.2.2.2.2.1, hi.2.2.2.2.2⟩ hn hl
theorem zs_putRF {ci k i N : Nat} {C : String} {T : u_T} (hcl : vwCl[ci]? = some (C, T, N)) (hk : k < N) (hft : zz_ft ci k = 2) (hfin : (T k).2.2.2 = true) (hini : y.name = "<init>") (hdec : (T k).1 = own) (hlk : Cond.fieldLink own i (T k).1 (T k).2.1 (T k).2.2.1 ∈ zz_TG) (hd : decode cc pc = .ok (.putfield i, 3)) : zz_Snd mt own y cc ret nL pcs pc 3 (zi_putR ci k) := by
  intro p l e R s mi args below meth c Q D cy A g0 bc bs d J C K r hF hN hc1 hc2 hfr hlo hMS hJ hK hR ls st m h
  obtain ⟨x, t1, e1, h1⟩ := zz_pR_some h
  obtain ⟨a, t2, e2, h2⟩ := zz_pR_some h1
  obtain ⟨s0, hs, hkd, h3⟩ := zz_ob_some h2
  obtain ⟨hb, h4⟩ := zz_b_some h3
  clear h h1 h2 h3
  subst e2 e1
  obtain ⟨hb, hb2⟩ := Bool.and_eq_true_iff.mp hb
  have hb := Nat.blt_eq.mp hb
  have hb2 := Nat.blt_eq.mp hb2
  intro H locs La ad hc hi hn hl
  have he := zz_cw_at (cy := cy) (ad := ad) hs
  rw [zz_ce_ob hkd] at he
  have hl2 : a < m.2.1.length := (List.getElem?_eq_some_iff.mp hs).1
  have hset : ∀ D2 : Unit, (zz_cw cy ad m).set a (ad a, .inr (ci, ((List.range s0.2.1).map (fun k => zz_fv ad (zz_ft ci k) (m.2.2.1 a k) (m.2.2.2.1 a k) (s0.2.2.getD k none))).set k (.ref (ad x)))) = zz_cw cy ad (m.1, m.2.1.set a (s0.1, s0.2.1, s0.2.2.set k (some x)), m.2.2) := by
    intro _
    rw [← zz_cw_set (cy := cy) (ad := ad) (m := m) (m' := (m.1, m.2.1.set a (s0.1, s0.2.1, s0.2.2.set k (some x)), m.2.2)) (a := a) (s' := (s0.1, s0.2.1, s0.2.2.set k (some x))) (by simp) (by simp [hl2]) (fun b hba => ⟨by simp [List.getElem?_set_ne (Ne.symm hba)], rfl, rfl⟩)]
    congr 2
    rw [zz_ce_ob (s := (s0.1, s0.2.1, s0.2.2.set k (some x))) hkd]
    congr 2
    refine zz_map_set ?_ (fun j hj => ?_)
    · simp [hft, zz_fv, List.getD_eq_getElem?_getD, List.getElem?_set_self hb2, va_rf]
    · simp [List.getD_eq_getElem?_getD, List.getElem?_set_ne (Ne.symm hj)]
  have hgo : ∀ ty : FieldType, parseFieldDescriptor (T k).2.2.1 = some ty → narrow ty (.ref (ad x)) = .ref (ad x) → fits ty (.ref (ad x)) = true → W p l e R s mi args below meth c H locs (bc - m.2.2.2.2.1) (bs - m.2.2.2.2.2) Q (F0 mi pc La ((Value.ref x :: Value.ref a :: t2).map (zz_tr ad))) := by
    intro ty h1 h2 h3
    refine va_putF (v := .ref (ad x)) hF.1 hF.2.1 hF.2.2.2.2 (zz_cok_at hcl).1 (fun k => (parseFieldDescriptor (T k).2.2.1).getD .int) (fun k hk => zz_tag_some (by have := (zz_cok_at hcl).2.2.1 k hk; omega)) (zz_cok_at hcl).2.1 hF.2.2.2.1 hc.1 hi.1 hi.2.1 hi.2.2.1 a he hcl k hk (hF.2.2.2.2 _ hlk) (fun _ hx => hx) hfin (hN.trans hini) hdec h1 h2 h3 (by simpa using hb) hd (fun H1 locs1 hP hD hS => ?_)
    rw [hset ()] at hP hD
    exact hK _ _ _ h4 H1 locs1 La ad hc ⟨hP, hD, hS, hi.2.2.2.1, hi.2.2.2.2.1, by simpa using hi.2.2.2.2.2⟩ hn hl
  rcases zz_tag2 (((zz_cok_at hcl).2.2.1 k hk).1.trans hft) with ⟨n, hp⟩ | ⟨n, hp⟩
  · exact hgo _ hp rfl rfl
  · exact hgo _ hp rfl rfl
end ZF

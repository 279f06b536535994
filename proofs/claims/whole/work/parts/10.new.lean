/-! Constructors and new cells. -/
theorem zz_wv_tr {n n' : Nat} {ad ad' : Nat → Nat} (hag : ∀ k, k < n ∨ n' ≤ k → ad' k = ad k) (hn : n' ≤ 1000) {v : Value} (h : zz_wv n v = true) : zz_tr ad' v = zz_tr ad v := by
  cases v with
  | ref a =>
    show Value.ref (ad' a) = Value.ref (ad a)
    have h : (Nat.blt a n || Nat.ble 1000 a) = true := h
    rw [Bool.or_eq_true] at h
    rcases h with h | h
    · rw [hag a (Or.inl (Nat.blt_eq.mp h))]
    · rw [hag a (Or.inr (Nat.le_trans hn (Nat.le_of_ble_eq_true h)))]
  | _ => rfl
theorem zz_wl_st {n n' : Nat} {ad ad' : Nat → Nat} (hag : ∀ k, k < n ∨ n' ≤ k → ad' k = ad k) (hn : n' ≤ 1000) {st : List Value} (h : st.all (zz_wv n) = true) : st.map (zz_tr ad') = st.map (zz_tr ad) := List.map_congr_left fun v hv => zz_wv_tr hag hn (List.all_eq_true.mp h v hv)
theorem zz_wl_lv {n n' : Nat} {ad ad' : Nat → Nat} (hag : ∀ k, k < n ∨ n' ≤ k → ad' k = ad k) (hn : n' ≤ 1000) : ∀ {ls : zz_L} (i : Nat), ls.all (fun o => match o with
  | some v => zz_wv n v
  | none => true) = true → zz_lv ad' i ls = zz_lv ad i ls
  | [], i, _ => rfl
  | none :: r, i, h => by
    rw [zz_lv, zz_lv]
    exact zz_wl_lv hag hn (i + 1) (by simpa using h)
  | some v :: r, i, h => by
    rw [List.all_cons, Bool.and_eq_true] at h
    rw [zz_lv, zz_lv, zz_wv_tr hag hn h.1, zz_wl_lv hag hn (i + 1) h.2]
theorem zz_wo_map {n : Nat} {ad ad' : Nat → Nat} (hag : ∀ k, k < n → ad' k = ad k) {rs : List (Option Nat)} (h : rs.all (zz_wo n) = true) (j : Nat) : (rs.getD j none).map ad' = (rs.getD j none).map ad := by
  rw [List.getD_eq_getElem?_getD]
  cases ho : rs[j]? with
  | none => rfl
  | some o =>
    have := List.all_eq_true.mp h o (List.mem_of_getElem? ho)
    cases o with
    | none => rfl
    | some a =>
      have h : Nat.blt a n = true := this
      show some (ad' a) = some (ad a)
      rw [hag a (Nat.blt_eq.mp h)]
theorem zz_ce_ad {cy : Nat → ClassId} {n : Nat} {ad ad' : Nat → Nat} (hag : ∀ k, k < n → ad' k = ad k) {s : zz_S} (h : s.2.2.all (zz_wo n) = true) (f : Nat → Int32) (g : Nat → Int64) : zz_ce cy ad' s f g = zz_ce cy ad s f g := by
  have hh := zz_wo_map hag h
  unfold zz_ce
  split
  · rfl
  · rfl
  · rfl
  · simp only [hh]
  · simp only [zz_fv, hh]
/-- new cells behind the old -/
theorem zz_cw_app {cy : Nat → ClassId} {ad ad' : Nat → Nat} {m m' : zz_M} {X : List zz_S} {w : va_W} (hsh : m'.2.1 = m.2.1 ++ X) (hag : ∀ k, k < m.2.1.length → ad' k = ad k) (hwf : m.2.1.all (fun s => s.2.2.all (zz_wo m.2.1.length)) = true) (hM : ∀ a, a < m.2.1.length → m'.2.2.1 a = m.2.2.1 a ∧ m'.2.2.2.1 a = m.2.2.2.1 a)
    (hl : w.length = X.length) (hw : ∀ j s, X[j]? = some s → w[j]? = some (ad' (m.2.1.length + j), zz_ce cy ad' s (m'.2.2.1 (m.2.1.length + j)) (m'.2.2.2.1 (m.2.1.length + j)))) : zz_cw cy ad m ++ w = zz_cw cy ad' m' := by
  refine zz_cw_ext (ad' := ad) (by rw [List.length_append, zz_cw_len, hsh, List.length_append, hl]) (fun a s ha => ?_)
  rw [hsh] at ha
  by_cases h : a < m.2.1.length
  · rw [List.getElem?_append_left h] at ha
    rw [List.getElem?_append_left (by rw [zz_cw_len]; exact h), zz_cw_at ha, hag a h, (hM a h).1, (hM a h).2, zz_ce_ad hag (List.all_eq_true.mp hwf s (List.mem_of_getElem? ha))]
  · rw [List.getElem?_append_right (by omega)] at ha
    rw [List.getElem?_append_right (by rw [zz_cw_len]; omega), zz_cw_len, hw _ _ ha]
    rw [show m.2.1.length + (a - m.2.1.length) = a by omega]
theorem zz_wf_spec {n : Nat} {ls : zz_L} {st : List Value} {sh : List zz_S} (h : zz_wf n ls st sh = true) : n < 900 ∧ ls.all (fun o => match o with
  | some v => zz_wv n v
  | none => true) = true ∧ st.all (zz_wv n) = true ∧ sh.all (fun s => s.2.2.all (zz_wo n)) = true := by
  unfold zz_wf zz_wl at h
  simp only [Bool.and_eq_true] at h
  exact ⟨Nat.blt_eq.mp h.1.1, h.1.2.1, h.1.2.2, h.2⟩
section ZN
variable {mt : List zz_Mt} {own : String} {y : MethodName} {cc : ByteArray} {ret : Option FieldType} {nL : Nat} {pcs : List Nat} {pc : Nat}
theorem zs_oinit {i : Nat} (hw1 : Cond.methodLink own i objectInit ∈ zz_TG) (hw2 : Cond.instanceMethod objectInit ∈ zz_TG) (hw3 : Cond.code objectInit ⟨#[0xb1]⟩ 1 none ∈ zz_TG) (hd : decode cc pc = .ok (.invokespecial i, 3)) : zz_Snd mt own y cc ret nL pcs pc 3 zi_oinit := by
  intro p l e R s mi args below meth c Q D cy A g0 bc bs d J C K r hF hN hc1 hc2 hfr hlo hMS hJ hK hR ls st m h
  obtain ⟨a, t1, e1, h1⟩ := zz_pR_some h
  obtain ⟨hb, h2⟩ := zz_b_some h1
  have hb := Nat.le_of_ble_eq_true hb
  clear h h1
  subst e1
  intro H locs La ad hc hi hn hl
  exact W.objInit hF.1 hF.2.1 hF.2.2.2.1 (hF.2.2.2.2 _ hw1) (hF.2.2.2.2 _ hw2) (hF.2.2.2.2 _ hw3) rfl (hl.1.trans hF.2.2.1.symm) rfl hd (by omega) (by rw [zz_catsum]; show 2 * 0 + _ + 12 ≤ _; omega) (hK _ _ _ h2 H locs La ad hc hi hn hl)
theorem zs_callI {k n i t : Nat} {q : zz_Mt} (hq : mt[k]? = some q) (hck : zz_ck q n) (hret : q.2.2.2.1 = none) (hini : q.1.name = "<init>") (hw1 : Cond.methodLink own i q.1 ∈ zz_TG) (hw2 : Cond.instanceMethod q.1 ∈ zz_TG) (hw4 : Cond.initialized q.1.cls ∈ zz_TG) (ht : pcs[t]? = some (pc + 3)) (hd : decode cc pc = .ok (.invokespecial i, 3)) : zz_Snd mt own y cc ret nL pcs pc 3 (zi_callI k (n + 1) t) := by
  intro p l e R s mi args below meth c Q D cy A g0 bc bs d J C K r hF hN hc1 hc2 hfr hlo hMS hJ hK hR ls st m h
  obtain ⟨hb, h1⟩ := zz_b_some h
  obtain ⟨hb, -⟩ := Bool.and_eq_true_iff.mp hb
  have hb := Nat.le_of_ble_eq_true hb
  obtain ⟨v, hv, h2⟩ := zz_o_some h1
  obtain ⟨a, t1, e1, h3⟩ := zz_pR_some h2
  cases e1
  obtain ⟨r1, hC, h4⟩ := zz_o_some h3
  obtain ⟨hb4, h5⟩ := zz_b_some h4
  clear h h1 h2 h3 h4
  simp only [Bool.and_eq_true] at hb4
  obtain ⟨⟨hwl, hle1⟩, hle2⟩ := hb4
  have hle1 := Nat.le_of_ble_eq_true hle1
  have hle2 := Nat.le_of_ble_eq_true hle2
  unfold zz_wl at hwl
  rw [Bool.and_eq_true] at hwl
  obtain ⟨eT, eS⟩ := zz_take (n := n) (by simpa using hv)
  rw [eT] at hC
  intro H locs La ad hc hi hn hl
  obtain ⟨q', hq', g1, g2, g3, g4, g5, g6, hM⟩ := hMS _ _ _ _ hC hi.2.2.2.2.2.1
  cases hq.symm.trans hq'
  have hsize : ((st.take n).reverse.map (zz_tr ad)).length = n := by
    have := (List.getElem?_eq_some_iff.mp hv).1
    simp at this ⊢
    omega
  have hM' := hM D cy ad H.size
  rw [hret] at hM'
  have hrun := va_runI (e := e) (below := below) (meth := meth) (As := (st.take n).reverse.map (zz_tr ad)) (rest := (st.drop (n + 1)).map (zz_tr ad)) (b := ad a) (g := F0 mi pc La (st.map (zz_tr ad))) (H := H) (locs := locs) (cells := bc - m.2.2.2.2.1) (slots := bs - m.2.2.2.2.2) hF hM'
    (cwI (R := R) n hF.2.2.2.2 (zz_good (fun w hw => by
      rw [List.mem_singleton.mp hw, ← hret]
      exact hck.2.2)) rfl rfl rfl (hF.2.2.2.2 _ hw4) (hF.2.2.2.2 _ hw1) (hF.2.2.2.2 _ hw2) hini hck.1 ⟨by show d + 1 ≤ R.frames; exact hfr, by show 8 + (q.2.2.1 + 11) + 64 * d ≤ R.locals; have := hck.2.1; omega⟩)
    ⟨zz_blind D cy ad _ m H.size, fun U hU hW => zz_pre hc hi (Value.ref a :: (st.take n).reverse) U hU hW⟩
    rfl hsize hl.1 (by show st.map (zz_tr ad) = _; conv => lhs; rw [eS]
                       simp [zz_tr]) (lv_room (by rw [zz_catsum]; exact hb)) hd ⟨by rw [hc1]; have := hi.2.2.2.1; omega, by rw [hc2]; have := hi.2.2.2.2.1; omega⟩
  refine zz_call hrun hc hi (fun ad' H1 locs1 hag hP hD hS => ?_)
  rw [← zz_wl_st hag hle2 hwl.2, zz_ret_map]
  have hgo := hJ _ _ ht _ _ _ h5 H1 locs1 La ad' (by rw [g3]; exact hc.ad (fun k hk => hag k (Or.inr (by omega)))) ⟨hP, hD, hS, by rw [g4]; exact Nat.le_trans (Nat.sub_le _ _) hi.2.2.2.1, by rw [g5]; exact Nat.le_trans (Nat.sub_le _ _) hi.2.2.2.2.1, hi.2.2.2.2.2.step hle1 hle2 hag⟩ hn (by rw [zz_wl_lv hag hle2 0 hwl.1]; exact hl)
  rw [g4, g5, show bc - (m.2.2.2.2.1 - q.2.2.2.2.1) = bc - m.2.2.2.2.1 + q.2.2.2.2.1 by have := hi.2.2.2.1; omega, show bs - (m.2.2.2.2.2 - q.2.2.2.2.2) = bs - m.2.2.2.2.2 + q.2.2.2.2.2 by have := hi.2.2.2.2.1; omega] at hgo
  exact hgo
theorem zs_callIN {k n i t : Nat} {host : String} {q : zz_Mt} (hq : mt[k]? = some q) (hck : zz_ck q n) (hret : q.2.2.2.1 = none) (hini : q.1.name = "<init>") (hw1 : Cond.methodLinkNest own i q.1 host ∈ lw_tbl) (hw2 : Cond.instanceMethod q.1 ∈ zz_TG) (hw4 : Cond.initialized q.1.cls ∈ zz_TG) (ht : pcs[t]? = some (pc + 3)) (hd : decode cc pc = .ok (.invokespecial i, 3)) : zz_Snd mt own y cc ret nL pcs pc 3 (zi_callI k (n + 1) t) := by
  intro p l e R s mi args below meth c Q D cy A g0 bc bs d J C K r hF hN hc1 hc2 hfr hlo hMS hJ hK hR ls st m h
  obtain ⟨hb, h1⟩ := zz_b_some h
  obtain ⟨hb, -⟩ := Bool.and_eq_true_iff.mp hb
  have hb := Nat.le_of_ble_eq_true hb
  obtain ⟨v, hv, h2⟩ := zz_o_some h1
  obtain ⟨a, t1, e1, h3⟩ := zz_pR_some h2
  cases e1
  obtain ⟨r1, hC, h4⟩ := zz_o_some h3
  obtain ⟨hb4, h5⟩ := zz_b_some h4
  clear h h1 h2 h3 h4
  simp only [Bool.and_eq_true] at hb4
  obtain ⟨⟨hwl, hle1⟩, hle2⟩ := hb4
  have hle1 := Nat.le_of_ble_eq_true hle1
  have hle2 := Nat.le_of_ble_eq_true hle2
  unfold zz_wl at hwl
  rw [Bool.and_eq_true] at hwl
  obtain ⟨eT, eS⟩ := zz_take (n := n) (by simpa using hv)
  rw [eT] at hC
  intro H locs La ad hc hi hn hl
  obtain ⟨q', hq', g1, g2, g3, g4, g5, g6, hM⟩ := hMS _ _ _ _ hC hi.2.2.2.2.2.1
  cases hq.symm.trans hq'
  have hsize : ((st.take n).reverse.map (zz_tr ad)).length = n := by
    have := (List.getElem?_eq_some_iff.mp hv).1
    simp at this ⊢
    omega
  have hM' := hM D cy ad H.size
  rw [hret] at hM'
  have hrun := va_runIN (e := e) (below := below) (meth := meth) (As := (st.take n).reverse.map (zz_tr ad)) (rest := (st.drop (n + 1)).map (zz_tr ad)) (b := ad a) (g := F0 mi pc La (st.map (zz_tr ad))) (H := H) (locs := locs) (cells := bc - m.2.2.2.2.1) (slots := bs - m.2.2.2.2.2) hF hM'
    ⟨va_cnB (R := R) (host := host) (ret := none) n hF.2.2.2.2 (zz_good (fun w hw => by
      rw [List.mem_singleton.mp hw, ← hret]
      exact hck.2.2)) rfl rfl rfl (hc.2.2.2.2.2.1 _ hw1 rfl) (hF.2.2.2.2 _ hw4) hck.1 ⟨by show d + 1 ≤ R.frames; exact hfr, by show 8 + (q.2.2.1 + 11) + 64 * d ≤ R.locals; have := hck.2.1; omega⟩, hini, hF.2.2.2.2 _ hw2⟩
    ⟨zz_blind D cy ad _ m H.size, fun U hU hW => zz_pre hc hi (Value.ref a :: (st.take n).reverse) U hU hW⟩
    rfl hsize hl.1 (by show st.map (zz_tr ad) = _; conv => lhs; rw [eS]
                       simp [zz_tr]) (lv_room (by rw [zz_catsum]; exact hb)) hd ⟨by rw [hc1]; have := hi.2.2.2.1; omega, by rw [hc2]; have := hi.2.2.2.2.1; omega⟩
  refine zz_call hrun hc hi (fun ad' H1 locs1 hag hP hD hS => ?_)
  rw [← zz_wl_st hag hle2 hwl.2, zz_ret_map]
  have hgo := hJ _ _ ht _ _ _ h5 H1 locs1 La ad' (by rw [g3]; exact hc.ad (fun k hk => hag k (Or.inr (by omega)))) ⟨hP, hD, hS, by rw [g4]; exact Nat.le_trans (Nat.sub_le _ _) hi.2.2.2.1, by rw [g5]; exact Nat.le_trans (Nat.sub_le _ _) hi.2.2.2.2.1, hi.2.2.2.2.2.step hle1 hle2 hag⟩ hn (by rw [zz_wl_lv hag hle2 0 hwl.1]; exact hl)
  rw [g4, g5, show bc - (m.2.2.2.2.1 - q.2.2.2.2.1) = bc - m.2.2.2.2.1 + q.2.2.2.2.1 by have := hi.2.2.2.1; omega, show bs - (m.2.2.2.2.2 - q.2.2.2.2.2) = bs - m.2.2.2.2.2 + q.2.2.2.2.2 by have := hi.2.2.2.2.1; omega] at hgo
  exact hgo
theorem zz_dflt {ci k : Nat} {d : String} (h : zz_tag d = zz_ft ci k) (h4 : zz_ft ci k < 4) (ad : Nat → Nat) : defaultValue ((parseFieldDescriptor d).getD .int) = zz_fv ad (zz_ft ci k) 0 0 none := by
  have hc : zz_ft ci k = 0 ∨ zz_ft ci k = 1 ∨ zz_ft ci k = 2 ∨ zz_ft ci k = 3 := by omega
  rcases hc with e | e | e | e
  · rw [e] at h ⊢
    rw [zz_tag0 h]; rfl
  · rw [e] at h ⊢
    rw [zz_tag1 h]; rfl
  · rw [e] at h ⊢
    rcases zz_tag2 h with ⟨n, hp⟩ | ⟨n, hp⟩ <;> rw [hp] <;> rfl
  · rw [e] at h ⊢
    rw [zz_tag3 h]; rfl
theorem zs_new {ci i N : Nat} {C : String} {T : u_T} (hcl : vwCl[ci]? = some (C, T, N)) (hw : Cond.classLink own i C ∈ zz_TG) (hd : decode cc pc = .ok (.new i, 3)) : zz_Snd mt own y cc ret nL pcs pc 3 (zi_new ci N) := by
  intro p l e R s mi args below meth c Q D cy A g0 bc bs d J C K r hF hN hc1 hc2 hfr hlo hMS hJ hK hR ls st m h
  obtain ⟨hb, h1⟩ := zz_b_some h
  clear h
  simp only [Bool.and_eq_true] at hb
  obtain ⟨⟨hwf, hr1⟩, hr2⟩ := hb
  have hr1 := Nat.le_of_ble_eq_true hr1
  have hr2 := Nat.le_of_ble_eq_true hr2
  obtain ⟨w1, w2, w3, w4⟩ := zz_wf_spec hwf
  have hck := zz_cok_at hcl
  intro H locs La ad hc hi hn hl
  have hb1 := hi.2.2.2.1
  have hb2 := hi.2.2.2.2.1
  refine va_new (fs := (List.range N).map (fun k => zz_fv ad (zz_ft ci k) 0 0 none)) hF.1 hF.2.1 hF.2.2.2.2 hck.1 (fun k => (parseFieldDescriptor (T k).2.2.1).getD .int) (fun k hk => zz_tag_some (by have := hck.2.2.1 k hk; omega)) hF.2.2.2.1 (hF.2.2.2.2 _ hw) (hF.2.2.2.2 _ hck.2.2.2.1) (hF.2.2.2.2 _ hck.2.2.2.2) hc.1 hi.1 hi.2.1 hi.2.2.1 hc.2.1 hcl (fun j hj => ?_) (by rw [hc1]; omega) (by rw [hc2]; omega) hd (fun q H1 hP hD hS => ?_)
  · rw [zz_dflt (hck.2.2.1 j hj).1 (hck.2.2.1 j hj).2 ad]
    simp [vp_V, List.getD_eq_getElem?_getD, hj]
  · have hag : ∀ k, k < m.2.1.length ∨ m.2.1.length + 1 ≤ k → va_up ad m.2.1.length q k = ad k := fun k hk => if_neg (by omega)
    have hset : zz_cw cy ad m ++ [(q, .inr (ci, (List.range N).map (fun k => zz_fv ad (zz_ft ci k) 0 0 none)))] = zz_cw cy (va_up ad m.2.1.length q) (m.1, m.2.1 ++ [(ci + 4, N, List.replicate N none)], zz_rI m.2.2.1 m.2.1.length (fun _ => 0), zz_rL m.2.2.2.1 m.2.1.length (fun _ => 0), m.2.2.2.2.1 - 1, m.2.2.2.2.2 - N) := by
      refine zz_cw_app (X := [(ci + 4, N, List.replicate N none)]) rfl (fun k hk => hag k (Or.inl hk)) w4 (fun a ha => ⟨zz_rI_n (by omega), zz_rL_n (by omega)⟩) rfl (fun j s hj => ?_)
      have hj0 : j < 1 := (List.getElem?_eq_some_iff.mp hj).1
      have : j = 0 := by omega
      subst this
      cases hj
      rw [zz_ce_ob rfl]
      simp only [Nat.add_zero, List.getElem?_cons_zero]
      rw [show va_up ad m.2.1.length q m.2.1.length = q from if_pos rfl, zz_rI_s, zz_rL_s]
      congr 5
      funext k
      have : (List.replicate N (none : Option Nat)).getD k none = none := by
        rw [List.getD_eq_getElem?_getD, List.getElem?_replicate]
        split <;> rfl
      simp only [this]
      unfold zz_fv
      split <;> rfl
    rw [hset] at hP hD
    have hgo := hK _ _ _ h1 H1 locs La (va_up ad m.2.1.length q) (hc.ad (fun k hk => hag k (Or.inr (by omega)))) ⟨hP, hD, hS, by show m.2.2.2.2.1 - 1 ≤ bc; omega, by show m.2.2.2.2.2 - N ≤ bs; omega, hi.2.2.2.2.2.step (by simp) (by simp; omega) (by simpa using hag)⟩ hn (by rw [zz_wl_lv hag (by omega) 0 w2]; exact hl)
    have e1 : bc - (m.2.2.2.2.1 - 1) = bc - m.2.2.2.2.1 + 1 := by omega
    have e2 : bs - (m.2.2.2.2.2 - N) = bs - m.2.2.2.2.2 + N := by omega
    simp only [e1, e2] at hgo
    rw [List.map_cons, zz_wl_st hag (by omega) w3] at hgo
    rw [show zz_tr (va_up ad m.2.1.length q) (Value.ref m.2.1.length) = .ref q from congrArg Value.ref (if_pos rfl)] at hgo
    exact hgo
theorem zs_newa0 (hw : Cond.arrayClass .int ∈ zz_TG) (hd : decode cc pc = .ok (.newarray .int, 2)) : zz_Snd mt own y cc ret nL pcs pc 2 (zi_newa 0) := by
  intro p l e R s mi args below meth c Q D cy A g0 bc bs d J C K r hF hN hc1 hc2 hfr hlo hMS hJ hK hR ls st m h
  obtain ⟨x, t1, e1, h0⟩ := zz_pI_some h
  obtain ⟨hb, h1⟩ := zz_b_some h0
  clear h h0
  subst e1
  simp only [Bool.and_eq_true, decide_eq_true_eq] at hb
  obtain ⟨⟨⟨⟨hwf, hx0⟩, hx1⟩, hr1⟩, hr2⟩ := hb
  have hx1 := Nat.le_of_ble_eq_true hx1
  have hr1 := Nat.le_of_ble_eq_true hr1
  have hr2 := Nat.le_of_ble_eq_true hr2
  obtain ⟨w1, w2, w3, w4⟩ := zz_wf_spec hwf
  intro H locs La ad hc hi hn hl
  have hb1 := hi.2.2.2.1
  have hb2 := hi.2.2.2.2.1
  have hby : x.toNatClampNeg * componentBytes .int ≤ 536870912 := Nat.le_trans (Nat.mul_le_mul hx1 (show componentBytes .int ≤ 8 by decide)) (by decide)
  refine va_newa (atype := .int) (ty := .int) (a0 := (x.toNatClampNeg, .inl (fun _ => 0))) hF.1 hF.2.1 (hF.2.2.2.2 _ hw) rfl hc.1 hi.1 hi.2.1 hi.2.2.1 hc.2.1 (fun _ => rfl) hx0 rfl hby (by rw [hc1]; omega) (by rw [hc2]; omega) hd (fun q cA H1 hKn hP hD hS => ?_)
  have hcA : cA = cy 0 := by
    have a1 : s.vm.findClass _ = some cA := (hKn.2 4 (cA, .int) rfl).2
    have a2 : s.vm.findClass _ = some (cy 0) := (hc.1.2 0 _ rfl).2
    exact Option.some.inj (a1.symm.trans a2)
  subst hcA
  have hag : ∀ k, k < m.2.1.length ∨ m.2.1.length + 1 ≤ k → va_up ad m.2.1.length q k = ad k := fun k hk => if_neg (by omega)
  have hset : zz_cw cy ad m ++ [(q, .inl (cy 0, x.toNatClampNeg, .inl (fun _ => 0)))] = zz_cw cy (va_up ad m.2.1.length q) (m.1, m.2.1 ++ [(0, x.toNatClampNeg, [])], zz_rI m.2.2.1 m.2.1.length (fun _ => 0), zz_rL m.2.2.2.1 m.2.1.length (fun _ => 0), m.2.2.2.2.1 - 1, m.2.2.2.2.2 - x.toNatClampNeg) := by
    refine zz_cw_app (X := [(0, x.toNatClampNeg, [])]) rfl (fun k hk => hag k (Or.inl hk)) w4 (fun a ha => ⟨zz_rI_n (by omega), zz_rL_n (by omega)⟩) rfl (fun j s hj => ?_)
    have hj0 : j < 1 := (List.getElem?_eq_some_iff.mp hj).1
    have : j = 0 := by omega
    subst this
    cases hj
    rw [zz_ce_0 rfl]
    simp only [Nat.add_zero, List.getElem?_cons_zero]
    rw [show va_up ad m.2.1.length q m.2.1.length = q from if_pos rfl, zz_rI_s]
  rw [hset] at hP hD
  have hgo := hK _ _ _ h1 H1 locs La (va_up ad m.2.1.length q) (hc.ad (fun k hk => hag k (Or.inr (by omega)))) ⟨hP, hD, hS, by show m.2.2.2.2.1 - 1 ≤ bc; omega, by show m.2.2.2.2.2 - x.toNatClampNeg ≤ bs; omega, hi.2.2.2.2.2.step (by simp) (by simp; omega) (by simpa using hag)⟩ hn (by rw [zz_wl_lv hag (by omega) 0 w2]; exact hl)
  have e1 : bc - (m.2.2.2.2.1 - 1) = bc - m.2.2.2.2.1 + 1 := by omega
  have e2 : bs - (m.2.2.2.2.2 - x.toNatClampNeg) = bs - m.2.2.2.2.2 + x.toNatClampNeg := by omega
  simp only [e1, e2] at hgo
  rw [List.map_cons, zz_wl_st hag (by omega) w3] at hgo
  rw [show zz_tr (va_up ad m.2.1.length q) (Value.ref m.2.1.length) = .ref q from congrArg Value.ref (if_pos rfl)] at hgo
  exact hgo
theorem zs_newa1 (hw : Cond.arrayClass .long ∈ zz_TG) (hd : decode cc pc = .ok (.newarray .long, 2)) : zz_Snd mt own y cc ret nL pcs pc 2 (zi_newa 1) := by
  intro p l e R s mi args below meth c Q D cy A g0 bc bs d J C K r hF hN hc1 hc2 hfr hlo hMS hJ hK hR ls st m h
  obtain ⟨x, t1, e1, h0⟩ := zz_pI_some h
  obtain ⟨hb, h1⟩ := zz_b_some h0
  clear h h0
  subst e1
  simp only [Bool.and_eq_true, decide_eq_true_eq] at hb
  obtain ⟨⟨⟨⟨hwf, hx0⟩, hx1⟩, hr1⟩, hr2⟩ := hb
  have hx1 := Nat.le_of_ble_eq_true hx1
  have hr1 := Nat.le_of_ble_eq_true hr1
  have hr2 := Nat.le_of_ble_eq_true hr2
  obtain ⟨w1, w2, w3, w4⟩ := zz_wf_spec hwf
  intro H locs La ad hc hi hn hl
  have hb1 := hi.2.2.2.1
  have hb2 := hi.2.2.2.2.1
  have hby : x.toNatClampNeg * componentBytes .long ≤ 536870912 := Nat.le_trans (Nat.mul_le_mul hx1 (show componentBytes .long ≤ 8 by decide)) (by decide)
  refine va_newa (atype := .long) (ty := .long) (a0 := (x.toNatClampNeg, .inr (.inl (fun _ => 0)))) hF.1 hF.2.1 (hF.2.2.2.2 _ hw) rfl hc.1 hi.1 hi.2.1 hi.2.2.1 hc.2.1 (fun _ => rfl) hx0 rfl hby (by rw [hc1]; omega) (by rw [hc2]; omega) hd (fun q cA H1 hKn hP hD hS => ?_)
  have hcA : cA = cy 1 := by
    have a1 : s.vm.findClass _ = some cA := (hKn.2 4 (cA, .long) rfl).2
    have a2 : s.vm.findClass _ = some (cy 1) := (hc.1.2 1 _ rfl).2
    exact Option.some.inj (a1.symm.trans a2)
  subst hcA
  have hag : ∀ k, k < m.2.1.length ∨ m.2.1.length + 1 ≤ k → va_up ad m.2.1.length q k = ad k := fun k hk => if_neg (by omega)
  have hset : zz_cw cy ad m ++ [(q, .inl (cy 1, x.toNatClampNeg, .inr (.inl (fun _ => 0))))] = zz_cw cy (va_up ad m.2.1.length q) (m.1, m.2.1 ++ [(1, x.toNatClampNeg, [])], zz_rI m.2.2.1 m.2.1.length (fun _ => 0), zz_rL m.2.2.2.1 m.2.1.length (fun _ => 0), m.2.2.2.2.1 - 1, m.2.2.2.2.2 - x.toNatClampNeg) := by
    refine zz_cw_app (X := [(1, x.toNatClampNeg, [])]) rfl (fun k hk => hag k (Or.inl hk)) w4 (fun a ha => ⟨zz_rI_n (by omega), zz_rL_n (by omega)⟩) rfl (fun j s hj => ?_)
    have hj0 : j < 1 := (List.getElem?_eq_some_iff.mp hj).1
    have : j = 0 := by omega
    subst this
    cases hj
    rw [zz_ce_1 rfl]
    simp only [Nat.add_zero, List.getElem?_cons_zero]
    rw [show va_up ad m.2.1.length q m.2.1.length = q from if_pos rfl, zz_rL_s]
  rw [hset] at hP hD
  have hgo := hK _ _ _ h1 H1 locs La (va_up ad m.2.1.length q) (hc.ad (fun k hk => hag k (Or.inr (by omega)))) ⟨hP, hD, hS, by show m.2.2.2.2.1 - 1 ≤ bc; omega, by show m.2.2.2.2.2 - x.toNatClampNeg ≤ bs; omega, hi.2.2.2.2.2.step (by simp) (by simp; omega) (by simpa using hag)⟩ hn (by rw [zz_wl_lv hag (by omega) 0 w2]; exact hl)
  have e1 : bc - (m.2.2.2.2.1 - 1) = bc - m.2.2.2.2.1 + 1 := by omega
  have e2 : bs - (m.2.2.2.2.2 - x.toNatClampNeg) = bs - m.2.2.2.2.2 + x.toNatClampNeg := by omega
  simp only [e1, e2] at hgo
  rw [List.map_cons, zz_wl_st hag (by omega) w3] at hgo
  rw [show zz_tr (va_up ad m.2.1.length q) (Value.ref m.2.1.length) = .ref q from congrArg Value.ref (if_pos rfl)] at hgo
  exact hgo
theorem zs_newa2 (hw : Cond.arrayClass .boolean ∈ zz_TG) (hd : decode cc pc = .ok (.newarray .boolean, 2)) : zz_Snd mt own y cc ret nL pcs pc 2 (zi_newa 2) := by
  intro p l e R s mi args below meth c Q D cy A g0 bc bs d J C K r hF hN hc1 hc2 hfr hlo hMS hJ hK hR ls st m h
  obtain ⟨x, t1, e1, h0⟩ := zz_pI_some h
  obtain ⟨hb, h1⟩ := zz_b_some h0
  clear h h0
  subst e1
  simp only [Bool.and_eq_true, decide_eq_true_eq] at hb
  obtain ⟨⟨⟨⟨hwf, hx0⟩, hx1⟩, hr1⟩, hr2⟩ := hb
  have hx1 := Nat.le_of_ble_eq_true hx1
  have hr1 := Nat.le_of_ble_eq_true hr1
  have hr2 := Nat.le_of_ble_eq_true hr2
  obtain ⟨w1, w2, w3, w4⟩ := zz_wf_spec hwf
  intro H locs La ad hc hi hn hl
  have hb1 := hi.2.2.2.1
  have hb2 := hi.2.2.2.2.1
  have hby : x.toNatClampNeg * componentBytes .boolean ≤ 536870912 := Nat.le_trans (Nat.mul_le_mul hx1 (show componentBytes .boolean ≤ 8 by decide)) (by decide)
  refine va_newa (atype := .boolean) (ty := .boolean) (a0 := (x.toNatClampNeg, .inl (fun _ => 0))) hF.1 hF.2.1 (hF.2.2.2.2 _ hw) rfl hc.1 hi.1 hi.2.1 hi.2.2.1 hc.2.1 (fun _ => rfl) hx0 rfl hby (by rw [hc1]; omega) (by rw [hc2]; omega) hd (fun q cA H1 hKn hP hD hS => ?_)
  have hcA : cA = cy 2 := by
    have a1 : s.vm.findClass _ = some cA := (hKn.2 4 (cA, .boolean) rfl).2
    have a2 : s.vm.findClass _ = some (cy 2) := (hc.1.2 2 _ rfl).2
    exact Option.some.inj (a1.symm.trans a2)
  subst hcA
  have hag : ∀ k, k < m.2.1.length ∨ m.2.1.length + 1 ≤ k → va_up ad m.2.1.length q k = ad k := fun k hk => if_neg (by omega)
  have hset : zz_cw cy ad m ++ [(q, .inl (cy 2, x.toNatClampNeg, .inl (fun _ => 0)))] = zz_cw cy (va_up ad m.2.1.length q) (m.1, m.2.1 ++ [(2, x.toNatClampNeg, [])], zz_rI m.2.2.1 m.2.1.length (fun _ => 0), zz_rL m.2.2.2.1 m.2.1.length (fun _ => 0), m.2.2.2.2.1 - 1, m.2.2.2.2.2 - x.toNatClampNeg) := by
    refine zz_cw_app (X := [(2, x.toNatClampNeg, [])]) rfl (fun k hk => hag k (Or.inl hk)) w4 (fun a ha => ⟨zz_rI_n (by omega), zz_rL_n (by omega)⟩) rfl (fun j s hj => ?_)
    have hj0 : j < 1 := (List.getElem?_eq_some_iff.mp hj).1
    have : j = 0 := by omega
    subst this
    cases hj
    rw [zz_ce_2 rfl]
    simp only [Nat.add_zero, List.getElem?_cons_zero]
    rw [show va_up ad m.2.1.length q m.2.1.length = q from if_pos rfl, zz_rI_s]
  rw [hset] at hP hD
  have hgo := hK _ _ _ h1 H1 locs La (va_up ad m.2.1.length q) (hc.ad (fun k hk => hag k (Or.inr (by omega)))) ⟨hP, hD, hS, by show m.2.2.2.2.1 - 1 ≤ bc; omega, by show m.2.2.2.2.2 - x.toNatClampNeg ≤ bs; omega, hi.2.2.2.2.2.step (by simp) (by simp; omega) (by simpa using hag)⟩ hn (by rw [zz_wl_lv hag (by omega) 0 w2]; exact hl)
  have e1 : bc - (m.2.2.2.2.1 - 1) = bc - m.2.2.2.2.1 + 1 := by omega
  have e2 : bs - (m.2.2.2.2.2 - x.toNatClampNeg) = bs - m.2.2.2.2.2 + x.toNatClampNeg := by omega
  simp only [e1, e2] at hgo
  rw [List.map_cons, zz_wl_st hag (by omega) w3] at hgo
  rw [show zz_tr (va_up ad m.2.1.length q) (Value.ref m.2.1.length) = .ref q from congrArg Value.ref (if_pos rfl)] at hgo
  exact hgo
end ZN

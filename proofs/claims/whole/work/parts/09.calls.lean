/-! Calls. -/
theorem zz_con.same {D : va_G} {cy : Nat → ClassId} {A : Nat → Prop} {U V : State} {ro : Nat → Nat × (Nat → Int32)} {ad : Nat → Nat} (hW : U.WarmedH V.vm) (hh : V.heap = U.heap) (h : zz_con D cy A U ro ad) : zz_con D cy A V ro ad := by
  obtain ⟨h1, h2, h3, h4, h5⟩ := h
  refine ⟨va_K.moved hW.alike h1, by rw [hh]; exact h2, fun j hj => ?_, fun j hj => ?_, h5.moved hW⟩
  · rw [hh]
    exact (h3 j hj).moved hW.alike
  · rw [hh]
    exact (h4 j hj).moved hW.alike
theorem zz_con.ad {D : va_G} {cy : Nat → ClassId} {A : Nat → Prop} {U : State} {ro : Nat → Nat × (Nat → Int32)} {ad ad' : Nat → Nat} (h : zz_con D cy A U ro ad) (he : ∀ k, 1000 ≤ k → ad' k = ad k) : zz_con D cy A U ro ad' := by
  obtain ⟨h1, h2, h3, h4, h5⟩ := h
  refine ⟨h1, h2, fun j hj => ?_, fun j hj => ?_, h5⟩
  · rw [he (1000 + j) (by omega)]
    exact h3 j hj
  · rw [he (1000 + j) (by omega)]
    exact h4 j hj
theorem zz_blind (D : va_G) (cy : Nat → ClassId) (ad : Nat → Nat) (as : List Value) (m : zz_M) (sz : Nat) : FrameBlind (zz_Pc D cy ad as m sz) := by
  intro a U g mk q
  obtain ⟨e1, q1, q2, q3, q4⟩ := q
  exact ⟨e1, q1, q2, q3, zz_con.same (U := U) (V := U.calling g mk a) (State.WarmedH.refl U) rfl q4⟩
theorem zz_subA {D : va_G} {cy : Nat → ClassId} {A : Nat → Prop} {g0 : (Nat → Nat) × Nat} {s : State} {H : Heap} {locs : List Loc} {bc bs : Nat} {ad : Nat → Nat} {m : zz_M} (hc : zz_con D cy A s m.1 ad) (hi : zz_inv D cy A g0 s H locs bc bs ad m) : ∀ q, va_A (zz_cw cy ad m) H.size q → A q := by
  intro q h
  rcases h with ⟨k, e, h⟩ | h
  · exact hi.2.1.2 k (q, e) h
  · exact hc.2.1 q (Nat.le_trans hi.2.2.1.1 h)
theorem zz_pre {D : va_G} {cy : Nat → ClassId} {A : Nat → Prop} {g0 : (Nat → Nat) × Nat} {s : State} {H : Heap} {locs : List Loc} {bc bs : Nat} {ad : Nat → Nat} {m : zz_M} (hc : zz_con D cy A s m.1 ad) (hi : zz_inv D cy A g0 s H locs bc bs ad m) (as : List Value) (U : State) (hU : U.heap = H) (hW : s.WarmedH U.vm) : zz_Pc D cy ad as m H.size (as.map (zz_tr ad)).toArray U := by
  have hsub := zz_subA hc hi
  obtain ⟨h1, h2, h3, h4, h5⟩ := hc
  obtain ⟨i1, i2, i3, -⟩ := hi
  refine ⟨rfl, by rw [hU], by rw [hU]; exact i1, i2.weaken (fun _ _ _ _ => trivial), va_K.moved hW.alike h1, fun q hq => Or.inr (by rw [hU] at hq; exact hq), fun j hj => ?_, fun j hj => ?_, h5.moved hW⟩
  · rw [hU]
    exact (((h3 j hj).kept (fun a g1 g2 => i3.2.1 a g1 g2)).narrow hsub).moved hW.alike
  · rw [hU]
    exact (((h4 j hj).kept (fun a g1 g2 => i3.2.1 a g1 g2)).narrow hsub).moved hW.alike
theorem zz_good {ws : List Cond} (h : ∀ w ∈ ws, w ∈ zz_TG) : GoodIn zz_TG ws := fun w hw => ⟨h w hw, good_of_word (List.mem_filter.mp (h w hw)).2⟩
section ZC
variable {p : Program} {l : Launch} {e : Env} {R : Room} {s : State} {mi : MethodId} {args : Array Value} {below : List Frame} {meth : Method} {c : Code} {Q : State → Prop} {D : va_G} {cy : Nat → ClassId} {A : Nat → Prop} {g0 : (Nat → Nat) × Nat} {bc bs : Nat} {H : Heap} {locs : List Loc} {cells slots mc ms pc : Nat} {La : Array Slot} {st0 rest : List Value} {ad : Nat → Nat} {m : zz_M} {r : zz_R} {a : Array Value}
theorem zz_call (hr : va_Run p l e R s mi args below meth c H locs cells slots mc ms (F0 mi pc La st0) rest (zz_Qc D cy ad m r H.size a) (va_A (zz_cw cy ad m) H.size)) (hc : zz_con D cy A s m.1 ad) (hi : zz_inv D cy A g0 s H locs bc bs ad m)
    (kk : ∀ (ad' : Nat → Nat) (H1 : Heap) (locs1 : List Loc), (∀ k, k < m.2.1.length ∨ r.2.2.1.length ≤ k → ad' k = ad k) → va_P D vwCl (zz_cw cy ad' r.2) H1 → va_D A (zz_cw cy ad' r.2) → va_S A s.heap H1 locs1 → W p l e R s mi args below meth c H1 locs1 (cells + mc) (slots + ms) Q (F0 mi (pc + 3) La ((r.1.map (zz_tr ad')).toList ++ rest))) :
    W p l e R s mi args below meth c H locs cells slots Q (F0 mi pc La st0) := by
  have hsub := zz_subA hc hi
  have hS := hi.2.2.1
  intro T hT X
  obtain ⟨v, st₀, t, T', L, h0, X', hL, e1, e2, ⟨ad', hag, hv, hP, hD, hz, hk⟩, st⟩ := hr T hT X
  cases hv
  rw [h0] at hz hk
  obtain ⟨t2, a1, b1⟩ := kk ad' T'.heap (locs ++ L) hag (by rw [e1]; exact hP) (hD.weaken (fun k q _ h => hsub _ h))
    ⟨Nat.le_trans hS.1 (by rw [e1]; exact hz), fun q h1 h2 => by rw [e1, hk q (Nat.lt_of_lt_of_le h1 hS.1) (fun z => h2 (hsub q z))]; exact hS.2.1 q h1 h2, fun q hq => by
      rcases List.mem_append.mp hq with h | h
      · exact hS.2.2 q h
      · exact hsub _ (hL q h)⟩ T' rfl X'
  exact ⟨t2, st t2 a1, b1⟩
end ZC
theorem zz_catsum (ad : Nat → Nat) (st : List Value) : ((st.map (zz_tr ad)).map fun v => v.category).sum = (st.map Value.category).sum := by
  rw [List.map_map]
  congr 1
  apply List.map_congr_left
  intro v _
  exact zz_tr_cat ad v
theorem zz_ret_map (ad : Nat → Nat) (o : Option Value) (st : List Value) : (o.map (zz_tr ad)).toList ++ st.map (zz_tr ad) = (o.toList ++ st).map (zz_tr ad) := by cases o <;> rfl
theorem zz_take {st : List Value} {n : Nat} {v : Value} (h : st[n]? = some v) : (st.take (n + 1)).reverse = v :: (st.take n).reverse ∧ st = st.take n ++ v :: st.drop (n + 1) := by
  obtain ⟨hl, he⟩ := List.getElem?_eq_some_iff.mp h
  refine ⟨by rw [List.take_succ_eq_append_getElem hl, he]; simp, ?_⟩
  rw [← he]
  simp
theorem zz_ad_eq {ad ad' : Nat → Nat} {n n' : Nat} (hag : ∀ k, k < n ∨ n' ≤ k → ad' k = ad k) (h : n' = n) : ad' = ad := funext fun k => hag k (by omega)
section ZD
variable {mt : List zz_Mt} {own : String} {y : MethodName} {cc : ByteArray} {ret : Option FieldType} {nL : Nat} {pcs : List Nat} {pc : Nat}
/-- the words and numbers of a callee -/
def zz_ck (q : zz_Mt) (n : Nat) : Prop := (q.1.cls ≠ "java/lang/invoke/MethodHandle" ∧ q.1.cls ≠ "java/lang/invoke/VarHandle" ∧ (parseMethodDescriptor q.1.desc).map (fun d => d.parameters.length) = some n) ∧ q.2.2.1 ≤ 45 ∧ Cond.code q.1 q.2.1 q.2.2.1 q.2.2.2.1 ∈ zz_TG
theorem zs_callV {ci k n i t N : Nat} {C : String} {T : u_T} {q : zz_Mt} (hcl : vwCl[ci]? = some (C, T, N)) (hq : mt[k]? = some q) (hqc : q.1.cls = C) (hq0 : q.2.2.2.2.1 = 0 ∧ q.2.2.2.2.2 = 0) (hck : zz_ck q n) (hw1 : Cond.methodLink own i q.1 ∈ zz_TG) (hw2 : Cond.instanceMethod q.1 ∈ zz_TG) (hw3 : Cond.selects C q.1 q.1 ∈ zz_TG) (ht : pcs[t]? = some (pc + 3)) (hd : decode cc pc = .ok (.invokevirtual i, 3)) : zz_Snd mt own y cc ret nL pcs pc 3 (zi_callV ci k (n + 1) t) := by
  intro p l e R s mi args below meth c Q D cy A g0 bc bs d J C K r hF hN hc1 hc2 hfr hlo hMS hJ hK hR ls st m h
  obtain ⟨hb, h1⟩ := zz_b_some h
  have hb := Nat.le_of_ble_eq_true hb
  obtain ⟨v, hv, h2⟩ := zz_o_some h1
  obtain ⟨a, t1, e1, h3⟩ := zz_pR_some h2
  cases e1
  obtain ⟨s0, hs, hkd, h4⟩ := zz_ob_some h3
  obtain ⟨r1, hC, h5⟩ := zz_o_some h4
  clear h h1 h2 h3 h4
  obtain ⟨eT, eS⟩ := zz_take (n := n) (by simpa using hv)
  rw [eT] at hC
  intro H locs La ad hc hi hn hl
  obtain ⟨q', hq', g1, g2, g3, g4, g5, g6, hM⟩ := hMS _ _ _ _ hC hi.2.2.2.2.2.1
  cases hq.symm.trans hq'
  have he := zz_cw_at (cy := cy) (ad := ad) hs
  rw [zz_ce_ob hkd] at he
  have hsize : ((st.take n).reverse.map (zz_tr ad)).length = n := by
    have := (List.getElem?_eq_some_iff.mp hv).1
    simp at this ⊢
    omega
  have hrun := va_runV (e := e) (below := below) (meth := meth) (As := (st.take n).reverse.map (zz_tr ad)) (rest := (st.drop (n + 1)).map (zz_tr ad)) (b := ad a) (g := F0 mi pc La (st.map (zz_tr ad))) (H := H) (locs := locs) (cells := bc - m.2.2.2.2.1) (slots := bs - m.2.2.2.2.2) hF (hM D cy ad H.size)
    (cwV (R := R) n hF.2.2.2.2 (zz_good (fun w hw => by
      simp only [wsV, List.cons_append, List.nil_append, List.mem_cons, List.not_mem_nil, or_false] at hw
      rcases hw with rfl | rfl | rfl | rfl | rfl
      · exact hw1
      · exact hw2
      · exact hw3
      · exact (zz_cok_at hcl).2.2.2.2
      · exact hck.2.2)) rfl rfl rfl ⟨hqc, hck.1⟩ ⟨by show d + 1 ≤ R.frames; exact hfr, by show 8 + (q.2.2.1 + 11) + 64 * d ≤ R.locals; have := hck.2.1; omega⟩)
    ⟨zz_blind D cy ad _ m H.size, va_recv hc.1 hi.1 hcl he, fun U hU hW => zz_pre hc hi (Value.ref a :: (st.take n).reverse) U hU hW⟩
    rfl hsize hl.1 (by show st.map (zz_tr ad) = _; conv => lhs; rw [eS]
                       simp [zz_tr]) (lv_room (by rw [zz_catsum]; exact hb)) hd ⟨by rw [hq0.1, hc1]; omega, by rw [hq0.2, hc2]; omega⟩
  refine zz_call hrun hc hi (fun ad' H1 locs1 hag hP hD hS => ?_)
  have hadd := zz_ad_eq hag (g6 hq0.1)
  subst hadd
  rw [zz_ret_map]
  have hgo := hJ _ _ ht _ _ _ h5 H1 locs1 La ad' (by rw [g3]; exact hc) ⟨hP, hD, hS, by rw [g4]; exact Nat.le_trans (Nat.sub_le _ _) hi.2.2.2.1, by rw [g5]; exact Nat.le_trans (Nat.sub_le _ _) hi.2.2.2.2.1, by rw [g6 hq0.1]; exact hi.2.2.2.2.2⟩ hn hl
  rw [g4, g5, hq0.1, hq0.2] at hgo
  rw [hq0.1, hq0.2]
  exact hgo
theorem zs_callS {k n i t : Nat} {q : zz_Mt} (hq : mt[k]? = some q) (hq0 : q.2.2.2.2.1 = 0 ∧ q.2.2.2.2.2 = 0) (hck : zz_ck q n) (hw1 : Cond.methodLink own i q.1 ∈ zz_TG) (hw2 : Cond.static q.1 ∈ zz_TG) (hw4 : Cond.initialized q.1.cls ∈ zz_TG) (ht : pcs[t]? = some (pc + 3)) (hd : decode cc pc = .ok (.invokestatic i, 3)) : zz_Snd mt own y cc ret nL pcs pc 3 (zi_callS k n t) := by
  intro p l e R s mi args below meth c Q D cy A g0 bc bs d J C K r hF hN hc1 hc2 hfr hlo hMS hJ hK hR ls st m h
  obtain ⟨hb, h1⟩ := zz_b_some h
  obtain ⟨hb, hb2⟩ := Bool.and_eq_true_iff.mp hb
  have hb := Nat.le_of_ble_eq_true hb
  have hb2 := Nat.le_of_ble_eq_true hb2
  obtain ⟨r1, hC, h5⟩ := zz_o_some h1
  clear h h1
  intro H locs La ad hc hi hn hl
  obtain ⟨q', hq', g1, g2, g3, g4, g5, g6, hM⟩ := hMS _ _ _ _ hC hi.2.2.2.2.2.1
  cases hq.symm.trans hq'
  have hsize : ((st.take n).reverse.map (zz_tr ad)).length = n := by simp; omega
  have hrun := va_runS (e := e) (below := below) (meth := meth) (As := (st.take n).reverse.map (zz_tr ad)) (rest := (st.drop n).map (zz_tr ad)) (g := F0 mi pc La (st.map (zz_tr ad))) (H := H) (locs := locs) (cells := bc - m.2.2.2.2.1) (slots := bs - m.2.2.2.2.2) hF (hM D cy ad H.size)
    (va_cwS (R := R) n hF.2.2.2.2 (zz_good (fun w hw => by
      simp only [va_wsS, List.cons_append, List.nil_append, List.mem_cons, List.not_mem_nil, or_false] at hw
      rcases hw with rfl | rfl | rfl | rfl
      · exact hw1
      · exact hw2
      · exact hw4
      · exact hck.2.2)) rfl rfl rfl hck.1 ⟨by show d + 1 ≤ R.frames; exact hfr, by show 8 + (q.2.2.1 + 11) + 64 * d ≤ R.locals; have := hck.2.1; omega⟩)
    ⟨zz_blind D cy ad _ m H.size, fun U hU hW => zz_pre hc hi ((st.take n).reverse) U hU hW⟩
    rfl hsize hl.1 (by show st.map (zz_tr ad) = _; conv => lhs; rw [← List.take_append_drop n st]
                       simp) (lv_room (by rw [zz_catsum]; exact hb)) hd ⟨by rw [hq0.1, hc1]; omega, by rw [hq0.2, hc2]; omega⟩
  refine zz_call hrun hc hi (fun ad' H1 locs1 hag hP hD hS => ?_)
  have hadd := zz_ad_eq hag (g6 hq0.1)
  subst hadd
  rw [zz_ret_map]
  have hgo := hJ _ _ ht _ _ _ h5 H1 locs1 La ad' (by rw [g3]; exact hc) ⟨hP, hD, hS, by rw [g4]; exact Nat.le_trans (Nat.sub_le _ _) hi.2.2.2.1, by rw [g5]; exact Nat.le_trans (Nat.sub_le _ _) hi.2.2.2.2.1, by rw [g6 hq0.1]; exact hi.2.2.2.2.2⟩ hn hl
  rw [g4, g5, hq0.1, hq0.2] at hgo
  rw [hq0.1, hq0.2]
  exact hgo
theorem zs_callSN {k n i t : Nat} {host : String} {q : zz_Mt} (hq : mt[k]? = some q) (hq0 : q.2.2.2.2.1 = 0 ∧ q.2.2.2.2.2 = 0) (hck : zz_ck q n) (hw1 : Cond.methodLinkNest own i q.1 host ∈ lw_tbl) (hw2 : Cond.static q.1 ∈ zz_TG) (hw4 : Cond.initialized q.1.cls ∈ zz_TG) (ht : pcs[t]? = some (pc + 3)) (hd : decode cc pc = .ok (.invokestatic i, 3)) : zz_Snd mt own y cc ret nL pcs pc 3 (zi_callS k n t) := by
  intro p l e R s mi args below meth c Q D cy A g0 bc bs d J C K r hF hN hc1 hc2 hfr hlo hMS hJ hK hR ls st m h
  obtain ⟨hb, h1⟩ := zz_b_some h
  obtain ⟨hb, hb2⟩ := Bool.and_eq_true_iff.mp hb
  have hb := Nat.le_of_ble_eq_true hb
  have hb2 := Nat.le_of_ble_eq_true hb2
  obtain ⟨r1, hC, h5⟩ := zz_o_some h1
  clear h h1
  intro H locs La ad hc hi hn hl
  obtain ⟨q', hq', g1, g2, g3, g4, g5, g6, hM⟩ := hMS _ _ _ _ hC hi.2.2.2.2.2.1
  cases hq.symm.trans hq'
  have hsize : ((st.take n).reverse.map (zz_tr ad)).length = n := by simp; omega
  have hrun := va_runSN (e := e) (below := below) (meth := meth) (As := (st.take n).reverse.map (zz_tr ad)) (rest := (st.drop n).map (zz_tr ad)) (g := F0 mi pc La (st.map (zz_tr ad))) (H := H) (locs := locs) (cells := bc - m.2.2.2.2.1) (slots := bs - m.2.2.2.2.2) hF (hM D cy ad H.size)
    ⟨va_cnB (R := R) (host := host) n hF.2.2.2.2 (zz_good (fun w hw => by
      rw [List.mem_singleton.mp hw]
      exact hck.2.2)) rfl rfl rfl (hc.2.2.2.2.2.1 _ hw1 rfl) (hF.2.2.2.2 _ hw4) hck.1 ⟨by show d + 1 ≤ R.frames; exact hfr, by show 8 + (q.2.2.1 + 11) + 64 * d ≤ R.locals; have := hck.2.1; omega⟩, hF.2.2.2.2 _ hw2, trivial⟩
    ⟨zz_blind D cy ad _ m H.size, fun U hU hW => zz_pre hc hi ((st.take n).reverse) U hU hW⟩
    rfl hsize hl.1 (by show st.map (zz_tr ad) = _; conv => lhs; rw [← List.take_append_drop n st]
                       simp) (lv_room (by rw [zz_catsum]; exact hb)) hd ⟨by rw [hq0.1, hc1]; omega, by rw [hq0.2, hc2]; omega⟩
  refine zz_call hrun hc hi (fun ad' H1 locs1 hag hP hD hS => ?_)
  have hadd := zz_ad_eq hag (g6 hq0.1)
  subst hadd
  rw [zz_ret_map]
  have hgo := hJ _ _ ht _ _ _ h5 H1 locs1 La ad' (by rw [g3]; exact hc) ⟨hP, hD, hS, by rw [g4]; exact Nat.le_trans (Nat.sub_le _ _) hi.2.2.2.1, by rw [g5]; exact Nat.le_trans (Nat.sub_le _ _) hi.2.2.2.2.1, by rw [g6 hq0.1]; exact hi.2.2.2.2.2⟩ hn hl
  rw [g4, g5, hq0.1, hq0.2] at hgo
  rw [hq0.1, hq0.2]
  exact hgo
end ZD

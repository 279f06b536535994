/-! What a run of the small machine says of the machine. -/
-- the tables' words, as far as they stay true behind what is linked
def zz_TG : List Cond := lw_tbl.filter goodWord
def zz_nst (w : Cond) : Bool := match w with
  | .fieldLinkNest .. => true
  | .methodLinkNest .. => true
  | _ => false
def zz_tb (U : State) : Prop := (∀ w ∈ lw_tbl, goodWord w = true → w.before #[] U = true) ∧ (∀ w ∈ lw_tbl, zz_nst w = true → w.before #[] U = true) ∧ (Cond.arrayOver (.array .int)).before #[] U = true
theorem zz_tb.moved {s U : State} (hW : s.WarmedH U.vm) (h : zz_tb s) : zz_tb U := by
  refine ⟨fun w hw hg => word_at hW (good_of_word hg) (h.1 w hw hg), fun w hw hg => ?_, over_moved hW.alike h.2.2⟩
  have hb := h.2.1 w hw hg
  cases w <;> first | (exact va_Nw.warmF hW hb) | (exact va_Nw.warmM hW hb) | (cases hg)
theorem zz_tb.hts {s : State} {args : Array Value} (h : zz_tb s) : ∀ w ∈ zz_TG, w.before args s = true := fun w hw => by
  obtain ⟨h1, h2⟩ := List.mem_filter.mp hw
  exact word_at (State.WarmedH.refl s) (good_of_word h2) (h.1 w h1 h2)
theorem zz_tg {i : Nat} {w : Cond} (h : lw_tbl[i]? = some w) (hg : goodWord w = true) : w ∈ zz_TG := List.mem_filter.mpr ⟨List.mem_of_getElem? h, hg⟩
/-- the class's static arrays -/
def zz_sn (j : Nat) : String := match j with
  | 0 => "LETTERS"
  | 1 => "STRIKES"
  | 2 => "HEAT_SIGN"
  | _ => "IS"
abbrev zz_tys (cy : Nat → ClassId) : List (ClassId × FieldType) := [(cy 0, .int), (cy 1, .long), (cy 2, .boolean), (cy 3, .array .int)]
/-- what stays as it is while a method runs -/
def zz_con (D : va_G) (cy : Nat → ClassId) (A : Nat → Prop) (s : State) (ro : Nat → Nat × (Nat → Int32)) (ad : Nat → Nat) : Prop :=
  va_K D vwCl (zz_tys cy) s ∧ (∀ q, s.heap.size ≤ q → A q) ∧ (∀ j, j < 5 → va_T .int (ad (1000 + j)) (ro j).1 (fun k => .int ((ro j).2 k)) A s s.heap) ∧ (∀ j, j < 4 → va_Z "NeverTogether" (zz_sn j) "[I" (.ref (ad (1000 + j))) A s s.heap) ∧ zz_tb s
/-- the cells, at a heap -/
def zz_len (g0 : (Nat → Nat) × Nat) (ad : Nat → Nat) (n : Nat) : Prop := n ≤ 1000 ∧ g0.2 ≤ n ∧ ∀ k, k < g0.2 ∨ n ≤ k → ad k = g0.1 k
theorem zz_len.step {g0 : (Nat → Nat) × Nat} {ad ad' : Nat → Nat} {n n' : Nat} (h : zz_len g0 ad n) (h1 : n ≤ n') (h2 : n' ≤ 1000) (hag : ∀ k, k < n ∨ n' ≤ k → ad' k = ad k) : zz_len g0 ad' n' := ⟨h2, Nat.le_trans h.2.1 h1, fun k hk => by
  have := h.2.1
  rw [hag k (by omega)]
  exact h.2.2 k (by omega)⟩
def zz_inv (D : va_G) (cy : Nat → ClassId) (A : Nat → Prop) (g0 : (Nat → Nat) × Nat) (s : State) (H : Heap) (locs : List Loc) (bc bs : Nat) (ad : Nat → Nat) (m : zz_M) : Prop :=
  va_P D vwCl (zz_cw cy ad m) H ∧ va_D A (zz_cw cy ad m) ∧ va_S A s.heap H locs ∧ m.2.2.2.2.1 ≤ bc ∧ m.2.2.2.2.2 ≤ bs ∧ zz_len g0 ad m.2.1.length
/-- the machine, at this place of the method, with these locals, stack and cells, comes to its end -/
def zz_W (p : Program) (l : Launch) (e : Env) (R : Room) (s : State) (mi : MethodId) (args : Array Value) (below : List Frame) (meth : Method) (c : Code) (Q : State → Prop) (D : va_G) (cy : Nat → ClassId) (A : Nat → Prop) (g0 : (Nat → Nat) × Nat) (bc bs nL : Nat) (pc : Nat) (ls : zz_L) (st : List Value) (m : zz_M) : Prop :=
  ∀ (H : Heap) (locs : List Loc) (La : Array Slot) (ad : Nat → Nat), zz_con D cy A s m.1 ad → zz_inv D cy A g0 s H locs bc bs ad m → ls.length = nL → lv_has La nL (zz_lv ad 0 ls) →
    W p l e R s mi args below meth c H locs (bc - m.2.2.2.2.1) (bs - m.2.2.2.2.2) Q (F0 mi pc La (st.map (zz_tr ad)))
/-- which answer a return gives -/
def zz_rk (cc : ByteArray) (ret : Option FieldType) (pc : Nat) (v : Option Value) : Prop :=
  (∃ x : Int32, v = some (.int x) ∧ decode cc pc = .ok (.ireturn, 1) ∧ (ret = some .int ∨ (ret = some .boolean ∧ (x = 0 ∨ x = 1)))) ∨ (∃ x : Int64, v = some (.long x) ∧ decode cc pc = .ok (.lreturn, 1) ∧ ret = some .long) ∨ (v = none ∧ decode cc pc = .ok (.return_, 1) ∧ ret = none)
def zz_Rt (p : Program) (l : Launch) (e : Env) (R : Room) (s : State) (mi : MethodId) (args : Array Value) (below : List Frame) (meth : Method) (c : Code) (Q : State → Prop) (D : va_G) (cy : Nat → ClassId) (A : Nat → Prop) (g0 : (Nat → Nat) × Nat) (bc bs : Nat) (cc : ByteArray) (ret : Option FieldType) (r : zz_R) : Prop :=
  ∀ (pc : Nat) (H : Heap) (locs : List Loc) (La : Array Slot) (ad : Nat → Nat), zz_con D cy A s r.2.1 ad → zz_inv D cy A g0 s H locs bc bs ad r.2 → zz_rk cc ret pc r.1 →
    W p l e R s mi args below meth c H locs (bc - r.2.2.2.2.2.1) (bs - r.2.2.2.2.2.2) Q (F0 mi pc La (r.1.toList.map (zz_tr ad)))
-- methods: the name, the bytes, the locals' number, what it answers, the cells and the slots that it may make
abbrev zz_Mt : Type := MethodName × ByteArray × Nat × Option FieldType × Nat × Nat
def zz_rm (d bc bs : Nat) : Room := { frames := d, cells := bc, slots := bs, locals := 64 * d }
def zz_Pc (D : va_G) (cy : Nat → ClassId) (ad : Nat → Nat) (as : List Value) (m : zz_M) (sz : Nat) : Array Value → State → Prop :=
  va_Pc (as.map (zz_tr ad)) (fun U => U.heap.size = sz ∧ va_P D vwCl (zz_cw cy ad m) U.heap ∧ va_D (fun _ => True) (zz_cw cy ad m) ∧ zz_con D cy (va_A (zz_cw cy ad m) sz) U m.1 ad)
def zz_Qc (D : va_G) (cy : Nat → ClassId) (ad : Nat → Nat) (m : zz_M) (r : zz_R) (sz : Nat) : Array Value → State → Outcome → State → Prop := fun _ st oc t =>
  ∃ ad' : Nat → Nat, (∀ k, k < m.2.1.length ∨ r.2.2.1.length ≤ k → ad' k = ad k) ∧ oc = .returned (r.1.map (zz_tr ad')) ∧ va_P D vwCl (zz_cw cy ad' r.2) t.heap ∧ va_D (va_A (zz_cw cy ad m) sz) (zz_cw cy ad' r.2) ∧ va_F (va_A (zz_cw cy ad m) sz) st t
def zz_MS (l : Launch) (mt : List zz_Mt) (d : Nat) (C : zz_C) : Prop := ∀ k as m r, C k as m = some r → m.2.1.length ≤ 1000 → ∃ q : zz_Mt, mt[k]? = some q ∧ q.2.2.2.2.1 ≤ m.2.2.2.2.1 ∧ q.2.2.2.2.2 ≤ m.2.2.2.2.2 ∧ r.2.1 = m.1 ∧ r.2.2.2.2.2.1 = m.2.2.2.2.1 - q.2.2.2.2.1 ∧ r.2.2.2.2.2.2 = m.2.2.2.2.2 - q.2.2.2.2.2 ∧ (q.2.2.2.2.1 = 0 → r.2.2.1.length = m.2.1.length) ∧
  ∀ (D : va_G) (cy : Nat → ClassId) (ad : Nat → Nat) (sz : Nat), Met l q.1 [Cond.code q.1 q.2.1 q.2.2.1 q.2.2.2.1] (zz_rm d q.2.2.2.2.1 q.2.2.2.2.2) (zz_Pc D cy ad as m sz) (zz_Qc D cy ad m r sz) q.2.2.2.2.1 q.2.2.2.2.2 (va_A (zz_cw cy ad m) sz)
/-- an instruction of the small machine is what stands at pc -/
def zz_Snd (mt : List zz_Mt) (own : String) (y : MethodName) (cc : ByteArray) (ret : Option FieldType) (nL : Nat) (pcs : List Nat) (pc len : Nat) (i : zz_I) : Prop :=
  ∀ (p : Program) (l : Launch) (e : Env) (R : Room) (s : State) (mi : MethodId) (args : Array Value) (below : List Frame) (meth : Method) (c : Code) (Q : State → Prop) (D : va_G) (cy : Nat → ClassId) (A : Nat → Prop) (g0 : (Nat → Nat) × Nat) (bc bs : Nat) (d : Nat) (J : zz_J) (C : zz_C) (K : zz_K) (r : zz_R),
    CallFix p mi c cc nL s args zz_TG own → meth.name = y.name → R.cells = bc → R.slots = bs → d + 1 ≤ R.frames → 64 * d + 64 ≤ R.locals → zz_MS l mt d C →
    (∀ t pc', pcs[t]? = some pc' → ∀ ls st m, J t ls st m = some r → zz_W p l e R s mi args below meth c Q D cy A g0 bc bs nL pc' ls st m) →
    (∀ ls st m, K ls st m = some r → zz_W p l e R s mi args below meth c Q D cy A g0 bc bs nL (pc + len) ls st m) →
    zz_Rt p l e R s mi args below meth c Q D cy A g0 bc bs cc ret r →
    ∀ ls st m, i J C K ls st m = some r → zz_W p l e R s mi args below meth c Q D cy A g0 bc bs nL pc ls st m
-- taking the pieces apart
theorem zz_pI_some {st : List Value} {f : Int32 → List Value → Option zz_R} {r : zz_R} (h : zz_pI st f = some r) : ∃ x t, st = .int x :: t ∧ f x t = some r := by
  unfold zz_pI at h
  split at h
  · exact ⟨_, _, rfl, h⟩
  · cases h
theorem zz_pL_some {st : List Value} {f : Int64 → List Value → Option zz_R} {r : zz_R} (h : zz_pL st f = some r) : ∃ x t, st = .long x :: t ∧ f x t = some r := by
  unfold zz_pL at h
  split at h
  · exact ⟨_, _, rfl, h⟩
  · cases h
theorem zz_pR_some {st : List Value} {f : Nat → List Value → Option zz_R} {r : zz_R} (h : zz_pR st f = some r) : ∃ (x : Nat) (t : List Value), st = .ref x :: t ∧ f x t = some r := by
  unfold zz_pR at h
  split at h
  · exact ⟨_, _, rfl, h⟩
  · cases h
theorem zz_o_some {α : Type} {o : Option α} {f : α → Option zz_R} {r : zz_R} (h : zz_o o f = some r) : ∃ a, o = some a ∧ f a = some r := by
  cases o with
  | none => cases h
  | some a => exact ⟨a, rfl, h⟩
theorem zz_b_some {b : Bool} {x : Option zz_R} {r : zz_R} (h : zz_b b x = some r) : b = true ∧ x = some r := by
  cases b with
  | false => cases h
  | true => exact ⟨rfl, h⟩
theorem zz_sh_some {m : zz_M} {a : Nat} {f : zz_S → Option zz_R} {r : zz_R} (h : zz_sh m a f = some r) : ∃ s, m.2.1[a]? = some s ∧ f s = some r := by
  unfold zz_sh at h
  split at h
  · exact ⟨_, by assumption, h⟩
  · cases h
theorem zz_ob_some {m : zz_M} {a kd : Nat} {f : zz_S → Option zz_R} {r : zz_R} (h : zz_ob m a kd f = some r) : ∃ s, m.2.1[a]? = some s ∧ s.1 = kd ∧ f s = some r := by
  obtain ⟨s, h1, h2⟩ := zz_sh_some h
  split at h2
  · exact ⟨s, h1, Nat.eq_of_beq_eq_true (by assumption), h2⟩
  · cases h2
theorem zz_ix_some {i : Int32} {n j : Nat} (h : zz_ix i n = some j) : vp_in i n ∧ j = i.toNatClampNeg := by
  unfold zz_ix at h
  split at h
  · cases h
  · exact ⟨by assumption, (Option.some.inj h).symm⟩
section ZS
variable {mt : List zz_Mt} {own : String} {y : MethodName} {cc : ByteArray} {ret : Option FieldType} {nL : Nat} {pcs : List Nat} {pc : Nat}
theorem zs_iconst {n : Int} {v : Int32} (hd : decode cc pc = .ok (.iconst n, 1)) (hv : Int32.ofInt n = v) : zz_Snd mt own y cc ret nL pcs pc 1 (zi_push (.int v)) := by
  intro p l e R s mi args below meth c Q D cy A g0 bc bs d J C K r hF hN hc1 hc2 hfr hlo hMS hJ hK hR ls st m h
  intro H locs La ad hc hi hn hl
  exact lv_iconst hF.1 hF.2.1 hd hv (hK _ _ _ h H locs La ad hc hi hn hl)
theorem zs_bipush {n : Int} {v : Int32} (hd : decode cc pc = .ok (.bipush n, 2)) (hv : (Int8.ofInt n).toInt32 = v) : zz_Snd mt own y cc ret nL pcs pc 2 (zi_push (.int v)) := by
  intro p l e R s mi args below meth c Q D cy A g0 bc bs d J C K r hF hN hc1 hc2 hfr hlo hMS hJ hK hR ls st m h
  intro H locs La ad hc hi hn hl
  exact lv_bipush hF.1 hF.2.1 hd hv (hK _ _ _ h H locs La ad hc hi hn hl)
theorem zs_sipush {n : Int} {v : Int32} (hd : decode cc pc = .ok (.sipush n, 3)) (hv : (Int16.ofInt n).toInt32 = v) : zz_Snd mt own y cc ret nL pcs pc 3 (zi_push (.int v)) := by
  intro p l e R s mi args below meth c Q D cy A g0 bc bs d J C K r hF hN hc1 hc2 hfr hlo hMS hJ hK hR ls st m h
  intro H locs La ad hc hi hn hl
  exact lv_sipush hF.1 hF.2.1 hd hv (hK _ _ _ h H locs La ad hc hi hn hl)
theorem zs_lconst {n : Fin 2} {v : Int64} (hd : decode cc pc = .ok (.lconst n, 1)) (hv : Int64.ofNat (n : Nat) = v) : zz_Snd mt own y cc ret nL pcs pc 1 (zi_push (.long v)) := by
  intro p l e R s mi args below meth c Q D cy A g0 bc bs d J C K r hF hN hc1 hc2 hfr hlo hMS hJ hK hR ls st m h
  intro H locs La ad hc hi hn hl
  exact lv_lconst hF.1 hF.2.1 hd hv (hK _ _ _ h H locs La ad hc hi hn hl)
theorem zs_ldc {i : Nat} {v : Int32} (hw : Jvm.Cond.constant own i v ∈ zz_TG) (hd : decode cc pc = .ok (.ldc i, 2)) : zz_Snd mt own y cc ret nL pcs pc 2 (zi_push (.int v)) := by
  intro p l e R s mi args below meth c Q D cy A g0 bc bs d J C K r hF hN hc1 hc2 hfr hlo hMS hJ hK hR ls st m h
  intro H locs La ad hc hi hn hl
  exact lv_ldc hF.1 hF.2.1 hF.2.2.2.1 (hF.2.2.2.2 _ hw) hd (hK _ _ _ h H locs La ad hc hi hn hl)
theorem zs_ldcw {i : Nat} {v : Int32} (hw : Jvm.Cond.constant own i v ∈ zz_TG) (hd : decode cc pc = .ok (.ldc_w i, 3)) : zz_Snd mt own y cc ret nL pcs pc 3 (zi_push (.int v)) := by
  intro p l e R s mi args below meth c Q D cy A g0 bc bs d J C K r hF hN hc1 hc2 hfr hlo hMS hJ hK hR ls st m h
  intro H locs La ad hc hi hn hl
  exact lv_ldcw hF.1 hF.2.1 hF.2.2.2.1 (hF.2.2.2.2 _ hw) hd (hK _ _ _ h H locs La ad hc hi hn hl)
theorem zs_ldc2 {i : Nat} {v : Int64} (hw : Jvm.Cond.constantLong own i v ∈ zz_TG) (hd : decode cc pc = .ok (.ldc2_w i, 3)) : zz_Snd mt own y cc ret nL pcs pc 3 (zi_push (.long v)) := by
  intro p l e R s mi args below meth c Q D cy A g0 bc bs d J C K r hF hN hc1 hc2 hfr hlo hMS hJ hK hR ls st m h
  intro H locs La ad hc hi hn hl
  exact lv_ldc2 hF.1 hF.2.1 hF.2.2.2.1 (hF.2.2.2.2 _ hw) hd (hK _ _ _ h H locs La ad hc hi hn hl)
theorem zs_iload {i : Nat} (hd : decode cc pc = .ok (.iload i, 2)) : zz_Snd mt own y cc ret nL pcs pc 2 (zi_iload i) := by
  intro p l e R s mi args below meth c Q D cy A g0 bc bs d J C K r hF hN hc1 hc2 hfr hlo hMS hJ hK hR ls st m h
  obtain ⟨o, ho, h⟩ := zz_o_some h
  obtain ⟨v, ev, h⟩ := zz_o_some h
  subst ev
  obtain ⟨x, t, hv, h⟩ := zz_pI_some h
  cases hv
  intro H locs La ad hc hi hn hl
  exact lv_iload hF.1 hF.2.1 hd (zz_lv_at hl ho) (hK _ _ _ h H locs La ad hc hi hn hl)
theorem zs_iload_n {k : Fin 4} {i : Nat} (hk : (k : Nat) = i) (hd : decode cc pc = .ok (.iload_n k, 1)) : zz_Snd mt own y cc ret nL pcs pc 1 (zi_iload i) := by
  intro p l e R s mi args below meth c Q D cy A g0 bc bs d J C K r hF hN hc1 hc2 hfr hlo hMS hJ hK hR ls st m h
  obtain ⟨o, ho, h⟩ := zz_o_some h
  obtain ⟨v, ev, h⟩ := zz_o_some h
  subst ev
  obtain ⟨x, t, hv, h⟩ := zz_pI_some h
  cases hv
  intro H locs La ad hc hi hn hl
  exact lv_iload_n hF.1 hF.2.1 hd hk (zz_lv_at hl ho) (hK _ _ _ h H locs La ad hc hi hn hl)
theorem zs_lload {i : Nat} (hd : decode cc pc = .ok (.lload i, 2)) : zz_Snd mt own y cc ret nL pcs pc 2 (zi_lload i) := by
  intro p l e R s mi args below meth c Q D cy A g0 bc bs d J C K r hF hN hc1 hc2 hfr hlo hMS hJ hK hR ls st m h
  obtain ⟨o, ho, h⟩ := zz_o_some h
  obtain ⟨v, ev, h⟩ := zz_o_some h
  subst ev
  obtain ⟨x, t, hv, h⟩ := zz_pL_some h
  cases hv
  intro H locs La ad hc hi hn hl
  exact lv_lload hF.1 hF.2.1 hd (zz_lv_at hl ho) (hK _ _ _ h H locs La ad hc hi hn hl)
theorem zs_lload_n {k : Fin 4} {i : Nat} (hk : (k : Nat) = i) (hd : decode cc pc = .ok (.lload_n k, 1)) : zz_Snd mt own y cc ret nL pcs pc 1 (zi_lload i) := by
  intro p l e R s mi args below meth c Q D cy A g0 bc bs d J C K r hF hN hc1 hc2 hfr hlo hMS hJ hK hR ls st m h
  obtain ⟨o, ho, h⟩ := zz_o_some h
  obtain ⟨v, ev, h⟩ := zz_o_some h
  subst ev
  obtain ⟨x, t, hv, h⟩ := zz_pL_some h
  cases hv
  intro H locs La ad hc hi hn hl
  exact lv_lload_n hF.1 hF.2.1 hd hk (zz_lv_at hl ho) (hK _ _ _ h H locs La ad hc hi hn hl)
theorem zs_aload {i : Nat} (hd : decode cc pc = .ok (.aload i, 2)) : zz_Snd mt own y cc ret nL pcs pc 2 (zi_aload i) := by
  intro p l e R s mi args below meth c Q D cy A g0 bc bs d J C K r hF hN hc1 hc2 hfr hlo hMS hJ hK hR ls st m h
  obtain ⟨o, ho, h⟩ := zz_o_some h
  obtain ⟨v, ev, h⟩ := zz_o_some h
  subst ev
  obtain ⟨x, t, hv, h⟩ := zz_pR_some h
  cases hv
  intro H locs La ad hc hi hn hl
  exact lv_aload hF.1 hF.2.1 hd (zz_lv_at hl ho) (hK _ _ _ h H locs La ad hc hi hn hl)
theorem zs_aload_n {k : Fin 4} {i : Nat} (hk : (k : Nat) = i) (hd : decode cc pc = .ok (.aload_n k, 1)) : zz_Snd mt own y cc ret nL pcs pc 1 (zi_aload i) := by
  intro p l e R s mi args below meth c Q D cy A g0 bc bs d J C K r hF hN hc1 hc2 hfr hlo hMS hJ hK hR ls st m h
  obtain ⟨o, ho, h⟩ := zz_o_some h
  obtain ⟨v, ev, h⟩ := zz_o_some h
  subst ev
  obtain ⟨x, t, hv, h⟩ := zz_pR_some h
  cases hv
  intro H locs La ad hc hi hn hl
  exact lv_aload_n hF.1 hF.2.1 hd hk (zz_lv_at hl ho) (hK _ _ _ h H locs La ad hc hi hn hl)
theorem zs_istore {i : Nat} (hd : decode cc pc = .ok (.istore i, 2)) : zz_Snd mt own y cc ret nL pcs pc 2 (zi_istore i) := by
  intro p l e R s mi args below meth c Q D cy A g0 bc bs d J C K r hF hN hc1 hc2 hfr hlo hMS hJ hK hR ls st m h
  obtain ⟨x, t1, e1, h1⟩ := zz_pI_some h
  clear h
  subst e1
  have h := h1
  obtain ⟨hb, h⟩ := zz_b_some h
  have hlt : i < nL → True := fun _ => trivial
  intro H locs La ad hc hi hn hl
  exact lv_istore hF.1 hF.2.1 hd hl (by rw [← hn]; exact Nat.blt_eq.mp hb) rfl (fun ls' hl' => hK _ _ _ h H locs ls' ad hc hi (by rw [zz_s1_len]; exact hn) (zz_lv_sub hl' zz_lv_s1))
theorem zs_istore_n {k : Fin 4} {i : Nat} (hk : (k : Nat) = i) (hd : decode cc pc = .ok (.istore_n k, 1)) : zz_Snd mt own y cc ret nL pcs pc 1 (zi_istore i) := by
  intro p l e R s mi args below meth c Q D cy A g0 bc bs d J C K r hF hN hc1 hc2 hfr hlo hMS hJ hK hR ls st m h
  obtain ⟨x, t1, e1, h1⟩ := zz_pI_some h
  clear h
  subst e1
  have h := h1
  obtain ⟨hb, h⟩ := zz_b_some h
  have hlt : i < nL → True := fun _ => trivial
  intro H locs La ad hc hi hn hl
  exact lv_istore_n hF.1 hF.2.1 hd hk hl (by rw [← hn]; exact Nat.blt_eq.mp hb) rfl (fun ls' hl' => hK _ _ _ h H locs ls' ad hc hi (by rw [zz_s1_len]; exact hn) (zz_lv_sub hl' zz_lv_s1))
theorem zs_astore {i : Nat} (hd : decode cc pc = .ok (.astore i, 2)) : zz_Snd mt own y cc ret nL pcs pc 2 (zi_astore i) := by
  intro p l e R s mi args below meth c Q D cy A g0 bc bs d J C K r hF hN hc1 hc2 hfr hlo hMS hJ hK hR ls st m h
  obtain ⟨x, t1, e1, h1⟩ := zz_pR_some h
  clear h
  subst e1
  have h := h1
  obtain ⟨hb, h⟩ := zz_b_some h
  have hlt : i < nL → True := fun _ => trivial
  intro H locs La ad hc hi hn hl
  exact lv_astore hF.1 hF.2.1 hd hl (by rw [← hn]; exact Nat.blt_eq.mp hb) rfl (fun ls' hl' => hK _ _ _ h H locs ls' ad hc hi (by rw [zz_s1_len]; exact hn) (zz_lv_sub hl' zz_lv_s1))
theorem zs_astore_n {k : Fin 4} {i : Nat} (hk : (k : Nat) = i) (hd : decode cc pc = .ok (.astore_n k, 1)) : zz_Snd mt own y cc ret nL pcs pc 1 (zi_astore i) := by
  intro p l e R s mi args below meth c Q D cy A g0 bc bs d J C K r hF hN hc1 hc2 hfr hlo hMS hJ hK hR ls st m h
  obtain ⟨x, t1, e1, h1⟩ := zz_pR_some h
  clear h
  subst e1
  have h := h1
  obtain ⟨hb, h⟩ := zz_b_some h
  have hlt : i < nL → True := fun _ => trivial
  intro H locs La ad hc hi hn hl
  exact lv_astore_n hF.1 hF.2.1 hd hk hl (by rw [← hn]; exact Nat.blt_eq.mp hb) rfl (fun ls' hl' => hK _ _ _ h H locs ls' ad hc hi (by rw [zz_s1_len]; exact hn) (zz_lv_sub hl' zz_lv_s1))
theorem zs_lstore {i : Nat} (hd : decode cc pc = .ok (.lstore i, 2)) : zz_Snd mt own y cc ret nL pcs pc 2 (zi_lstore i) := by
  intro p l e R s mi args below meth c Q D cy A g0 bc bs d J C K r hF hN hc1 hc2 hfr hlo hMS hJ hK hR ls st m h
  obtain ⟨x, t1, e1, h1⟩ := zz_pL_some h
  clear h
  subst e1
  have h := h1
  obtain ⟨hb, h⟩ := zz_b_some h
  have hb := Nat.blt_eq.mp hb
  intro H locs La ad hc hi hn hl
  exact lv_lstore hF.1 hF.2.1 hd hl (by rw [← hn]; exact hb) rfl (fun ls' hl' => hK _ _ _ h H locs ls' ad hc hi (by rw [zz_s2_len]; exact hn) (zz_lv_sub hl' (zz_lv_s2 hb)))
theorem zs_lstore_n {k : Fin 4} {i : Nat} (hk : (k : Nat) = i) (hd : decode cc pc = .ok (.lstore_n k, 1)) : zz_Snd mt own y cc ret nL pcs pc 1 (zi_lstore i) := by
  intro p l e R s mi args below meth c Q D cy A g0 bc bs d J C K r hF hN hc1 hc2 hfr hlo hMS hJ hK hR ls st m h
  obtain ⟨x, t1, e1, h1⟩ := zz_pL_some h
  clear h
  subst e1
  have h := h1
  obtain ⟨hb, h⟩ := zz_b_some h
  have hb := Nat.blt_eq.mp hb
  intro H locs La ad hc hi hn hl
  exact lv_lstore_n hF.1 hF.2.1 hd hk hl (by rw [← hn]; exact hb) rfl (fun ls' hl' => hK _ _ _ h H locs ls' ad hc hi (by rw [zz_s2_len]; exact hn) (zz_lv_sub hl' (zz_lv_s2 hb)))
theorem zs_iinc {i : Nat} {n : Int} {w : Int32} (hd : decode cc pc = .ok (.iinc i n, 3)) (hw : Int32.ofInt n = w) : zz_Snd mt own y cc ret nL pcs pc 3 (zi_iinc i w) := by
  intro p l e R s mi args below meth c Q D cy A g0 bc bs d J C K r hF hN hc1 hc2 hfr hlo hMS hJ hK hR ls st m h
  subst hw
  obtain ⟨o, ho, h⟩ := zz_o_some h
  obtain ⟨v, ev, h⟩ := zz_o_some h
  subst ev
  obtain ⟨x, t, hv, h⟩ := zz_pI_some h
  cases hv
  obtain ⟨hb, h⟩ := zz_b_some h
  intro H locs La ad hc hi hn hl
  obtain ⟨kq, hkq⟩ := List.getElem?_of_mem (zz_lv_mem (ad := ad) (i := 0) (ls := ls) (q := (i, .int x)) |>.mpr ⟨i, .int x, ho, by simp [zz_tr]⟩)
  exact lv_iinc hF.1 hF.2.1 hd hl hkq rfl (by rw [← hn]; exact Nat.blt_eq.mp hb) rfl (fun ls' hl' => hK _ _ _ h H locs ls' ad hc hi (by rw [zz_s1_len]; exact hn) (zz_lv_sub hl' zz_lv_s1))
theorem zs_dup (hd : decode cc pc = .ok (.dup, 1)) : zz_Snd mt own y cc ret nL pcs pc 1 zi_dup := by
  intro p l e R s mi args below meth c Q D cy A g0 bc bs d J C K r hF hN hc1 hc2 hfr hlo hMS hJ hK hR ls st m h
  unfold zi_dup at h
  split at h
  · intro H locs La ad hc hi hn hl
    exact lv_dup hF.1 hF.2.1 hd rfl (hK _ _ _ h H locs La ad hc hi hn hl)
  · intro H locs La ad hc hi hn hl
    exact lv_dup hF.1 hF.2.1 hd rfl (hK _ _ _ h H locs La ad hc hi hn hl)
  · cases h
theorem zs_dup2 (hd : decode cc pc = .ok (.dup2, 1)) : zz_Snd mt own y cc ret nL pcs pc 1 zi_dup2 := by
  intro p l e R s mi args below meth c Q D cy A g0 bc bs d J C K r hF hN hc1 hc2 hfr hlo hMS hJ hK hR ls st m h
  unfold zi_dup2 at h
  split at h
  · intro H locs La ad hc hi hn hl
    exact lv_dup2_11 hF.1 hF.2.1 hd rfl rfl (hK _ _ _ h H locs La ad hc hi hn hl)
  · intro H locs La ad hc hi hn hl
    exact lv_dup2_11 hF.1 hF.2.1 hd rfl rfl (hK _ _ _ h H locs La ad hc hi hn hl)
  · cases h
theorem zs_pop (hd : decode cc pc = .ok (.pop, 1)) : zz_Snd mt own y cc ret nL pcs pc 1 zi_pop := by
  intro p l e R s mi args below meth c Q D cy A g0 bc bs d J C K r hF hN hc1 hc2 hfr hlo hMS hJ hK hR ls st m h
  obtain ⟨x, t1, e1, h1⟩ := zz_pI_some h
  clear h
  subst e1
  have h := h1
  intro H locs La ad hc hi hn hl
  exact lv_pop hF.1 hF.2.1 hd rfl (hK _ _ _ h H locs La ad hc hi hn hl)
theorem zs_iadd (hd : decode cc pc = .ok (.iadd, 1)) : zz_Snd mt own y cc ret nL pcs pc 1 (zi_ibin fun x y => x + y) := by
  intro p l e R s mi args below meth c Q D cy A g0 bc bs d J C K r hF hN hc1 hc2 hfr hlo hMS hJ hK hR ls st m h
  obtain ⟨y, t1, e1, h1⟩ := zz_pI_some h
  obtain ⟨x, t2, e2, h2⟩ := zz_pI_some h1
  clear h h1
  subst e2 e1
  have h := h2
  intro H locs La ad hc hi hn hl
  exact lv_iadd hF.1 hF.2.1 hd (hK _ _ _ h H locs La ad hc hi hn hl)
theorem zs_isub (hd : decode cc pc = .ok (.isub, 1)) : zz_Snd mt own y cc ret nL pcs pc 1 (zi_ibin fun x y => x - y) := by
  intro p l e R s mi args below meth c Q D cy A g0 bc bs d J C K r hF hN hc1 hc2 hfr hlo hMS hJ hK hR ls st m h
  obtain ⟨y, t1, e1, h1⟩ := zz_pI_some h
  obtain ⟨x, t2, e2, h2⟩ := zz_pI_some h1
  clear h h1
  subst e2 e1
  have h := h2
  intro H locs La ad hc hi hn hl
  exact lv_isub hF.1 hF.2.1 hd (hK _ _ _ h H locs La ad hc hi hn hl)
theorem zs_imul (hd : decode cc pc = .ok (.imul, 1)) : zz_Snd mt own y cc ret nL pcs pc 1 (zi_ibin fun x y => x * y) := by
  intro p l e R s mi args below meth c Q D cy A g0 bc bs d J C K r hF hN hc1 hc2 hfr hlo hMS hJ hK hR ls st m h
  obtain ⟨y, t1, e1, h1⟩ := zz_pI_some h
  obtain ⟨x, t2, e2, h2⟩ := zz_pI_some h1
  clear h h1
  subst e2 e1
  have h := h2
  intro H locs La ad hc hi hn hl
  exact lv_imul hF.1 hF.2.1 hd (hK _ _ _ h H locs La ad hc hi hn hl)
theorem zs_iand (hd : decode cc pc = .ok (.iand, 1)) : zz_Snd mt own y cc ret nL pcs pc 1 (zi_ibin fun x y => x &&& y) := by
  intro p l e R s mi args below meth c Q D cy A g0 bc bs d J C K r hF hN hc1 hc2 hfr hlo hMS hJ hK hR ls st m h
  obtain ⟨y, t1, e1, h1⟩ := zz_pI_some h
  obtain ⟨x, t2, e2, h2⟩ := zz_pI_some h1
  clear h h1
  subst e2 e1
  have h := h2
  intro H locs La ad hc hi hn hl
  exact lv_iand hF.1 hF.2.1 hd (hK _ _ _ h H locs La ad hc hi hn hl)
theorem zs_ior (hd : decode cc pc = .ok (.ior, 1)) : zz_Snd mt own y cc ret nL pcs pc 1 (zi_ibin fun x y => x ||| y) := by
  intro p l e R s mi args below meth c Q D cy A g0 bc bs d J C K r hF hN hc1 hc2 hfr hlo hMS hJ hK hR ls st m h
  obtain ⟨y, t1, e1, h1⟩ := zz_pI_some h
  obtain ⟨x, t2, e2, h2⟩ := zz_pI_some h1
  clear h h1
  subst e2 e1
  have h := h2
  intro H locs La ad hc hi hn hl
  exact lv_ior hF.1 hF.2.1 hd (hK _ _ _ h H locs La ad hc hi hn hl)
theorem zs_ishl (hd : decode cc pc = .ok (.ishl, 1)) : zz_Snd mt own y cc ret nL pcs pc 1 (zi_ibin fun x y => x <<< (y &&& 31)) := by
  intro p l e R s mi args below meth c Q D cy A g0 bc bs d J C K r hF hN hc1 hc2 hfr hlo hMS hJ hK hR ls st m h
  obtain ⟨y, t1, e1, h1⟩ := zz_pI_some h
  obtain ⟨x, t2, e2, h2⟩ := zz_pI_some h1
  clear h h1
  subst e2 e1
  have h := h2
  intro H locs La ad hc hi hn hl
  exact lv_ishl hF.1 hF.2.1 hd (hK _ _ _ h H locs La ad hc hi hn hl)
theorem zs_ishr (hd : decode cc pc = .ok (.ishr, 1)) : zz_Snd mt own y cc ret nL pcs pc 1 (zi_ibin fun x y => x >>> (y &&& 31)) := by
  intro p l e R s mi args below meth c Q D cy A g0 bc bs d J C K r hF hN hc1 hc2 hfr hlo hMS hJ hK hR ls st m h
  obtain ⟨y, t1, e1, h1⟩ := zz_pI_some h
  obtain ⟨x, t2, e2, h2⟩ := zz_pI_some h1
  clear h h1
  subst e2 e1
  have h := h2
  intro H locs La ad hc hi hn hl
  exact lv_ishr hF.1 hF.2.1 hd (hK _ _ _ h H locs La ad hc hi hn hl)
theorem zs_iushr (hd : decode cc pc = .ok (.iushr, 1)) : zz_Snd mt own y cc ret nL pcs pc 1 (zi_ibin fun x y => (x.toUInt32 >>> (y.toUInt32 &&& Int32.toUInt32 31)).toInt32) := by
  intro p l e R s mi args below meth c Q D cy A g0 bc bs d J C K r hF hN hc1 hc2 hfr hlo hMS hJ hK hR ls st m h
  obtain ⟨y, t1, e1, h1⟩ := zz_pI_some h
  obtain ⟨x, t2, e2, h2⟩ := zz_pI_some h1
  clear h h1
  subst e2 e1
  have h := h2
  intro H locs La ad hc hi hn hl
  exact lv_iushr hF.1 hF.2.1 hd rfl (hK _ _ _ h H locs La ad hc hi hn hl)
theorem zs_idiv (hd : decode cc pc = .ok (.idiv, 1)) : zz_Snd mt own y cc ret nL pcs pc 1 (zi_idiv fun x y => x / y) := by
  intro p l e R s mi args below meth c Q D cy A g0 bc bs d J C K r hF hN hc1 hc2 hfr hlo hMS hJ hK hR ls st m h
  obtain ⟨y, t1, e1, h1⟩ := zz_pI_some h
  obtain ⟨x, t2, e2, h2⟩ := zz_pI_some h1
  clear h h1
  subst e2 e1
  have h := h2
  dsimp only at h
  split at h
  · cases h
  · intro H locs La ad hc hi hn hl
    exact lv_idiv hF.1 hF.2.1 hd (by assumption) (hK _ _ _ h H locs La ad hc hi hn hl)
theorem zs_irem (hd : decode cc pc = .ok (.irem, 1)) : zz_Snd mt own y cc ret nL pcs pc 1 (zi_idiv fun x y => x - x / y * y) := by
  intro p l e R s mi args below meth c Q D cy A g0 bc bs d J C K r hF hN hc1 hc2 hfr hlo hMS hJ hK hR ls st m h
  obtain ⟨y, t1, e1, h1⟩ := zz_pI_some h
  obtain ⟨x, t2, e2, h2⟩ := zz_pI_some h1
  clear h h1
  subst e2 e1
  have h := h2
  dsimp only at h
  split at h
  · cases h
  · intro H locs La ad hc hi hn hl
    exact lv_irem hF.1 hF.2.1 hd (by assumption) (hK _ _ _ h H locs La ad hc hi hn hl)
theorem zs_ladd (hd : decode cc pc = .ok (.ladd, 1)) : zz_Snd mt own y cc ret nL pcs pc 1 (zi_lbin fun x y => x + y) := by
  intro p l e R s mi args below meth c Q D cy A g0 bc bs d J C K r hF hN hc1 hc2 hfr hlo hMS hJ hK hR ls st m h
  obtain ⟨y, t1, e1, h1⟩ := zz_pL_some h
  obtain ⟨x, t2, e2, h2⟩ := zz_pL_some h1
  clear h h1
  subst e2 e1
  have h := h2
  intro H locs La ad hc hi hn hl
  exact lv_ladd hF.1 hF.2.1 hd (hK _ _ _ h H locs La ad hc hi hn hl)
theorem zs_lsub (hd : decode cc pc = .ok (.lsub, 1)) : zz_Snd mt own y cc ret nL pcs pc 1 (zi_lbin fun x y => x - y) := by
  intro p l e R s mi args below meth c Q D cy A g0 bc bs d J C K r hF hN hc1 hc2 hfr hlo hMS hJ hK hR ls st m h
  obtain ⟨y, t1, e1, h1⟩ := zz_pL_some h
  obtain ⟨x, t2, e2, h2⟩ := zz_pL_some h1
  clear h h1
  subst e2 e1
  have h := h2
  intro H locs La ad hc hi hn hl
  exact lv_lsub hF.1 hF.2.1 hd (hK _ _ _ h H locs La ad hc hi hn hl)
theorem zs_lmul (hd : decode cc pc = .ok (.lmul, 1)) : zz_Snd mt own y cc ret nL pcs pc 1 (zi_lbin fun x y => x * y) := by
  intro p l e R s mi args below meth c Q D cy A g0 bc bs d J C K r hF hN hc1 hc2 hfr hlo hMS hJ hK hR ls st m h
  obtain ⟨y, t1, e1, h1⟩ := zz_pL_some h
  obtain ⟨x, t2, e2, h2⟩ := zz_pL_some h1
  clear h h1
  subst e2 e1
  have h := h2
  intro H locs La ad hc hi hn hl
  exact lv_lmul hF.1 hF.2.1 hd (hK _ _ _ h H locs La ad hc hi hn hl)
theorem zs_land (hd : decode cc pc = .ok (.land, 1)) : zz_Snd mt own y cc ret nL pcs pc 1 (zi_lbin fun x y => x &&& y) := by
  intro p l e R s mi args below meth c Q D cy A g0 bc bs d J C K r hF hN hc1 hc2 hfr hlo hMS hJ hK hR ls st m h
  obtain ⟨y, t1, e1, h1⟩ := zz_pL_some h
  obtain ⟨x, t2, e2, h2⟩ := zz_pL_some h1
  clear h h1
  subst e2 e1
  have h := h2
  intro H locs La ad hc hi hn hl
  exact lv_land hF.1 hF.2.1 hd (hK _ _ _ h H locs La ad hc hi hn hl)
theorem zs_lor (hd : decode cc pc = .ok (.lor, 1)) : zz_Snd mt own y cc ret nL pcs pc 1 (zi_lbin fun x y => x ||| y) := by
  intro p l e R s mi args below meth c Q D cy A g0 bc bs d J C K r hF hN hc1 hc2 hfr hlo hMS hJ hK hR ls st m h
  obtain ⟨y, t1, e1, h1⟩ := zz_pL_some h
  obtain ⟨x, t2, e2, h2⟩ := zz_pL_some h1
  clear h h1
  subst e2 e1
  have h := h2
  intro H locs La ad hc hi hn hl
  exact lv_lor hF.1 hF.2.1 hd (hK _ _ _ h H locs La ad hc hi hn hl)
theorem zs_lxor (hd : decode cc pc = .ok (.lxor, 1)) : zz_Snd mt own y cc ret nL pcs pc 1 (zi_lbin fun x y => x ^^^ y) := by
  intro p l e R s mi args below meth c Q D cy A g0 bc bs d J C K r hF hN hc1 hc2 hfr hlo hMS hJ hK hR ls st m h
  obtain ⟨y, t1, e1, h1⟩ := zz_pL_some h
  obtain ⟨x, t2, e2, h2⟩ := zz_pL_some h1
  clear h h1
  subst e2 e1
  have h := h2
  intro H locs La ad hc hi hn hl
  exact lv_lxor hF.1 hF.2.1 hd (hK _ _ _ h H locs La ad hc hi hn hl)
theorem zs_ldiv (hd : decode cc pc = .ok (.ldiv, 1)) : zz_Snd mt own y cc ret nL pcs pc 1 (zi_ldiv fun x y => x / y) := by
  intro p l e R s mi args below meth c Q D cy A g0 bc bs d J C K r hF hN hc1 hc2 hfr hlo hMS hJ hK hR ls st m h
  obtain ⟨y, t1, e1, h1⟩ := zz_pL_some h
  obtain ⟨x, t2, e2, h2⟩ := zz_pL_some h1
  clear h h1
  subst e2 e1
  have h := h2
  dsimp only at h
  split at h
  · cases h
  · intro H locs La ad hc hi hn hl
    exact lv_ldiv hF.1 hF.2.1 hd (by assumption) (hK _ _ _ h H locs La ad hc hi hn hl)
theorem zs_lrem (hd : decode cc pc = .ok (.lrem, 1)) : zz_Snd mt own y cc ret nL pcs pc 1 (zi_ldiv fun x y => x - x / y * y) := by
  intro p l e R s mi args below meth c Q D cy A g0 bc bs d J C K r hF hN hc1 hc2 hfr hlo hMS hJ hK hR ls st m h
  obtain ⟨y, t1, e1, h1⟩ := zz_pL_some h
  obtain ⟨x, t2, e2, h2⟩ := zz_pL_some h1
  clear h h1
  subst e2 e1
  have h := h2
  dsimp only at h
  split at h
  · cases h
  · intro H locs La ad hc hi hn hl
    exact lv_lrem hF.1 hF.2.1 hd (by assumption) (hK _ _ _ h H locs La ad hc hi hn hl)
theorem zs_lshl (hd : decode cc pc = .ok (.lshl, 1)) : zz_Snd mt own y cc ret nL pcs pc 1 (zi_lsh fun x y => x <<< (y.toInt64 &&& 63)) := by
  intro p l e R s mi args below meth c Q D cy A g0 bc bs d J C K r hF hN hc1 hc2 hfr hlo hMS hJ hK hR ls st m h
  obtain ⟨y, t1, e1, h1⟩ := zz_pI_some h
  obtain ⟨x, t2, e2, h2⟩ := zz_pL_some h1
  clear h h1
  subst e2 e1
  have h := h2
  intro H locs La ad hc hi hn hl
  exact lv_lshl hF.1 hF.2.1 hd rfl (hK _ _ _ h H locs La ad hc hi hn hl)
theorem zs_lushr (hd : decode cc pc = .ok (.lushr, 1)) : zz_Snd mt own y cc ret nL pcs pc 1 (zi_lsh fun x y => (x.toUInt64 >>> (y.toInt64.toUInt64 &&& Int64.toUInt64 63)).toInt64) := by
  intro p l e R s mi args below meth c Q D cy A g0 bc bs d J C K r hF hN hc1 hc2 hfr hlo hMS hJ hK hR ls st m h
  obtain ⟨y, t1, e1, h1⟩ := zz_pI_some h
  obtain ⟨x, t2, e2, h2⟩ := zz_pL_some h1
  clear h h1
  subst e2 e1
  have h := h2
  intro H locs La ad hc hi hn hl
  exact lv_lushr hF.1 hF.2.1 hd rfl (hK _ _ _ h H locs La ad hc hi hn hl)
theorem zs_ineg (hd : decode cc pc = .ok (.ineg, 1)) : zz_Snd mt own y cc ret nL pcs pc 1 (zi_iun fun x => -x) := by
  intro p l e R s mi args below meth c Q D cy A g0 bc bs d J C K r hF hN hc1 hc2 hfr hlo hMS hJ hK hR ls st m h
  obtain ⟨x, t1, e1, h1⟩ := zz_pI_some h
  clear h
  subst e1
  have h := h1
  intro H locs La ad hc hi hn hl
  exact lv_ineg hF.1 hF.2.1 hd (hK _ _ _ h H locs La ad hc hi hn hl)
theorem zs_i2b (hd : decode cc pc = .ok (.i2b, 1)) : zz_Snd mt own y cc ret nL pcs pc 1 (zi_iun fun x => x.toInt8.toInt32) := by
  intro p l e R s mi args below meth c Q D cy A g0 bc bs d J C K r hF hN hc1 hc2 hfr hlo hMS hJ hK hR ls st m h
  obtain ⟨x, t1, e1, h1⟩ := zz_pI_some h
  clear h
  subst e1
  have h := h1
  intro H locs La ad hc hi hn hl
  exact lv_i2b hF.1 hF.2.1 hd rfl (hK _ _ _ h H locs La ad hc hi hn hl)
theorem zs_lcmp (hd : decode cc pc = .ok (.lcmp, 1)) : zz_Snd mt own y cc ret nL pcs pc 1 zi_lcmp := by
  intro p l e R s mi args below meth c Q D cy A g0 bc bs d J C K r hF hN hc1 hc2 hfr hlo hMS hJ hK hR ls st m h
  obtain ⟨y, t1, e1, h1⟩ := zz_pL_some h
  obtain ⟨x, t2, e2, h2⟩ := zz_pL_some h1
  clear h h1
  subst e2 e1
  have h := h2
  intro H locs La ad hc hi hn hl
  exact W.lcmp hF.1 hF.2.1 hd (hK _ _ _ h H locs La ad hc hi hn hl)
theorem zs_i2l (hd : decode cc pc = .ok (.i2l, 1)) : zz_Snd mt own y cc ret nL pcs pc 1 zi_i2l := by
  intro p l e R s mi args below meth c Q D cy A g0 bc bs d J C K r hF hN hc1 hc2 hfr hlo hMS hJ hK hR ls st m h
  obtain ⟨x, t1, e1, h1⟩ := zz_pI_some h
  clear h
  subst e1
  have h := h1
  intro H locs La ad hc hi hn hl
  exact lv_i2l hF.1 hF.2.1 hd rfl (hK _ _ _ h H locs La ad hc hi hn hl)
theorem zs_l2i (hd : decode cc pc = .ok (.l2i, 1)) : zz_Snd mt own y cc ret nL pcs pc 1 zi_l2i := by
  intro p l e R s mi args below meth c Q D cy A g0 bc bs d J C K r hF hN hc1 hc2 hfr hlo hMS hJ hK hR ls st m h
  obtain ⟨x, t1, e1, h1⟩ := zz_pL_some h
  clear h
  subst e1
  have h := h1
  intro H locs La ad hc hi hn hl
  exact lv_l2i hF.1 hF.2.1 hd rfl (hK _ _ _ h H locs La ad hc hi hn hl)
theorem zs_jump {t : Nat} (ht : pcs[t]? = some pc) : zz_Snd mt own y cc ret nL pcs pc 0 (zi_jump t) := by
  intro p l e R s mi args below meth c Q D cy A g0 bc bs d J C K r hF hN hc1 hc2 hfr hlo hMS hJ hK hR ls st m h
  exact hJ _ _ ht _ _ _ h
theorem zs_goto {t q : Nat} {off : Int} (hd : decode cc pc = .ok (.goto off, 3)) (ht : pcs[t]? = some q) (hq : (pc : Int) + off = (q : Int)) : zz_Snd mt own y cc ret nL pcs pc 3 (zi_jump t) := by
  intro p l e R s mi args below meth c Q D cy A g0 bc bs d J C K r hF hN hc1 hc2 hfr hlo hMS hJ hK hR ls st m h
  intro H locs La ad hc hi hn hl
  exact lv_goto hF.1 hF.2.1 hd hq (hJ _ _ ht _ _ _ h H locs La ad hc hi hn hl)
theorem zs_ceq {t q : Nat} {off : Int} (hd : decode cc pc = .ok (.if_icmp .eq off, 3)) (ht : pcs[t]? = some q) (hq : (pc : Int) + off = (q : Int)) : zz_Snd mt own y cc ret nL pcs pc 3 (zi_ceq t) := by
  intro p l e R s mi args below meth c Q D cy A g0 bc bs d J C K r hF hN hc1 hc2 hfr hlo hMS hJ hK hR ls st m h
  obtain ⟨y, t1, e1, h1⟩ := zz_pI_some h
  obtain ⟨x, t2, e2, h2⟩ := zz_pI_some h1
  clear h h1
  subst e2 e1
  have h := h2
  split at h
  · intro H locs La ad hc hi hn hl
    exact lv_icmp_eq hF.1 hF.2.1 hd hq (fun _ => (hJ _ _ ht _ _ _ h H locs La ad hc hi hn hl)) (fun hz => absurd (by assumption) hz)
  · intro H locs La ad hc hi hn hl
    exact lv_icmp_eq hF.1 hF.2.1 hd hq (fun hz => absurd hz (by assumption)) (fun _ => (hK _ _ _ h H locs La ad hc hi hn hl))
theorem zs_zeq {t q : Nat} {off : Int} (hd : decode cc pc = .ok (.ifCond .eq off, 3)) (ht : pcs[t]? = some q) (hq : (pc : Int) + off = (q : Int)) : zz_Snd mt own y cc ret nL pcs pc 3 (zi_zeq t) := by
  intro p l e R s mi args below meth c Q D cy A g0 bc bs d J C K r hF hN hc1 hc2 hfr hlo hMS hJ hK hR ls st m h
  obtain ⟨x, t1, e1, h1⟩ := zz_pI_some h
  clear h
  subst e1
  have h := h1
  split at h
  · intro H locs La ad hc hi hn hl
    exact lv_if_eq hF.1 hF.2.1 hd hq (fun _ => (hJ _ _ ht _ _ _ h H locs La ad hc hi hn hl)) (fun hz => absurd (by assumption) hz)
  · intro H locs La ad hc hi hn hl
    exact lv_if_eq hF.1 hF.2.1 hd hq (fun hz => absurd hz (by assumption)) (fun _ => (hK _ _ _ h H locs La ad hc hi hn hl))
theorem zs_cne {t q : Nat} {off : Int} (hd : decode cc pc = .ok (.if_icmp .ne off, 3)) (ht : pcs[t]? = some q) (hq : (pc : Int) + off = (q : Int)) : zz_Snd mt own y cc ret nL pcs pc 3 (zi_cne t) := by
  intro p l e R s mi args below meth c Q D cy A g0 bc bs d J C K r hF hN hc1 hc2 hfr hlo hMS hJ hK hR ls st m h
  obtain ⟨y, t1, e1, h1⟩ := zz_pI_some h
  obtain ⟨x, t2, e2, h2⟩ := zz_pI_some h1
  clear h h1
  subst e2 e1
  have h := h2
  split at h
  · intro H locs La ad hc hi hn hl
    exact lv_icmp_ne hF.1 hF.2.1 hd hq (fun hz => absurd (by assumption) hz) (fun _ => (hK _ _ _ h H locs La ad hc hi hn hl))
  · intro H locs La ad hc hi hn hl
    exact lv_icmp_ne hF.1 hF.2.1 hd hq (fun _ => (hJ _ _ ht _ _ _ h H locs La ad hc hi hn hl)) (fun hz => absurd hz (by assumption))
theorem zs_zne {t q : Nat} {off : Int} (hd : decode cc pc = .ok (.ifCond .ne off, 3)) (ht : pcs[t]? = some q) (hq : (pc : Int) + off = (q : Int)) : zz_Snd mt own y cc ret nL pcs pc 3 (zi_zne t) := by
  intro p l e R s mi args below meth c Q D cy A g0 bc bs d J C K r hF hN hc1 hc2 hfr hlo hMS hJ hK hR ls st m h
  obtain ⟨x, t1, e1, h1⟩ := zz_pI_some h
  clear h
  subst e1
  have h := h1
  split at h
  · intro H locs La ad hc hi hn hl
    exact lv_if_ne hF.1 hF.2.1 hd hq (fun hz => absurd (by assumption) hz) (fun _ => (hK _ _ _ h H locs La ad hc hi hn hl))
  · intro H locs La ad hc hi hn hl
    exact lv_if_ne hF.1 hF.2.1 hd hq (fun _ => (hJ _ _ ht _ _ _ h H locs La ad hc hi hn hl)) (fun hz => absurd hz (by assumption))
theorem zs_clt {t q : Nat} {off : Int} (hd : decode cc pc = .ok (.if_icmp .lt off, 3)) (ht : pcs[t]? = some q) (hq : (pc : Int) + off = (q : Int)) : zz_Snd mt own y cc ret nL pcs pc 3 (zi_clt t) := by
  intro p l e R s mi args below meth c Q D cy A g0 bc bs d J C K r hF hN hc1 hc2 hfr hlo hMS hJ hK hR ls st m h
  obtain ⟨y, t1, e1, h1⟩ := zz_pI_some h
  obtain ⟨x, t2, e2, h2⟩ := zz_pI_some h1
  clear h h1
  subst e2 e1
  have h := h2
  split at h
  · intro H locs La ad hc hi hn hl
    exact lv_icmp_lt hF.1 hF.2.1 hd hq (fun _ => (hJ _ _ ht _ _ _ h H locs La ad hc hi hn hl)) (fun hz => absurd (by assumption) hz)
  · intro H locs La ad hc hi hn hl
    exact lv_icmp_lt hF.1 hF.2.1 hd hq (fun hz => absurd hz (by assumption)) (fun _ => (hK _ _ _ h H locs La ad hc hi hn hl))
theorem zs_zlt {t q : Nat} {off : Int} (hd : decode cc pc = .ok (.ifCond .lt off, 3)) (ht : pcs[t]? = some q) (hq : (pc : Int) + off = (q : Int)) : zz_Snd mt own y cc ret nL pcs pc 3 (zi_zlt t) := by
  intro p l e R s mi args below meth c Q D cy A g0 bc bs d J C K r hF hN hc1 hc2 hfr hlo hMS hJ hK hR ls st m h
  obtain ⟨x, t1, e1, h1⟩ := zz_pI_some h
  clear h
  subst e1
  have h := h1
  split at h
  · intro H locs La ad hc hi hn hl
    exact lv_if_lt hF.1 hF.2.1 hd hq (fun _ => (hJ _ _ ht _ _ _ h H locs La ad hc hi hn hl)) (fun hz => absurd (by assumption) hz)
  · intro H locs La ad hc hi hn hl
    exact lv_if_lt hF.1 hF.2.1 hd hq (fun hz => absurd hz (by assumption)) (fun _ => (hK _ _ _ h H locs La ad hc hi hn hl))
theorem zs_cge {t q : Nat} {off : Int} (hd : decode cc pc = .ok (.if_icmp .ge off, 3)) (ht : pcs[t]? = some q) (hq : (pc : Int) + off = (q : Int)) : zz_Snd mt own y cc ret nL pcs pc 3 (zi_cge t) := by
  intro p l e R s mi args below meth c Q D cy A g0 bc bs d J C K r hF hN hc1 hc2 hfr hlo hMS hJ hK hR ls st m h
  obtain ⟨y, t1, e1, h1⟩ := zz_pI_some h
  obtain ⟨x, t2, e2, h2⟩ := zz_pI_some h1
  clear h h1
  subst e2 e1
  have h := h2
  split at h
  · intro H locs La ad hc hi hn hl
    exact lv_icmp_ge hF.1 hF.2.1 hd hq (fun _ => (hJ _ _ ht _ _ _ h H locs La ad hc hi hn hl)) (fun hz => absurd (by assumption) hz)
  · intro H locs La ad hc hi hn hl
    exact lv_icmp_ge hF.1 hF.2.1 hd hq (fun hz => absurd hz (by assumption)) (fun _ => (hK _ _ _ h H locs La ad hc hi hn hl))
theorem zs_zge {t q : Nat} {off : Int} (hd : decode cc pc = .ok (.ifCond .ge off, 3)) (ht : pcs[t]? = some q) (hq : (pc : Int) + off = (q : Int)) : zz_Snd mt own y cc ret nL pcs pc 3 (zi_zge t) := by
  intro p l e R s mi args below meth c Q D cy A g0 bc bs d J C K r hF hN hc1 hc2 hfr hlo hMS hJ hK hR ls st m h
  obtain ⟨x, t1, e1, h1⟩ := zz_pI_some h
  clear h
  subst e1
  have h := h1
  split at h
  · intro H locs La ad hc hi hn hl
    exact lv_if_ge hF.1 hF.2.1 hd hq (fun _ => (hJ _ _ ht _ _ _ h H locs La ad hc hi hn hl)) (fun hz => absurd (by assumption) hz)
  · intro H locs La ad hc hi hn hl
    exact lv_if_ge hF.1 hF.2.1 hd hq (fun hz => absurd hz (by assumption)) (fun _ => (hK _ _ _ h H locs La ad hc hi hn hl))
theorem zs_cgt {t q : Nat} {off : Int} (hd : decode cc pc = .ok (.if_icmp .gt off, 3)) (ht : pcs[t]? = some q) (hq : (pc : Int) + off = (q : Int)) : zz_Snd mt own y cc ret nL pcs pc 3 (zi_cgt t) := by
  intro p l e R s mi args below meth c Q D cy A g0 bc bs d J C K r hF hN hc1 hc2 hfr hlo hMS hJ hK hR ls st m h
  obtain ⟨y, t1, e1, h1⟩ := zz_pI_some h
  obtain ⟨x, t2, e2, h2⟩ := zz_pI_some h1
  clear h h1
  subst e2 e1
  have h := h2
  split at h
  · intro H locs La ad hc hi hn hl
    exact lv_icmp_gt hF.1 hF.2.1 hd hq (fun _ => (hJ _ _ ht _ _ _ h H locs La ad hc hi hn hl)) (fun hz => absurd (by assumption) hz)
  · intro H locs La ad hc hi hn hl
    exact lv_icmp_gt hF.1 hF.2.1 hd hq (fun hz => absurd hz (by assumption)) (fun _ => (hK _ _ _ h H locs La ad hc hi hn hl))
theorem zs_zgt {t q : Nat} {off : Int} (hd : decode cc pc = .ok (.ifCond .gt off, 3)) (ht : pcs[t]? = some q) (hq : (pc : Int) + off = (q : Int)) : zz_Snd mt own y cc ret nL pcs pc 3 (zi_zgt t) := by
  intro p l e R s mi args below meth c Q D cy A g0 bc bs d J C K r hF hN hc1 hc2 hfr hlo hMS hJ hK hR ls st m h
  obtain ⟨x, t1, e1, h1⟩ := zz_pI_some h
  clear h
  subst e1
  have h := h1
  split at h
  · intro H locs La ad hc hi hn hl
    exact lv_if_gt hF.1 hF.2.1 hd hq (fun _ => (hJ _ _ ht _ _ _ h H locs La ad hc hi hn hl)) (fun hz => absurd (by assumption) hz)
  · intro H locs La ad hc hi hn hl
    exact lv_if_gt hF.1 hF.2.1 hd hq (fun hz => absurd hz (by assumption)) (fun _ => (hK _ _ _ h H locs La ad hc hi hn hl))
theorem zs_cle {t q : Nat} {off : Int} (hd : decode cc pc = .ok (.if_icmp .le off, 3)) (ht : pcs[t]? = some q) (hq : (pc : Int) + off = (q : Int)) : zz_Snd mt own y cc ret nL pcs pc 3 (zi_cle t) := by
  intro p l e R s mi args below meth c Q D cy A g0 bc bs d J C K r hF hN hc1 hc2 hfr hlo hMS hJ hK hR ls st m h
  obtain ⟨y, t1, e1, h1⟩ := zz_pI_some h
  obtain ⟨x, t2, e2, h2⟩ := zz_pI_some h1
  clear h h1
  subst e2 e1
  have h := h2
  split at h
  · intro H locs La ad hc hi hn hl
    exact lv_icmp_le hF.1 hF.2.1 hd hq (fun _ => (hJ _ _ ht _ _ _ h H locs La ad hc hi hn hl)) (fun hz => absurd (by assumption) hz)
  · intro H locs La ad hc hi hn hl
    exact lv_icmp_le hF.1 hF.2.1 hd hq (fun hz => absurd hz (by assumption)) (fun _ => (hK _ _ _ h H locs La ad hc hi hn hl))
theorem zs_zle {t q : Nat} {off : Int} (hd : decode cc pc = .ok (.ifCond .le off, 3)) (ht : pcs[t]? = some q) (hq : (pc : Int) + off = (q : Int)) : zz_Snd mt own y cc ret nL pcs pc 3 (zi_zle t) := by
  intro p l e R s mi args below meth c Q D cy A g0 bc bs d J C K r hF hN hc1 hc2 hfr hlo hMS hJ hK hR ls st m h
  obtain ⟨x, t1, e1, h1⟩ := zz_pI_some h
  clear h
  subst e1
  have h := h1
  split at h
  · intro H locs La ad hc hi hn hl
    exact lv_if_le hF.1 hF.2.1 hd hq (fun _ => (hJ _ _ ht _ _ _ h H locs La ad hc hi hn hl)) (fun hz => absurd (by assumption) hz)
  · intro H locs La ad hc hi hn hl
    exact lv_if_le hF.1 hF.2.1 hd hq (fun hz => absurd hz (by assumption)) (fun _ => (hK _ _ _ h H locs La ad hc hi hn hl))
theorem zs_tab {dflt lo up : Int} {offs : Array Int} {len t0 q0 : Nat} {ts : List Nat} (hd : decode cc pc = .ok (.tableswitch dflt lo up offs, len)) (ht0 : pcs[t0]? = some q0) (hq0 : (pc : Int) + dflt = (q0 : Int)) (hlen : (ts.length : Int) = up - lo + 1) (hall : ∀ (k t : Nat), ts[k]? = some t → ∃ (off : Int) (q : Nat), offs[k]? = some off ∧ pcs[t]? = some q ∧ (pc : Int) + off = (q : Int)) : zz_Snd mt own y cc ret nL pcs pc len (zi_tab lo ts t0) := by
  intro p l e R s mi args below meth c Q D cy A g0 bc bs d J C K r hF hN hc1 hc2 hfr hlo hMS hJ hK hR ls st m h
  obtain ⟨x, t1, e1, h1⟩ := zz_pI_some h
  clear h
  subst e1
  have h := h1
  split at h
  · intro H locs La ad hc hi hn hl
    exact lv_tableOut hF.1 hF.2.1 hd (Or.inl (by assumption)) hq0 (hJ _ _ ht0 _ _ _ h H locs La ad hc hi hn hl)
  · split at h
    · rename_i hlo' _ t ht
      obtain ⟨off, q, h1, h2, h3⟩ := hall _ _ ht
      have hk := (List.getElem?_eq_some_iff.mp ht).1
      intro H locs La ad hc hi hn hl
      exact lv_tableIn hF.1 hF.2.1 hd hlo' (by omega) h1 h3 (hJ _ _ h2 _ _ _ h H locs La ad hc hi hn hl)
    · rename_i hlo' ht
      have hk := List.getElem?_eq_none_iff.mp ht
      intro H locs La ad hc hi hn hl
      exact lv_tableOut hF.1 hF.2.1 hd (Or.inr (by omega)) hq0 (hJ _ _ ht0 _ _ _ h H locs La ad hc hi hn hl)
-- ends
theorem zs_iret (hd : decode cc pc = .ok (.ireturn, 1)) (hr : ret = some .int) : zz_Snd mt own y cc ret nL pcs pc 1 zi_iret := by
  intro p l e R s mi args below meth c Q D cy A g0 bc bs d J C K r hF hN hc1 hc2 hfr hlo hMS hJ hK hR ls st m h
  unfold zi_iret at h
  split at h
  · cases h
    intro H locs La ad hc hi hn hl
    exact hR pc H locs La ad hc hi (Or.inl ⟨_, rfl, hd, Or.inl hr⟩)
  · cases h
theorem zs_zret (hd : decode cc pc = .ok (.ireturn, 1)) (hr : ret = some .boolean) : zz_Snd mt own y cc ret nL pcs pc 1 zi_zret := by
  intro p l e R s mi args below meth c Q D cy A g0 bc bs d J C K r hF hN hc1 hc2 hfr hlo hMS hJ hK hR ls st m h
  unfold zi_zret at h
  split at h
  · split at h
    · cases h
      intro H locs La ad hc hi hn hl
      exact hR pc H locs La ad hc hi (Or.inl ⟨_, rfl, hd, Or.inr ⟨hr, by assumption⟩⟩)
    · cases h
  · cases h
theorem zs_lret (hd : decode cc pc = .ok (.lreturn, 1)) (hr : ret = some .long) : zz_Snd mt own y cc ret nL pcs pc 1 zi_lret := by
  intro p l e R s mi args below meth c Q D cy A g0 bc bs d J C K r hF hN hc1 hc2 hfr hlo hMS hJ hK hR ls st m h
  unfold zi_lret at h
  split at h
  · cases h
    intro H locs La ad hc hi hn hl
    exact hR pc H locs La ad hc hi (Or.inr (Or.inl ⟨_, rfl, hd, hr⟩))
  · cases h
theorem zs_vret (hd : decode cc pc = .ok (.return_, 1)) (hr : ret = none) : zz_Snd mt own y cc ret nL pcs pc 1 zi_vret := by
  intro p l e R s mi args below meth c Q D cy A g0 bc bs d J C K r hF hN hc1 hc2 hfr hlo hMS hJ hK hR ls st m h
  unfold zi_vret at h
  split at h
  · cases h
    intro H locs La ad hc hi hn hl
    exact hR pc H locs La ad hc hi (Or.inr (Or.inr ⟨rfl, hd, hr⟩))
  · cases h
end ZS

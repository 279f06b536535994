/-! the constructors, run from the empty memory: printed by program -/
theorem sg_0 : zz_GC tb_0 := zz_SA_G sa_0
theorem sg_1 : zz_GC tb_1 := zz_SA_G sa_1
theorem sg_2 : zz_GC tb_2 := zz_SA_G sa_2
theorem sg_3 : zz_GC tb_3 := zz_SA_G sa_3
theorem sg_4 : zz_GC tb_4 := zz_SA_G sa_4
theorem sg_5 : zz_GC tb_5 := zz_SA_G sa_5
theorem sg_6 : zz_GC tb_6 := zz_SA_G sa_6
theorem sg_7 : zz_GC tb_7 := zz_SA_G sa_7
theorem sg_8 : zz_GC tb_8 := zz_SA_G sa_8
theorem sg_law : zz_GC tb_law := zz_SA_G (sa_law ⟨"", "", ""⟩)
theorem zi_of {d k : Nat} {as : List Value} {q : zz_Mt} {tb : List zz_B} {m : zz_M} {ls : zz_L} {r : zz_R} (hq : zz_mt[k]? = some q) (hc : zz_codes[k]? = some tb) (hb : (Nat.ble q.2.2.2.2.1 m.2.2.2.2.1 && Nat.ble q.2.2.2.2.2 m.2.2.2.2.2 && Nat.ble (zz_ar as).length q.2.2.1) = true) (hl : zz_l0 as q.2.2.1 = ls)
    (h : zz_X (zz_call_ d) tb 0 ls [] (m.1, m.2.1, m.2.2.1, m.2.2.2.1, q.2.2.2.2.1, q.2.2.2.2.2) = some r) (h2 : (Nat.beq r.2.2.1.length m.2.1.length || !(Nat.beq q.2.2.2.2.1 0)) = true) :
    zz_call_ (d + 1) k as m = some (r.1, (m.1, r.2.2.1, r.2.2.2.1, r.2.2.2.2.1, m.2.2.2.2.1 - q.2.2.2.2.1, m.2.2.2.2.2 - q.2.2.2.2.2)) := by
  show zz_D zz_mt zz_codes (d + 1) k as m = _
  unfold zz_D
  rw [hq, o_some, hc, o_some, hb, hl]
  show zz_o (zz_X (zz_call_ d) tb 0 ls [] (m.1, m.2.1, m.2.2.1, m.2.2.2.1, q.2.2.2.2.1, q.2.2.2.2.2)) _ = _
  rw [h, o_some, h2]
  rfl
section ZN
variable {J : zz_J} {C : zz_C} {p : Nat} {R : zz_B} {ls : zz_L} {st : List Value} {ro : Nat → Nat × (Nat → Int32)} {sh sh' : List zz_S} {M : Nat → Nat → Int32} {L : Nat → Nat → Int64} {a b a' b' : Nat} {m : zz_M}
theorem zn_push {v : Value} : zz_run J C ((p, zi_push v) :: R) ls st m = zz_run J C R ls (v :: st) m := rfl
theorem zn_iload {i : Nat} {x : Int32} (h : ls[i]? = some (some (.int x))) : zz_run J C ((p, zi_iload i) :: R) ls st m = zz_run J C R ls (.int x :: st) m := by
  show zz_o ls[i]? _ = _
  rw [h]; rfl
theorem zn_aload {i : Nat} {x : Nat} (h : ls[i]? = some (some (.ref x))) : zz_run J C ((p, zi_aload i) :: R) ls st m = zz_run J C R ls (.ref x :: st) m := by
  show zz_o ls[i]? _ = _
  rw [h]; rfl
theorem zn_istore {i : Nat} {x : Int32} {ls' : zz_L} (h : Nat.blt i ls.length = true) (e : zz_s1 ls i (.int x) = ls') : zz_run J C ((p, zi_istore i) :: R) ls (.int x :: st) m = zz_run J C R ls' st m := by
  show zz_b (Nat.blt i ls.length) (zz_run J C R (zz_s1 ls i (.int x)) st m) = _
  rw [h, e]; rfl
theorem zn_astore {i : Nat} {x : Nat} {ls' : zz_L} (h : Nat.blt i ls.length = true) (e : zz_s1 ls i (.ref x) = ls') : zz_run J C ((p, zi_astore i) :: R) ls (.ref x :: st) m = zz_run J C R ls' st m := by
  show zz_b (Nat.blt i ls.length) (zz_run J C R (zz_s1 ls i (.ref x)) st m) = _
  rw [h, e]; rfl
theorem zn_iinc {i : Nat} {x n y : Int32} {ls' : zz_L} (h0 : ls[i]? = some (some (.int x))) (h : Nat.blt i ls.length = true) (hy : x + n = y) (e : zz_s1 ls i (.int y) = ls') : zz_run J C ((p, zi_iinc i n) :: R) ls st m = zz_run J C R ls' st m := by
  show zz_o ls[i]? _ = _
  rw [h0]
  show zz_b (Nat.blt i ls.length) (zz_run J C R (zz_s1 ls i (.int (x + n))) st m) = _
  rw [h, hy, e]; rfl
theorem zn_dup {x : Nat} : zz_run J C ((p, zi_dup) :: R) ls (.ref x :: st) m = zz_run J C R ls (.ref x :: .ref x :: st) m := rfl
theorem zn_oinit {x : Nat} (h : Nat.ble (st.map Value.category).sum 8 = true) : zz_run J C ((p, zi_oinit) :: R) ls (.ref x :: st) m = zz_run J C R ls st m := by
  show zz_b (Nat.ble (st.map Value.category).sum 8) _ = _
  rw [h]; rfl
theorem zn_new {ci N n : Nat} (hl : sh.length = n) (h : (zz_wf n ls st sh && Nat.ble 1 a && Nat.ble N b) = true) (hs : sh ++ [(ci + 4, N, List.replicate N none)] = sh') (ha : a - 1 = a') (hb : b - N = b') : zz_run J C ((p, zi_new ci N) :: R) ls st (ro, sh, M, L, a, b) = zz_run J C R ls (.ref n :: st) (ro, sh', zz_rI M n (fun _ => 0), zz_rL L n (fun _ => 0), a', b') := by
  subst hl hs ha hb
  show zz_b (zz_wf sh.length ls st sh && Nat.ble 1 a && Nat.ble N b) _ = _
  rw [h]; rfl
theorem zn_newa {kd n k : Nat} {x : Int32} (hx : x.toNatClampNeg = k) (hl : sh.length = n) (h : (zz_wf n ls st sh && decide (¬ x < 0) && Nat.ble k 10000 && Nat.ble 1 a && Nat.ble k b) = true) (hs : sh ++ [(kd, k, [])] = sh') (ha : a - 1 = a') (hb : b - k = b') : zz_run J C ((p, zi_newa kd) :: R) ls (.int x :: st) (ro, sh, M, L, a, b) = zz_run J C R ls (.ref n :: st) (ro, sh', zz_rI M n (fun _ => 0), zz_rL L n (fun _ => 0), a', b') := by
  subst hx hl hs ha hb
  show zz_b (zz_wf sh.length ls st sh && decide (¬ x < 0) && Nat.ble x.toNatClampNeg 10000 && Nat.ble 1 a && Nat.ble x.toNatClampNeg b) _ = _
  rw [h]; rfl
theorem zn_mna {n k j : Nat} {x y : Int32} (hx : x.toNatClampNeg = k) (hy : y.toNatClampNeg = j) (hl : sh.length = n) (h : (zz_wf n ls st sh && decide (¬ x < 0) && decide (¬ y < 0) && Nat.ble k 50 && Nat.ble j 10000 && Nat.ble (1 + k) a && Nat.ble (k + k * j) b) = true) (hs : sh ++ [(3, k, (List.range k).map (fun i => some (n + 1 + i)))] ++ List.replicate k (0, j, []) = sh') (ha : a - (1 + k) = a') (hb : b - (k + k * j) = b') : zz_run J C ((p, zi_mna) :: R) ls (.int y :: .int x :: st) (ro, sh, M, L, a, b) = zz_run J C R ls (.ref n :: st) (ro, sh', (fun b => if n ≤ b then (fun _ => 0) else M b), (fun b => if n ≤ b then (fun _ => 0) else L b), a', b') := by
  subst hx hy hl hs ha hb
  show zz_b (zz_wf sh.length ls st sh && decide (¬ x < 0) && decide (¬ y < 0) && Nat.ble x.toNatClampNeg 50 && Nat.ble y.toNatClampNeg 10000 && Nat.ble (1 + x.toNatClampNeg) a && Nat.ble (x.toNatClampNeg + x.toNatClampNeg * y.toNatClampNeg) b) _ = _
  rw [h]; rfl
theorem zn_ob {c kd : Nat} {s : zz_S} {f : zz_S → Option zz_R} (hs : sh[c]? = some s) (hk : Nat.beq s.1 kd = true) : zz_ob (ro, sh, M, L, a, b) c kd f = f s := by
  show (match sh[c]? with
    | some s => (match Nat.beq s.1 kd with
      | true => f s
      | false => none)
    | none => none) = _
  rw [hs]
  dsimp only
  rw [hk]
theorem zn_putR {ci k r c : Nat} {s : zz_S} (hs : sh[c]? = some s) (hk : Nat.beq s.1 (ci + 4) = true) (hb : (Nat.blt k s.2.1 && Nat.blt k s.2.2.length) = true) (h' : sh.set c (s.1, s.2.1, s.2.2.set k (some r)) = sh') : zz_run J C ((p, zi_putR ci k) :: R) ls (.ref r :: .ref c :: st) (ro, sh, M, L, a, b) = zz_run J C R ls st (ro, sh', M, L, a, b) := by
  subst h'
  show zz_ob (ro, sh, M, L, a, b) c (ci + 4) _ = _
  rw [zn_ob hs hk, hb]; rfl
theorem zn_putI {ci k c : Nat} {x : Int32} {s : zz_S} (hs : sh[c]? = some s) (hk : Nat.beq s.1 (ci + 4) = true) (hb : Nat.blt k s.2.1 = true) : zz_run J C ((p, zi_putI ci k) :: R) ls (.int x :: .ref c :: st) (ro, sh, M, L, a, b) = zz_run J C R ls st (ro, sh, zz_wI M c k x, L, a, b) := by
  show zz_ob (ro, sh, M, L, a, b) c (ci + 4) _ = _
  rw [zn_ob hs hk, hb]; rfl
theorem zn_putL {ci k c : Nat} {x : Int64} {s : zz_S} (hs : sh[c]? = some s) (hk : Nat.beq s.1 (ci + 4) = true) (hb : Nat.blt k s.2.1 = true) : zz_run J C ((p, zi_putL ci k) :: R) ls (.long x :: .ref c :: st) (ro, sh, M, L, a, b) = zz_run J C R ls st (ro, sh, M, zz_wL L c k x, a, b) := by
  show zz_ob (ro, sh, M, L, a, b) c (ci + 4) _ = _
  rw [zn_ob hs hk, hb]; rfl
theorem zn_getR {ci k c r : Nat} {s : zz_S} (hs : sh[c]? = some s) (hk : Nat.beq s.1 (ci + 4) = true) (hb : Nat.blt k s.2.1 = true) (hr : s.2.2[k]? = some (some r)) : zz_run J C ((p, zi_getR ci k) :: R) ls (.ref c :: st) (ro, sh, M, L, a, b) = zz_run J C R ls (.ref r :: st) (ro, sh, M, L, a, b) := by
  show zz_ob (ro, sh, M, L, a, b) c (ci + 4) _ = _
  rw [zn_ob hs hk, hb]
  show zz_o s.2.2[k]? _ = _
  rw [hr]; rfl
theorem zn_alen {c : Nat} {x : Int32} {s : zz_S} (h0 : Nat.ble 1000 c = false) (hs : sh[c]? = some s) (hk : Nat.blt s.1 4 = true) (hx : Int32.ofNat s.2.1 = x) : zz_run J C ((p, zi_alen) :: R) ls (.ref c :: st) (ro, sh, M, L, a, b) = zz_run J C R ls (.int x :: st) (ro, sh, M, L, a, b) := by
  subst hx
  show (match Nat.ble 1000 c with
    | true => _
    | false => zz_sh (ro, sh, M, L, a, b) c fun s => zz_b (Nat.blt s.1 4) (zz_run J C R ls (.int (Int32.ofNat s.2.1) :: st) (ro, sh, M, L, a, b))) = _
  rw [h0]
  show (match sh[c]? with
    | some s => zz_b (Nat.blt s.1 4) (zz_run J C R ls (.int (Int32.ofNat s.2.1) :: st) (ro, sh, M, L, a, b))
    | none => none) = _
  rw [hs]
  dsimp only
  rw [hk]; rfl
theorem zn_iast {c j : Nat} {x i : Int32} {s : zz_S} (hs : sh[c]? = some s) (hk : Nat.beq s.1 0 = true) (hi : zz_ix i s.2.1 = some j) : zz_run J C ((p, zi_iast) :: R) ls (.int x :: .int i :: .ref c :: st) (ro, sh, M, L, a, b) = zz_run J C R ls st (ro, sh, zz_wI M c j x, L, a, b) := by
  show zz_ob (ro, sh, M, L, a, b) c 0 _ = _
  rw [zn_ob hs hk, hi]; rfl
theorem zn_cget {t : Nat} {x y : Int32} (h : y ≤ x) : zz_run J C ((p, zi_cge t) :: R) ls (.int y :: .int x :: st) m = J t ls st m := by
  show (if y ≤ x then J t ls st m else zz_run J C R ls st m) = _
  rw [if_pos h]
theorem zn_cgef {t : Nat} {x y : Int32} (h : ¬ y ≤ x) : zz_run J C ((p, zi_cge t) :: R) ls (.int y :: .int x :: st) m = zz_run J C R ls st m := by
  show (if y ≤ x then J t ls st m else zz_run J C R ls st m) = _
  rw [if_neg h]
theorem zn_jump {t : Nat} : zz_run J C ((p, zi_jump t) :: R) ls st m = J t ls st m := rfl
theorem zn_vret : zz_run J C ((p, zi_vret) :: R) ls [] m = some (none, m) := rfl
theorem zn_callI {k n t c : Nat} {as st' : List Value} {sh2 : List zz_S} {M2 : Nat → Nat → Int32} {L2 : Nat → Nat → Int64} {a2 b2 : Nat} (h1 : (Nat.ble (((st.drop n).map Value.category).sum) 8 && Nat.ble n st.length) = true) (h2 : st[n - 1]? = some (.ref c)) (ha : (st.take n).reverse = as) (hd : st.drop n = st') (hc : C k as (ro, sh, M, L, a, b) = some (none, (ro, sh2, M2, L2, a2, b2))) (h3 : (zz_wl sh.length ls st' && Nat.ble sh.length sh2.length && Nat.ble sh2.length 1000) = true) : zz_run J C ((p, zi_callI k n t) :: R) ls st (ro, sh, M, L, a, b) = J t ls st' (ro, sh2, M2, L2, a2, b2) := by
  subst ha hd
  show zz_b (Nat.ble (((st.drop n).map Value.category).sum) 8 && Nat.ble n st.length) (zz_o st[n - 1]? _) = _
  rw [h1]
  show zz_o st[n - 1]? _ = _
  rw [h2]
  show zz_o (C k (st.take n).reverse (ro, sh, M, L, a, b)) _ = _
  rw [hc]
  show zz_b (zz_wl sh.length ls (st.drop n) && Nat.ble sh.length sh2.length && Nat.ble sh2.length 1000) _ = _
  rw [h3]; rfl
end ZN
def mI_0 : Nat → Nat → Int32 := fun _ _ => 0
def mL_0 : Nat → Nat → Int64 := fun _ _ => 0
def sH_0 : List zz_S := []
def sH_1 : List zz_S := [(11, 11, [none, none, none, none, none, none, none, none, none, none, none])]
def mI_1 : Nat → Nat → Int32 := zz_rI mI_0 0 (fun _ => 0)
def mL_1 : Nat → Nat → Int64 := zz_rL mL_0 0 (fun _ => 0)
def sH_2 : List zz_S := [(11, 11, [none, none, none, none, none, none, none, none, none, none, none]), (10, 2, [none, none])]
def mI_2 : Nat → Nat → Int32 := zz_rI mI_1 1 (fun _ => 0)
def mL_2 : Nat → Nat → Int64 := zz_rL mL_1 1 (fun _ => 0)
def sH_3 : List zz_S := [(11, 11, [none, none, none, none, none, none, none, none, none, none, none]), (10, 2, [none, none]), (3, 6, [some 3, some 4, some 5, some 6, some 7, some 8]), (0, 40, []), (0, 40, []), (0, 40, []), (0, 40, []), (0, 40, []), (0, 40, [])]
def mI_3 : Nat → Nat → Int32 := fun b => if 2 ≤ b then (fun _ => 0) else mI_2 b
def mL_3 : Nat → Nat → Int64 := fun b => if 2 ≤ b then (fun _ => 0) else mL_2 b
def sH_4 : List zz_S := [(11, 11, [none, none, none, none, none, none, none, none, none, none, none]), (10, 2, [some 2, none]), (3, 6, [some 3, some 4, some 5, some 6, some 7, some 8]), (0, 40, []), (0, 40, []), (0, 40, []), (0, 40, []), (0, 40, []), (0, 40, [])]
def sH_5 : List zz_S := [(11, 11, [none, none, none, none, none, none, none, none, none, none, none]), (10, 2, [some 2, none]), (3, 6, [some 3, some 4, some 5, some 6, some 7, some 8]), (0, 40, []), (0, 40, []), (0, 40, []), (0, 40, []), (0, 40, []), (0, 40, []), (0, 6, [])]
def mI_4 : Nat → Nat → Int32 := zz_rI mI_3 9 (fun _ => 0)
def mL_4 : Nat → Nat → Int64 := zz_rL mL_3 9 (fun _ => 0)
def sH_6 : List zz_S := [(11, 11, [none, none, none, none, none, none, none, none, none, none, none]), (10, 2, [some 2, some 9]), (3, 6, [some 3, some 4, some 5, some 6, some 7, some 8]), (0, 40, []), (0, 40, []), (0, 40, []), (0, 40, []), (0, 40, []), (0, 40, []), (0, 6, [])]
set_option maxRecDepth 100000 in
theorem ib_3 (N : Nat) (xs : Nat → Int32) : zz_X (zz_call_ 98) tb_6 0 [some (.ref 1), some (.ref 2), none] [] (zro N xs, sH_3, mI_3, mL_3, 1, 6) = zz_X (zz_call_ 98) tb_6 1 [some (.ref 1), some (.ref 2), some (.int 0)] [] (zro N xs, sH_6, mI_4, mL_4, 0, 0) := by
  refine (zz_X_eq sg_6 _ _ _ _).trans ?_
  refine (zn_aload rfl).trans ?_
  refine (zn_oinit (by decide +kernel)).trans ?_
  refine (zn_aload rfl).trans ?_
  refine (zn_aload rfl).trans ?_
  refine (zn_putR (sh' := sH_4) (s := (10, 2, [none, none])) rfl (by decide +kernel) (by decide +kernel) rfl).trans ?_
  refine (zn_aload rfl).trans ?_
  refine (zn_aload rfl).trans ?_
  refine (zn_alen (x := 6) (s := (3, 6, [some 3, some 4, some 5, some 6, some 7, some 8])) (by decide +kernel) rfl (by decide +kernel) (by decide +kernel)).trans ?_
  refine (zn_newa (sh' := sH_5) (n := 9) (k := 6) (a' := 0) (b' := 0) (by decide +kernel) (by decide +kernel) (by decide +kernel) (by decide +kernel) (by decide +kernel) (by decide +kernel)).trans ?_
  refine (zn_putR (sh' := sH_6) (s := (10, 2, [some 2, none])) rfl (by decide +kernel) (by decide +kernel) rfl).trans ?_
  refine (zn_push).trans ?_
  refine (zn_istore (ls' := [some (.ref 1), some (.ref 2), some (.int 0)]) rfl rfl).trans ?_
  exact zn_jump
def mI_5 : Nat → Nat → Int32 := zz_wI mI_4 9 0 (-1)
set_option maxRecDepth 100000 in
theorem ib_4 (N : Nat) (xs : Nat → Int32) : zz_X (zz_call_ 98) tb_6 1 [some (.ref 1), some (.ref 2), some (.int 0)] [] (zro N xs, sH_6, mI_4, mL_4, 0, 0) = zz_X (zz_call_ 98) tb_6 1 [some (.ref 1), some (.ref 2), some (.int 1)] [] (zro N xs, sH_6, mI_5, mL_4, 0, 0) := by
  refine (zz_X_eq sg_6 _ _ _ _).trans ?_
  refine (zn_iload rfl).trans ?_
  refine (zn_aload rfl).trans ?_
  refine (zn_getR (s := (10, 2, [some 2, some 9])) rfl (by decide +kernel) (by decide +kernel) rfl).trans ?_
  refine (zn_alen (x := 6) (s := (0, 6, [])) (by decide +kernel) rfl (by decide +kernel) (by decide +kernel)).trans ?_
  refine (zn_cgef (by decide +kernel)).trans ?_
  refine (zn_aload rfl).trans ?_
  refine (zn_getR (s := (10, 2, [some 2, some 9])) rfl (by decide +kernel) (by decide +kernel) rfl).trans ?_
  refine (zn_iload rfl).trans ?_
  refine (zn_push).trans ?_
  refine (zn_iast (j := 0) (s := (0, 6, [])) rfl (by decide +kernel) (by decide +kernel)).trans ?_
  refine (zn_iinc (y := 1) (ls' := [some (.ref 1), some (.ref 2), some (.int 1)]) rfl rfl (by decide +kernel) rfl).trans ?_
  exact zn_jump
def mI_6 : Nat → Nat → Int32 := zz_wI mI_5 9 1 (-1)
set_option maxRecDepth 100000 in
theorem ib_5 (N : Nat) (xs : Nat → Int32) : zz_X (zz_call_ 98) tb_6 1 [some (.ref 1), some (.ref 2), some (.int 1)] [] (zro N xs, sH_6, mI_5, mL_4, 0, 0) = zz_X (zz_call_ 98) tb_6 1 [some (.ref 1), some (.ref 2), some (.int 2)] [] (zro N xs, sH_6, mI_6, mL_4, 0, 0) := by
  refine (zz_X_eq sg_6 _ _ _ _).trans ?_
  refine (zn_iload rfl).trans ?_
  refine (zn_aload rfl).trans ?_
  refine (zn_getR (s := (10, 2, [some 2, some 9])) rfl (by decide +kernel) (by decide +kernel) rfl).trans ?_
  refine (zn_alen (x := 6) (s := (0, 6, [])) (by decide +kernel) rfl (by decide +kernel) (by decide +kernel)).trans ?_
  refine (zn_cgef (by decide +kernel)).trans ?_
  refine (zn_aload rfl).trans ?_
  refine (zn_getR (s := (10, 2, [some 2, some 9])) rfl (by decide +kernel) (by decide +kernel) rfl).trans ?_
  refine (zn_iload rfl).trans ?_
  refine (zn_push).trans ?_
  refine (zn_iast (j := 1) (s := (0, 6, [])) rfl (by decide +kernel) (by decide +kernel)).trans ?_
  refine (zn_iinc (y := 2) (ls' := [some (.ref 1), some (.ref 2), some (.int 2)]) rfl rfl (by decide +kernel) rfl).trans ?_
  exact zn_jump
def mI_7 : Nat → Nat → Int32 := zz_wI mI_6 9 2 (-1)
set_option maxRecDepth 100000 in
theorem ib_6 (N : Nat) (xs : Nat → Int32) : zz_X (zz_call_ 98) tb_6 1 [some (.ref 1), some (.ref 2), some (.int 2)] [] (zro N xs, sH_6, mI_6, mL_4, 0, 0) = zz_X (zz_call_ 98) tb_6 1 [some (.ref 1), some (.ref 2), some (.int 3)] [] (zro N xs, sH_6, mI_7, mL_4, 0, 0) := by
  refine (zz_X_eq sg_6 _ _ _ _).trans ?_
  refine (zn_iload rfl).trans ?_
  refine (zn_aload rfl).trans ?_
  refine (zn_getR (s := (10, 2, [some 2, some 9])) rfl (by decide +kernel) (by decide +kernel) rfl).trans ?_
  refine (zn_alen (x := 6) (s := (0, 6, [])) (by decide +kernel) rfl (by decide +kernel) (by decide +kernel)).trans ?_
  refine (zn_cgef (by decide +kernel)).trans ?_
  refine (zn_aload rfl).trans ?_
  refine (zn_getR (s := (10, 2, [some 2, some 9])) rfl (by decide +kernel) (by decide +kernel) rfl).trans ?_
  refine (zn_iload rfl).trans ?_
  refine (zn_push).trans ?_
  refine (zn_iast (j := 2) (s := (0, 6, [])) rfl (by decide +kernel) (by decide +kernel)).trans ?_
  refine (zn_iinc (y := 3) (ls' := [some (.ref 1), some (.ref 2), some (.int 3)]) rfl rfl (by decide +kernel) rfl).trans ?_
  exact zn_jump
def mI_8 : Nat → Nat → Int32 := zz_wI mI_7 9 3 (-1)
set_option maxRecDepth 100000 in
theorem ib_7 (N : Nat) (xs : Nat → Int32) : zz_X (zz_call_ 98) tb_6 1 [some (.ref 1), some (.ref 2), some (.int 3)] [] (zro N xs, sH_6, mI_7, mL_4, 0, 0) = zz_X (zz_call_ 98) tb_6 1 [some (.ref 1), some (.ref 2), some (.int 4)] [] (zro N xs, sH_6, mI_8, mL_4, 0, 0) := by
  refine (zz_X_eq sg_6 _ _ _ _).trans ?_
  refine (zn_iload rfl).trans ?_
  refine (zn_aload rfl).trans ?_
  refine (zn_getR (s := (10, 2, [some 2, some 9])) rfl (by decide +kernel) (by decide +kernel) rfl).trans ?_
  refine (zn_alen (x := 6) (s := (0, 6, [])) (by decide +kernel) rfl (by decide +kernel) (by decide +kernel)).trans ?_
  refine (zn_cgef (by decide +kernel)).trans ?_
  refine (zn_aload rfl).trans ?_
  refine (zn_getR (s := (10, 2, [some 2, some 9])) rfl (by decide +kernel) (by decide +kernel) rfl).trans ?_
  refine (zn_iload rfl).trans ?_
  refine (zn_push).trans ?_
  refine (zn_iast (j := 3) (s := (0, 6, [])) rfl (by decide +kernel) (by decide +kernel)).trans ?_
  refine (zn_iinc (y := 4) (ls' := [some (.ref 1), some (.ref 2), some (.int 4)]) rfl rfl (by decide +kernel) rfl).trans ?_
  exact zn_jump
def mI_9 : Nat → Nat → Int32 := zz_wI mI_8 9 4 (-1)
set_option maxRecDepth 100000 in
theorem ib_8 (N : Nat) (xs : Nat → Int32) : zz_X (zz_call_ 98) tb_6 1 [some (.ref 1), some (.ref 2), some (.int 4)] [] (zro N xs, sH_6, mI_8, mL_4, 0, 0) = zz_X (zz_call_ 98) tb_6 1 [some (.ref 1), some (.ref 2), some (.int 5)] [] (zro N xs, sH_6, mI_9, mL_4, 0, 0) := by
  refine (zz_X_eq sg_6 _ _ _ _).trans ?_
  refine (zn_iload rfl).trans ?_
  refine (zn_aload rfl).trans ?_
  refine (zn_getR (s := (10, 2, [some 2, some 9])) rfl (by decide +kernel) (by decide +kernel) rfl).trans ?_
  refine (zn_alen (x := 6) (s := (0, 6, [])) (by decide +kernel) rfl (by decide +kernel) (by decide +kernel)).trans ?_
  refine (zn_cgef (by decide +kernel)).trans ?_
  refine (zn_aload rfl).trans ?_
  refine (zn_getR (s := (10, 2, [some 2, some 9])) rfl (by decide +kernel) (by decide +kernel) rfl).trans ?_
  refine (zn_iload rfl).trans ?_
  refine (zn_push).trans ?_
  refine (zn_iast (j := 4) (s := (0, 6, [])) rfl (by decide +kernel) (by decide +kernel)).trans ?_
  refine (zn_iinc (y := 5) (ls' := [some (.ref 1), some (.ref 2), some (.int 5)]) rfl rfl (by decide +kernel) rfl).trans ?_
  exact zn_jump
def mI_10 : Nat → Nat → Int32 := zz_wI mI_9 9 5 (-1)
set_option maxRecDepth 100000 in
theorem ib_9 (N : Nat) (xs : Nat → Int32) : zz_X (zz_call_ 98) tb_6 1 [some (.ref 1), some (.ref 2), some (.int 5)] [] (zro N xs, sH_6, mI_9, mL_4, 0, 0) = zz_X (zz_call_ 98) tb_6 1 [some (.ref 1), some (.ref 2), some (.int 6)] [] (zro N xs, sH_6, mI_10, mL_4, 0, 0) := by
  refine (zz_X_eq sg_6 _ _ _ _).trans ?_
  refine (zn_iload rfl).trans ?_
  refine (zn_aload rfl).trans ?_
  refine (zn_getR (s := (10, 2, [some 2, some 9])) rfl (by decide +kernel) (by decide +kernel) rfl).trans ?_
  refine (zn_alen (x := 6) (s := (0, 6, [])) (by decide +kernel) rfl (by decide +kernel) (by decide +kernel)).trans ?_
  refine (zn_cgef (by decide +kernel)).trans ?_
  refine (zn_aload rfl).trans ?_
  refine (zn_getR (s := (10, 2, [some 2, some 9])) rfl (by decide +kernel) (by decide +kernel) rfl).trans ?_
  refine (zn_iload rfl).trans ?_
  refine (zn_push).trans ?_
  refine (zn_iast (j := 5) (s := (0, 6, [])) rfl (by decide +kernel) (by decide +kernel)).trans ?_
  refine (zn_iinc (y := 6) (ls' := [some (.ref 1), some (.ref 2), some (.int 6)]) rfl rfl (by decide +kernel) rfl).trans ?_
  exact zn_jump
set_option maxRecDepth 100000 in
theorem ib_10 (N : Nat) (xs : Nat → Int32) : zz_X (zz_call_ 98) tb_6 1 [some (.ref 1), some (.ref 2), some (.int 6)] [] (zro N xs, sH_6, mI_10, mL_4, 0, 0) = zz_X (zz_call_ 98) tb_6 2 [some (.ref 1), some (.ref 2), some (.int 6)] [] (zro N xs, sH_6, mI_10, mL_4, 0, 0) := by
  refine (zz_X_eq sg_6 _ _ _ _).trans ?_
  refine (zn_iload rfl).trans ?_
  refine (zn_aload rfl).trans ?_
  refine (zn_getR (s := (10, 2, [some 2, some 9])) rfl (by decide +kernel) (by decide +kernel) rfl).trans ?_
  refine (zn_alen (x := 6) (s := (0, 6, [])) (by decide +kernel) rfl (by decide +kernel) (by decide +kernel)).trans ?_
  exact zn_cget (by decide +kernel)
set_option maxRecDepth 100000 in
theorem ib_11 (N : Nat) (xs : Nat → Int32) : zz_X (zz_call_ 98) tb_6 2 [some (.ref 1), some (.ref 2), some (.int 6)] [] (zro N xs, sH_6, mI_10, mL_4, 0, 0) = some (none, (zro N xs, sH_6, mI_10, mL_4, 0, 0)) := by
  refine (zz_X_eq sg_6 _ _ _ _).trans ?_
  exact zn_vret
set_option maxRecDepth 100000 in
theorem ic_1 (N : Nat) (xs : Nat → Int32) : zz_call_ 99 6 [.ref 1, .ref 2] (zro N xs, sH_3, mI_3, mL_3, 192, 2752) = some (none, (zro N xs, sH_6, mI_10, mL_4, 191, 2746)) := zi_of (d := 98) (r := (none, (zro N xs, sH_6, mI_10, mL_4, 0, 0))) mk_6 rfl rfl rfl ((ib_3 N xs).trans ((ib_4 N xs).trans ((ib_5 N xs).trans ((ib_6 N xs).trans ((ib_7 N xs).trans ((ib_8 N xs).trans ((ib_9 N xs).trans ((ib_10 N xs).trans (ib_11 N xs))))))))) rfl
set_option maxRecDepth 100000 in
theorem ib_2 (N : Nat) (xs : Nat → Int32) : zz_X (zz_call_ 99) tb_7 0 [some (.ref 0)] [] (zro N xs, sH_1, mI_1, mL_1, 200, 3000) = zz_X (zz_call_ 99) tb_7 1 [some (.ref 0)] [.ref 1, .ref 0] (zro N xs, sH_6, mI_10, mL_4, 191, 2746) := by
  refine (zz_X_eq sg_7 _ _ _ _).trans ?_
  refine (zn_aload rfl).trans ?_
  refine (zn_oinit (by decide +kernel)).trans ?_
  refine (zn_aload rfl).trans ?_
  refine (zn_new (sh' := sH_2) (n := 1) (a' := 199) (b' := 2998) (by decide +kernel) (by decide +kernel) (by decide +kernel) (by decide +kernel) (by decide +kernel)).trans ?_
  refine (zn_dup).trans ?_
  refine (zn_push).trans ?_
  refine (zn_push).trans ?_
  refine (zn_mna (sh' := sH_3) (n := 2) (k := 6) (j := 40) (a' := 192) (b' := 2752) (by decide +kernel) (by decide +kernel) (by decide +kernel) (by decide +kernel) (by decide +kernel) (by decide +kernel) (by decide +kernel)).trans ?_
  exact zn_callI (as := [.ref 1, .ref 2]) (st' := [.ref 1, .ref 0]) (by decide +kernel) rfl rfl rfl (ic_1 N xs) (by decide +kernel)
def sH_7 : List zz_S := [(11, 11, [some 1, none, none, none, none, none, none, none, none, none, none]), (10, 2, [some 2, some 9]), (3, 6, [some 3, some 4, some 5, some 6, some 7, some 8]), (0, 40, []), (0, 40, []), (0, 40, []), (0, 40, []), (0, 40, []), (0, 40, []), (0, 6, [])]
def sH_8 : List zz_S := [(11, 11, [some 1, none, none, none, none, none, none, none, none, none, none]), (10, 2, [some 2, some 9]), (3, 6, [some 3, some 4, some 5, some 6, some 7, some 8]), (0, 40, []), (0, 40, []), (0, 40, []), (0, 40, []), (0, 40, []), (0, 40, []), (0, 6, []), (10, 2, [none, none])]
def mI_11 : Nat → Nat → Int32 := zz_rI mI_10 10 (fun _ => 0)
def mL_5 : Nat → Nat → Int64 := zz_rL mL_4 10 (fun _ => 0)
def sH_9 : List zz_S := [(11, 11, [some 1, none, none, none, none, none, none, none, none, none, none]), (10, 2, [some 2, some 9]), (3, 6, [some 3, some 4, some 5, some 6, some 7, some 8]), (0, 40, []), (0, 40, []), (0, 40, []), (0, 40, []), (0, 40, []), (0, 40, []), (0, 6, []), (10, 2, [none, none]), (3, 4, [some 12, some 13, some 14, some 15]), (0, 60, []), (0, 60, []), (0, 60, []), (0, 60, [])]
def mI_12 : Nat → Nat → Int32 := fun b => if 11 ≤ b then (fun _ => 0) else mI_11 b
def mL_6 : Nat → Nat → Int64 := fun b => if 11 ≤ b then (fun _ => 0) else mL_5 b
def sH_10 : List zz_S := [(11, 11, [some 1, none, none, none, none, none, none, none, none, none, none]), (10, 2, [some 2, some 9]), (3, 6, [some 3, some 4, some 5, some 6, some 7, some 8]), (0, 40, []), (0, 40, []), (0, 40, []), (0, 40, []), (0, 40, []), (0, 40, []), (0, 6, []), (10, 2, [some 11, none]), (3, 4, [some 12, some 13, some 14, some 15]), (0, 60, []), (0, 60, []), (0, 60, []), (0, 60, [])]
def sH_11 : List zz_S := [(11, 11, [some 1, none, none, none, none, none, none, none, none, none, none]), (10, 2, [some 2, some 9]), (3, 6, [some 3, some 4, some 5, some 6, some 7, some 8]), (0, 40, []), (0, 40, []), (0, 40, []), (0, 40, []), (0, 40, []), (0, 40, []), (0, 6, []), (10, 2, [some 11, none]), (3, 4, [some 12, some 13, some 14, some 15]), (0, 60, []), (0, 60, []), (0, 60, []), (0, 60, []), (0, 4, [])]
def mI_13 : Nat → Nat → Int32 := zz_rI mI_12 16 (fun _ => 0)
def mL_7 : Nat → Nat → Int64 := zz_rL mL_6 16 (fun _ => 0)
def sH_12 : List zz_S := [(11, 11, [some 1, none, none, none, none, none, none, none, none, none, none]), (10, 2, [some 2, some 9]), (3, 6, [some 3, some 4, some 5, some 6, some 7, some 8]), (0, 40, []), (0, 40, []), (0, 40, []), (0, 40, []), (0, 40, []), (0, 40, []), (0, 6, []), (10, 2, [some 11, some 16]), (3, 4, [some 12, some 13, some 14, some 15]), (0, 60, []), (0, 60, []), (0, 60, []), (0, 60, []), (0, 4, [])]
set_option maxRecDepth 100000 in
theorem ib_13 (N : Nat) (xs : Nat → Int32) : zz_X (zz_call_ 98) tb_6 0 [some (.ref 10), some (.ref 11), none] [] (zro N xs, sH_9, mI_12, mL_6, 1, 6) = zz_X (zz_call_ 98) tb_6 1 [some (.ref 10), some (.ref 11), some (.int 0)] [] (zro N xs, sH_12, mI_13, mL_7, 0, 2) := by
  refine (zz_X_eq sg_6 _ _ _ _).trans ?_
  refine (zn_aload rfl).trans ?_
  refine (zn_oinit (by decide +kernel)).trans ?_
  refine (zn_aload rfl).trans ?_
  refine (zn_aload rfl).trans ?_
  refine (zn_putR (sh' := sH_10) (s := (10, 2, [none, none])) rfl (by decide +kernel) (by decide +kernel) rfl).trans ?_
  refine (zn_aload rfl).trans ?_
  refine (zn_aload rfl).trans ?_
  refine (zn_alen (x := 4) (s := (3, 4, [some 12, some 13, some 14, some 15])) (by decide +kernel) rfl (by decide +kernel) (by decide +kernel)).trans ?_
  refine (zn_newa (sh' := sH_11) (n := 16) (k := 4) (a' := 0) (b' := 2) (by decide +kernel) (by decide +kernel) (by decide +kernel) (by decide +kernel) (by decide +kernel) (by decide +kernel)).trans ?_
  refine (zn_putR (sh' := sH_12) (s := (10, 2, [some 11, none])) rfl (by decide +kernel) (by decide +kernel) rfl).trans ?_
  refine (zn_push).trans ?_
  refine (zn_istore (ls' := [some (.ref 10), some (.ref 11), some (.int 0)]) rfl rfl).trans ?_
  exact zn_jump
def mI_14 : Nat → Nat → Int32 := zz_wI mI_13 16 0 (-1)
set_option maxRecDepth 100000 in
theorem ib_14 (N : Nat) (xs : Nat → Int32) : zz_X (zz_call_ 98) tb_6 1 [some (.ref 10), some (.ref 11), some (.int 0)] [] (zro N xs, sH_12, mI_13, mL_7, 0, 2) = zz_X (zz_call_ 98) tb_6 1 [some (.ref 10), some (.ref 11), some (.int 1)] [] (zro N xs, sH_12, mI_14, mL_7, 0, 2) := by
  refine (zz_X_eq sg_6 _ _ _ _).trans ?_
  refine (zn_iload rfl).trans ?_
  refine (zn_aload rfl).trans ?_
  refine (zn_getR (s := (10, 2, [some 11, some 16])) rfl (by decide +kernel) (by decide +kernel) rfl).trans ?_
  refine (zn_alen (x := 4) (s := (0, 4, [])) (by decide +kernel) rfl (by decide +kernel) (by decide +kernel)).trans ?_
  refine (zn_cgef (by decide +kernel)).trans ?_
  refine (zn_aload rfl).trans ?_
  refine (zn_getR (s := (10, 2, [some 11, some 16])) rfl (by decide +kernel) (by decide +kernel) rfl).trans ?_
  refine (zn_iload rfl).trans ?_
  refine (zn_push).trans ?_
  refine (zn_iast (j := 0) (s := (0, 4, [])) rfl (by decide +kernel) (by decide +kernel)).trans ?_
  refine (zn_iinc (y := 1) (ls' := [some (.ref 10), some (.ref 11), some (.int 1)]) rfl rfl (by decide +kernel) rfl).trans ?_
  exact zn_jump
def mI_15 : Nat → Nat → Int32 := zz_wI mI_14 16 1 (-1)
set_option maxRecDepth 100000 in
theorem ib_15 (N : Nat) (xs : Nat → Int32) : zz_X (zz_call_ 98) tb_6 1 [some (.ref 10), some (.ref 11), some (.int 1)] [] (zro N xs, sH_12, mI_14, mL_7, 0, 2) = zz_X (zz_call_ 98) tb_6 1 [some (.ref 10), some (.ref 11), some (.int 2)] [] (zro N xs, sH_12, mI_15, mL_7, 0, 2) := by
  refine (zz_X_eq sg_6 _ _ _ _).trans ?_
  refine (zn_iload rfl).trans ?_
  refine (zn_aload rfl).trans ?_
  refine (zn_getR (s := (10, 2, [some 11, some 16])) rfl (by decide +kernel) (by decide +kernel) rfl).trans ?_
  refine (zn_alen (x := 4) (s := (0, 4, [])) (by decide +kernel) rfl (by decide +kernel) (by decide +kernel)).trans ?_
  refine (zn_cgef (by decide +kernel)).trans ?_
  refine (zn_aload rfl).trans ?_
  refine (zn_getR (s := (10, 2, [some 11, some 16])) rfl (by decide +kernel) (by decide +kernel) rfl).trans ?_
  refine (zn_iload rfl).trans ?_
  refine (zn_push).trans ?_
  refine (zn_iast (j := 1) (s := (0, 4, [])) rfl (by decide +kernel) (by decide +kernel)).trans ?_
  refine (zn_iinc (y := 2) (ls' := [some (.ref 10), some (.ref 11), some (.int 2)]) rfl rfl (by decide +kernel) rfl).trans ?_
  exact zn_jump
def mI_16 : Nat → Nat → Int32 := zz_wI mI_15 16 2 (-1)
set_option maxRecDepth 100000 in
theorem ib_16 (N : Nat) (xs : Nat → Int32) : zz_X (zz_call_ 98) tb_6 1 [some (.ref 10), some (.ref 11), some (.int 2)] [] (zro N xs, sH_12, mI_15, mL_7, 0, 2) = zz_X (zz_call_ 98) tb_6 1 [some (.ref 10), some (.ref 11), some (.int 3)] [] (zro N xs, sH_12, mI_16, mL_7, 0, 2) := by
  refine (zz_X_eq sg_6 _ _ _ _).trans ?_
  refine (zn_iload rfl).trans ?_
  refine (zn_aload rfl).trans ?_
  refine (zn_getR (s := (10, 2, [some 11, some 16])) rfl (by decide +kernel) (by decide +kernel) rfl).trans ?_
  refine (zn_alen (x := 4) (s := (0, 4, [])) (by decide +kernel) rfl (by decide +kernel) (by decide +kernel)).trans ?_
  refine (zn_cgef (by decide +kernel)).trans ?_
  refine (zn_aload rfl).trans ?_
  refine (zn_getR (s := (10, 2, [some 11, some 16])) rfl (by decide +kernel) (by decide +kernel) rfl).trans ?_
  refine (zn_iload rfl).trans ?_
  refine (zn_push).trans ?_
  refine (zn_iast (j := 2) (s := (0, 4, [])) rfl (by decide +kernel) (by decide +kernel)).trans ?_
  refine (zn_iinc (y := 3) (ls' := [some (.ref 10), some (.ref 11), some (.int 3)]) rfl rfl (by decide +kernel) rfl).trans ?_
  exact zn_jump
def mI_17 : Nat → Nat → Int32 := zz_wI mI_16 16 3 (-1)
set_option maxRecDepth 100000 in
theorem ib_17 (N : Nat) (xs : Nat → Int32) : zz_X (zz_call_ 98) tb_6 1 [some (.ref 10), some (.ref 11), some (.int 3)] [] (zro N xs, sH_12, mI_16, mL_7, 0, 2) = zz_X (zz_call_ 98) tb_6 1 [some (.ref 10), some (.ref 11), some (.int 4)] [] (zro N xs, sH_12, mI_17, mL_7, 0, 2) := by
  refine (zz_X_eq sg_6 _ _ _ _).trans ?_
  refine (zn_iload rfl).trans ?_
  refine (zn_aload rfl).trans ?_
  refine (zn_getR (s := (10, 2, [some 11, some 16])) rfl (by decide +kernel) (by decide +kernel) rfl).trans ?_
  refine (zn_alen (x := 4) (s := (0, 4, [])) (by decide +kernel) rfl (by decide +kernel) (by decide +kernel)).trans ?_
  refine (zn_cgef (by decide +kernel)).trans ?_
  refine (zn_aload rfl).trans ?_
  refine (zn_getR (s := (10, 2, [some 11, some 16])) rfl (by decide +kernel) (by decide +kernel) rfl).trans ?_
  refine (zn_iload rfl).trans ?_
  refine (zn_push).trans ?_
  refine (zn_iast (j := 3) (s := (0, 4, [])) rfl (by decide +kernel) (by decide +kernel)).trans ?_
  refine (zn_iinc (y := 4) (ls' := [some (.ref 10), some (.ref 11), some (.int 4)]) rfl rfl (by decide +kernel) rfl).trans ?_
  exact zn_jump
set_option maxRecDepth 100000 in
theorem ib_18 (N : Nat) (xs : Nat → Int32) : zz_X (zz_call_ 98) tb_6 1 [some (.ref 10), some (.ref 11), some (.int 4)] [] (zro N xs, sH_12, mI_17, mL_7, 0, 2) = zz_X (zz_call_ 98) tb_6 2 [some (.ref 10), some (.ref 11), some (.int 4)] [] (zro N xs, sH_12, mI_17, mL_7, 0, 2) := by
  refine (zz_X_eq sg_6 _ _ _ _).trans ?_
  refine (zn_iload rfl).trans ?_
  refine (zn_aload rfl).trans ?_
  refine (zn_getR (s := (10, 2, [some 11, some 16])) rfl (by decide +kernel) (by decide +kernel) rfl).trans ?_
  refine (zn_alen (x := 4) (s := (0, 4, [])) (by decide +kernel) rfl (by decide +kernel) (by decide +kernel)).trans ?_
  exact zn_cget (by decide +kernel)
set_option maxRecDepth 100000 in
theorem ib_19 (N : Nat) (xs : Nat → Int32) : zz_X (zz_call_ 98) tb_6 2 [some (.ref 10), some (.ref 11), some (.int 4)] [] (zro N xs, sH_12, mI_17, mL_7, 0, 2) = some (none, (zro N xs, sH_12, mI_17, mL_7, 0, 2)) := by
  refine (zz_X_eq sg_6 _ _ _ _).trans ?_
  exact zn_vret
set_option maxRecDepth 100000 in
theorem ic_2 (N : Nat) (xs : Nat → Int32) : zz_call_ 99 6 [.ref 10, .ref 11] (zro N xs, sH_9, mI_12, mL_6, 185, 2500) = some (none, (zro N xs, sH_12, mI_17, mL_7, 184, 2494)) := zi_of (d := 98) (r := (none, (zro N xs, sH_12, mI_17, mL_7, 0, 2))) mk_6 rfl rfl rfl ((ib_13 N xs).trans ((ib_14 N xs).trans ((ib_15 N xs).trans ((ib_16 N xs).trans ((ib_17 N xs).trans ((ib_18 N xs).trans (ib_19 N xs))))))) rfl
set_option maxRecDepth 100000 in
theorem ib_12 (N : Nat) (xs : Nat → Int32) : zz_X (zz_call_ 99) tb_7 1 [some (.ref 0)] [.ref 1, .ref 0] (zro N xs, sH_6, mI_10, mL_4, 191, 2746) = zz_X (zz_call_ 99) tb_7 2 [some (.ref 0)] [.ref 10, .ref 0] (zro N xs, sH_12, mI_17, mL_7, 184, 2494) := by
  refine (zz_X_eq sg_7 _ _ _ _).trans ?_
  refine (zn_putR (sh' := sH_7) (s := (11, 11, [none, none, none, none, none, none, none, none, none, none, none])) rfl (by decide +kernel) (by decide +kernel) rfl).trans ?_
  refine (zn_aload rfl).trans ?_
  refine (zn_new (sh' := sH_8) (n := 10) (a' := 190) (b' := 2744) (by decide +kernel) (by decide +kernel) (by decide +kernel) (by decide +kernel) (by decide +kernel)).trans ?_
  refine (zn_dup).trans ?_
  refine (zn_push).trans ?_
  refine (zn_push).trans ?_
  refine (zn_mna (sh' := sH_9) (n := 11) (k := 4) (j := 60) (a' := 185) (b' := 2500) (by decide +kernel) (by decide +kernel) (by decide +kernel) (by decide +kernel) (by decide +kernel) (by decide +kernel) (by decide +kernel)).trans ?_
  exact zn_callI (as := [.ref 10, .ref 11]) (st' := [.ref 10, .ref 0]) (by decide +kernel) rfl rfl rfl (ic_2 N xs) (by decide +kernel)
def sH_13 : List zz_S := [(11, 11, [some 1, some 10, none, none, none, none, none, none, none, none, none]), (10, 2, [some 2, some 9]), (3, 6, [some 3, some 4, some 5, some 6, some 7, some 8]), (0, 40, []), (0, 40, []), (0, 40, []), (0, 40, []), (0, 40, []), (0, 40, []), (0, 6, []), (10, 2, [some 11, some 16]), (3, 4, [some 12, some 13, some 14, some 15]), (0, 60, []), (0, 60, []), (0, 60, []), (0, 60, []), (0, 4, [])]
def sH_14 : List zz_S := [(11, 11, [some 1, some 10, none, none, none, none, none, none, none, none, none]), (10, 2, [some 2, some 9]), (3, 6, [some 3, some 4, some 5, some 6, some 7, some 8]), (0, 40, []), (0, 40, []), (0, 40, []), (0, 40, []), (0, 40, []), (0, 40, []), (0, 6, []), (10, 2, [some 11, some 16]), (3, 4, [some 12, some 13, some 14, some 15]), (0, 60, []), (0, 60, []), (0, 60, []), (0, 60, []), (0, 4, []), (9, 8, [none, none, none, none, none, none, none, none])]
def mI_18 : Nat → Nat → Int32 := zz_rI mI_17 17 (fun _ => 0)
def mL_8 : Nat → Nat → Int64 := zz_rL mL_7 17 (fun _ => 0)
def sH_15 : List zz_S := [(11, 11, [some 1, some 10, none, none, none, none, none, none, none, none, none]), (10, 2, [some 2, some 9]), (3, 6, [some 3, some 4, some 5, some 6, some 7, some 8]), (0, 40, []), (0, 40, []), (0, 40, []), (0, 40, []), (0, 40, []), (0, 40, []), (0, 6, []), (10, 2, [some 11, some 16]), (3, 4, [some 12, some 13, some 14, some 15]), (0, 60, []), (0, 60, []), (0, 60, []), (0, 60, []), (0, 4, []), (9, 8, [none, none, none, none, none, none, none, none]), (0, 7, [])]
def mI_19 : Nat → Nat → Int32 := zz_rI mI_18 18 (fun _ => 0)
def mL_9 : Nat → Nat → Int64 := zz_rL mL_8 18 (fun _ => 0)
def sH_16 : List zz_S := [(11, 11, [some 1, some 10, none, none, none, none, none, none, none, none, none]), (10, 2, [some 2, some 9]), (3, 6, [some 3, some 4, some 5, some 6, some 7, some 8]), (0, 40, []), (0, 40, []), (0, 40, []), (0, 40, []), (0, 40, []), (0, 40, []), (0, 6, []), (10, 2, [some 11, some 16]), (3, 4, [some 12, some 13, some 14, some 15]), (0, 60, []), (0, 60, []), (0, 60, []), (0, 60, []), (0, 4, []), (9, 8, [some 18, none, none, none, none, none, none, none]), (0, 7, [])]
def sH_17 : List zz_S := [(11, 11, [some 1, some 10, none, none, none, none, none, none, none, none, none]), (10, 2, [some 2, some 9]), (3, 6, [some 3, some 4, some 5, some 6, some 7, some 8]), (0, 40, []), (0, 40, []), (0, 40, []), (0, 40, []), (0, 40, []), (0, 40, []), (0, 6, []), (10, 2, [some 11, some 16]), (3, 4, [some 12, some 13, some 14, some 15]), (0, 60, []), (0, 60, []), (0, 60, []), (0, 60, []), (0, 4, []), (9, 8, [some 18, none, none, none, none, none, none, none]), (0, 7, []), (0, 6, [])]
def mI_20 : Nat → Nat → Int32 := zz_rI mI_19 19 (fun _ => 0)
def mL_10 : Nat → Nat → Int64 := zz_rL mL_9 19 (fun _ => 0)
def sH_18 : List zz_S := [(11, 11, [some 1, some 10, none, none, none, none, none, none, none, none, none]), (10, 2, [some 2, some 9]), (3, 6, [some 3, some 4, some 5, some 6, some 7, some 8]), (0, 40, []), (0, 40, []), (0, 40, []), (0, 40, []), (0, 40, []), (0, 40, []), (0, 6, []), (10, 2, [some 11, some 16]), (3, 4, [some 12, some 13, some 14, some 15]), (0, 60, []), (0, 60, []), (0, 60, []), (0, 60, []), (0, 4, []), (9, 8, [some 18, some 19, none, none, none, none, none, none]), (0, 7, []), (0, 6, [])]
def sH_19 : List zz_S := [(11, 11, [some 1, some 10, none, none, none, none, none, none, none, none, none]), (10, 2, [some 2, some 9]), (3, 6, [some 3, some 4, some 5, some 6, some 7, some 8]), (0, 40, []), (0, 40, []), (0, 40, []), (0, 40, []), (0, 40, []), (0, 40, []), (0, 6, []), (10, 2, [some 11, some 16]), (3, 4, [some 12, some 13, some 14, some 15]), (0, 60, []), (0, 60, []), (0, 60, []), (0, 60, []), (0, 4, []), (9, 8, [some 18, some 19, none, none, none, none, none, none]), (0, 7, []), (0, 6, []), (0, 6, [])]
def mI_21 : Nat → Nat → Int32 := zz_rI mI_20 20 (fun _ => 0)
def mL_11 : Nat → Nat → Int64 := zz_rL mL_10 20 (fun _ => 0)
def sH_20 : List zz_S := [(11, 11, [some 1, some 10, none, none, none, none, none, none, none, none, none]), (10, 2, [some 2, some 9]), (3, 6, [some 3, some 4, some 5, some 6, some 7, some 8]), (0, 40, []), (0, 40, []), (0, 40, []), (0, 40, []), (0, 40, []), (0, 40, []), (0, 6, []), (10, 2, [some 11, some 16]), (3, 4, [some 12, some 13, some 14, some 15]), (0, 60, []), (0, 60, []), (0, 60, []), (0, 60, []), (0, 4, []), (9, 8, [some 18, some 19, some 20, none, none, none, none, none]), (0, 7, []), (0, 6, []), (0, 6, [])]
def sH_21 : List zz_S := [(11, 11, [some 1, some 10, none, none, none, none, none, none, none, none, none]), (10, 2, [some 2, some 9]), (3, 6, [some 3, some 4, some 5, some 6, some 7, some 8]), (0, 40, []), (0, 40, []), (0, 40, []), (0, 40, []), (0, 40, []), (0, 40, []), (0, 6, []), (10, 2, [some 11, some 16]), (3, 4, [some 12, some 13, some 14, some 15]), (0, 60, []), (0, 60, []), (0, 60, []), (0, 60, []), (0, 4, []), (9, 8, [some 18, some 19, some 20, none, none, none, none, none]), (0, 7, []), (0, 6, []), (0, 6, []), (0, 6, [])]
def mI_22 : Nat → Nat → Int32 := zz_rI mI_21 21 (fun _ => 0)
def mL_12 : Nat → Nat → Int64 := zz_rL mL_11 21 (fun _ => 0)
def sH_22 : List zz_S := [(11, 11, [some 1, some 10, none, none, none, none, none, none, none, none, none]), (10, 2, [some 2, some 9]), (3, 6, [some 3, some 4, some 5, some 6, some 7, some 8]), (0, 40, []), (0, 40, []), (0, 40, []), (0, 40, []), (0, 40, []), (0, 40, []), (0, 6, []), (10, 2, [some 11, some 16]), (3, 4, [some 12, some 13, some 14, some 15]), (0, 60, []), (0, 60, []), (0, 60, []), (0, 60, []), (0, 4, []), (9, 8, [some 18, some 19, some 20, some 21, none, none, none, none]), (0, 7, []), (0, 6, []), (0, 6, []), (0, 6, [])]
def sH_23 : List zz_S := [(11, 11, [some 1, some 10, none, none, none, none, none, none, none, none, none]), (10, 2, [some 2, some 9]), (3, 6, [some 3, some 4, some 5, some 6, some 7, some 8]), (0, 40, []), (0, 40, []), (0, 40, []), (0, 40, []), (0, 40, []), (0, 40, []), (0, 6, []), (10, 2, [some 11, some 16]), (3, 4, [some 12, some 13, some 14, some 15]), (0, 60, []), (0, 60, []), (0, 60, []), (0, 60, []), (0, 4, []), (9, 8, [some 18, some 19, some 20, some 21, none, none, none, none]), (0, 7, []), (0, 6, []), (0, 6, []), (0, 6, []), (0, 6, [])]
def mI_23 : Nat → Nat → Int32 := zz_rI mI_22 22 (fun _ => 0)
def mL_13 : Nat → Nat → Int64 := zz_rL mL_12 22 (fun _ => 0)
def sH_24 : List zz_S := [(11, 11, [some 1, some 10, none, none, none, none, none, none, none, none, none]), (10, 2, [some 2, some 9]), (3, 6, [some 3, some 4, some 5, some 6, some 7, some 8]), (0, 40, []), (0, 40, []), (0, 40, []), (0, 40, []), (0, 40, []), (0, 40, []), (0, 6, []), (10, 2, [some 11, some 16]), (3, 4, [some 12, some 13, some 14, some 15]), (0, 60, []), (0, 60, []), (0, 60, []), (0, 60, []), (0, 4, []), (9, 8, [some 18, some 19, some 20, some 21, some 22, none, none, none]), (0, 7, []), (0, 6, []), (0, 6, []), (0, 6, []), (0, 6, [])]
set_option maxRecDepth 100000 in
theorem ib_21 (N : Nat) (xs : Nat → Int32) : zz_X (zz_call_ 98) tb_5 0 [some (.ref 17)] [] (zro N xs, sH_14, mI_18, mL_8, 5, 31) = some (none, (zro N xs, sH_24, mI_23, mL_13, 0, 0)) := by
  refine (zz_X_eq sg_5 _ _ _ _).trans ?_
  refine (zn_aload rfl).trans ?_
  refine (zn_oinit (by decide +kernel)).trans ?_
  refine (zn_aload rfl).trans ?_
  refine (zn_push).trans ?_
  refine (zn_newa (sh' := sH_15) (n := 18) (k := 7) (a' := 4) (b' := 24) (by decide +kernel) (by decide +kernel) (by decide +kernel) (by decide +kernel) (by decide +kernel) (by decide +kernel)).trans ?_
  refine (zn_putR (sh' := sH_16) (s := (9, 8, [none, none, none, none, none, none, none, none])) rfl (by decide +kernel) (by decide +kernel) rfl).trans ?_
  refine (zn_aload rfl).trans ?_
  refine (zn_push).trans ?_
  refine (zn_newa (sh' := sH_17) (n := 19) (k := 6) (a' := 3) (b' := 18) (by decide +kernel) (by decide +kernel) (by decide +kernel) (by decide +kernel) (by decide +kernel) (by decide +kernel)).trans ?_
  refine (zn_putR (sh' := sH_18) (s := (9, 8, [some 18, none, none, none, none, none, none, none])) rfl (by decide +kernel) (by decide +kernel) rfl).trans ?_
  refine (zn_aload rfl).trans ?_
  refine (zn_push).trans ?_
  refine (zn_newa (sh' := sH_19) (n := 20) (k := 6) (a' := 2) (b' := 12) (by decide +kernel) (by decide +kernel) (by decide +kernel) (by decide +kernel) (by decide +kernel) (by decide +kernel)).trans ?_
  refine (zn_putR (sh' := sH_20) (s := (9, 8, [some 18, some 19, none, none, none, none, none, none])) rfl (by decide +kernel) (by decide +kernel) rfl).trans ?_
  refine (zn_aload rfl).trans ?_
  refine (zn_push).trans ?_
  refine (zn_newa (sh' := sH_21) (n := 21) (k := 6) (a' := 1) (b' := 6) (by decide +kernel) (by decide +kernel) (by decide +kernel) (by decide +kernel) (by decide +kernel) (by decide +kernel)).trans ?_
  refine (zn_putR (sh' := sH_22) (s := (9, 8, [some 18, some 19, some 20, none, none, none, none, none])) rfl (by decide +kernel) (by decide +kernel) rfl).trans ?_
  refine (zn_aload rfl).trans ?_
  refine (zn_push).trans ?_
  refine (zn_newa (sh' := sH_23) (n := 22) (k := 6) (a' := 0) (b' := 0) (by decide +kernel) (by decide +kernel) (by decide +kernel) (by decide +kernel) (by decide +kernel) (by decide +kernel)).trans ?_
  refine (zn_putR (sh' := sH_24) (s := (9, 8, [some 18, some 19, some 20, some 21, none, none, none, none])) rfl (by decide +kernel) (by decide +kernel) rfl).trans ?_
  exact zn_vret
set_option maxRecDepth 100000 in
theorem ic_3 (N : Nat) (xs : Nat → Int32) : zz_call_ 99 5 [.ref 17] (zro N xs, sH_14, mI_18, mL_8, 183, 2486) = some (none, (zro N xs, sH_24, mI_23, mL_13, 178, 2455)) := zi_of (d := 98) (r := (none, (zro N xs, sH_24, mI_23, mL_13, 0, 0))) mk_5 rfl rfl rfl (ib_21 N xs) rfl
set_option maxRecDepth 100000 in
theorem ib_20 (N : Nat) (xs : Nat → Int32) : zz_X (zz_call_ 99) tb_7 2 [some (.ref 0)] [.ref 10, .ref 0] (zro N xs, sH_12, mI_17, mL_7, 184, 2494) = zz_X (zz_call_ 99) tb_7 3 [some (.ref 0)] [.ref 17, .ref 0] (zro N xs, sH_24, mI_23, mL_13, 178, 2455) := by
  refine (zz_X_eq sg_7 _ _ _ _).trans ?_
  refine (zn_putR (sh' := sH_13) (s := (11, 11, [some 1, none, none, none, none, none, none, none, none, none, none])) rfl (by decide +kernel) (by decide +kernel) rfl).trans ?_
  refine (zn_aload rfl).trans ?_
  refine (zn_new (sh' := sH_14) (n := 17) (a' := 183) (b' := 2486) (by decide +kernel) (by decide +kernel) (by decide +kernel) (by decide +kernel) (by decide +kernel)).trans ?_
  refine (zn_dup).trans ?_
  exact zn_callI (as := [.ref 17]) (st' := [.ref 17, .ref 0]) (by decide +kernel) rfl rfl rfl (ic_3 N xs) (by decide +kernel)
def sH_25 : List zz_S := [(11, 11, [some 1, some 10, some 17, none, none, none, none, none, none, none, none]), (10, 2, [some 2, some 9]), (3, 6, [some 3, some 4, some 5, some 6, some 7, some 8]), (0, 40, []), (0, 40, []), (0, 40, []), (0, 40, []), (0, 40, []), (0, 40, []), (0, 6, []), (10, 2, [some 11, some 16]), (3, 4, [some 12, some 13, some 14, some 15]), (0, 60, []), (0, 60, []), (0, 60, []), (0, 60, []), (0, 4, []), (9, 8, [some 18, some 19, some 20, some 21, some 22, none, none, none]), (0, 7, []), (0, 6, []), (0, 6, []), (0, 6, []), (0, 6, [])]
def sH_26 : List zz_S := [(11, 11, [some 1, some 10, some 17, none, none, none, none, none, none, none, none]), (10, 2, [some 2, some 9]), (3, 6, [some 3, some 4, some 5, some 6, some 7, some 8]), (0, 40, []), (0, 40, []), (0, 40, []), (0, 40, []), (0, 40, []), (0, 40, []), (0, 6, []), (10, 2, [some 11, some 16]), (3, 4, [some 12, some 13, some 14, some 15]), (0, 60, []), (0, 60, []), (0, 60, []), (0, 60, []), (0, 4, []), (9, 8, [some 18, some 19, some 20, some 21, some 22, none, none, none]), (0, 7, []), (0, 6, []), (0, 6, []), (0, 6, []), (0, 6, []), (6, 14, [none, none, none, none, none, none, none, none, none, none, none, none, none, none])]
def mI_24 : Nat → Nat → Int32 := zz_rI mI_23 23 (fun _ => 0)
def mL_14 : Nat → Nat → Int64 := zz_rL mL_13 23 (fun _ => 0)
def sH_27 : List zz_S := [(11, 11, [some 1, some 10, some 17, none, none, none, none, none, none, none, none]), (10, 2, [some 2, some 9]), (3, 6, [some 3, some 4, some 5, some 6, some 7, some 8]), (0, 40, []), (0, 40, []), (0, 40, []), (0, 40, []), (0, 40, []), (0, 40, []), (0, 6, []), (10, 2, [some 11, some 16]), (3, 4, [some 12, some 13, some 14, some 15]), (0, 60, []), (0, 60, []), (0, 60, []), (0, 60, []), (0, 4, []), (9, 8, [some 18, some 19, some 20, some 21, some 22, none, none, none]), (0, 7, []), (0, 6, []), (0, 6, []), (0, 6, []), (0, 6, []), (6, 14, [none, none, none, none, none, none, none, none, none, none, none, none, none, none]), (0, 7, [])]
def mI_25 : Nat → Nat → Int32 := zz_rI mI_24 24 (fun _ => 0)
def mL_15 : Nat → Nat → Int64 := zz_rL mL_14 24 (fun _ => 0)
def sH_28 : List zz_S := [(11, 11, [some 1, some 10, some 17, none, none, none, none, none, none, none, none]), (10, 2, [some 2, some 9]), (3, 6, [some 3, some 4, some 5, some 6, some 7, some 8]), (0, 40, []), (0, 40, []), (0, 40, []), (0, 40, []), (0, 40, []), (0, 40, []), (0, 6, []), (10, 2, [some 11, some 16]), (3, 4, [some 12, some 13, some 14, some 15]), (0, 60, []), (0, 60, []), (0, 60, []), (0, 60, []), (0, 4, []), (9, 8, [some 18, some 19, some 20, some 21, some 22, none, none, none]), (0, 7, []), (0, 6, []), (0, 6, []), (0, 6, []), (0, 6, []), (6, 14, [some 24, none, none, none, none, none, none, none, none, none, none, none, none, none]), (0, 7, [])]
def sH_29 : List zz_S := [(11, 11, [some 1, some 10, some 17, none, none, none, none, none, none, none, none]), (10, 2, [some 2, some 9]), (3, 6, [some 3, some 4, some 5, some 6, some 7, some 8]), (0, 40, []), (0, 40, []), (0, 40, []), (0, 40, []), (0, 40, []), (0, 40, []), (0, 6, []), (10, 2, [some 11, some 16]), (3, 4, [some 12, some 13, some 14, some 15]), (0, 60, []), (0, 60, []), (0, 60, []), (0, 60, []), (0, 4, []), (9, 8, [some 18, some 19, some 20, some 21, some 22, none, none, none]), (0, 7, []), (0, 6, []), (0, 6, []), (0, 6, []), (0, 6, []), (6, 14, [some 24, none, none, none, none, none, none, none, none, none, none, none, none, none]), (0, 7, []), (0, 6, [])]
def mI_26 : Nat → Nat → Int32 := zz_rI mI_25 25 (fun _ => 0)
def mL_16 : Nat → Nat → Int64 := zz_rL mL_15 25 (fun _ => 0)
def sH_30 : List zz_S := [(11, 11, [some 1, some 10, some 17, none, none, none, none, none, none, none, none]), (10, 2, [some 2, some 9]), (3, 6, [some 3, some 4, some 5, some 6, some 7, some 8]), (0, 40, []), (0, 40, []), (0, 40, []), (0, 40, []), (0, 40, []), (0, 40, []), (0, 6, []), (10, 2, [some 11, some 16]), (3, 4, [some 12, some 13, some 14, some 15]), (0, 60, []), (0, 60, []), (0, 60, []), (0, 60, []), (0, 4, []), (9, 8, [some 18, some 19, some 20, some 21, some 22, none, none, none]), (0, 7, []), (0, 6, []), (0, 6, []), (0, 6, []), (0, 6, []), (6, 14, [some 24, some 25, none, none, none, none, none, none, none, none, none, none, none, none]), (0, 7, []), (0, 6, [])]
def sH_31 : List zz_S := [(11, 11, [some 1, some 10, some 17, none, none, none, none, none, none, none, none]), (10, 2, [some 2, some 9]), (3, 6, [some 3, some 4, some 5, some 6, some 7, some 8]), (0, 40, []), (0, 40, []), (0, 40, []), (0, 40, []), (0, 40, []), (0, 40, []), (0, 6, []), (10, 2, [some 11, some 16]), (3, 4, [some 12, some 13, some 14, some 15]), (0, 60, []), (0, 60, []), (0, 60, []), (0, 60, []), (0, 4, []), (9, 8, [some 18, some 19, some 20, some 21, some 22, none, none, none]), (0, 7, []), (0, 6, []), (0, 6, []), (0, 6, []), (0, 6, []), (6, 14, [some 24, some 25, none, none, none, none, none, none, none, none, none, none, none, none]), (0, 7, []), (0, 6, []), (0, 6, [])]
def mI_27 : Nat → Nat → Int32 := zz_rI mI_26 26 (fun _ => 0)
def mL_17 : Nat → Nat → Int64 := zz_rL mL_16 26 (fun _ => 0)
def sH_32 : List zz_S := [(11, 11, [some 1, some 10, some 17, none, none, none, none, none, none, none, none]), (10, 2, [some 2, some 9]), (3, 6, [some 3, some 4, some 5, some 6, some 7, some 8]), (0, 40, []), (0, 40, []), (0, 40, []), (0, 40, []), (0, 40, []), (0, 40, []), (0, 6, []), (10, 2, [some 11, some 16]), (3, 4, [some 12, some 13, some 14, some 15]), (0, 60, []), (0, 60, []), (0, 60, []), (0, 60, []), (0, 4, []), (9, 8, [some 18, some 19, some 20, some 21, some 22, none, none, none]), (0, 7, []), (0, 6, []), (0, 6, []), (0, 6, []), (0, 6, []), (6, 14, [some 24, some 25, some 26, none, none, none, none, none, none, none, none, none, none, none]), (0, 7, []), (0, 6, []), (0, 6, [])]
def sH_33 : List zz_S := [(11, 11, [some 1, some 10, some 17, none, none, none, none, none, none, none, none]), (10, 2, [some 2, some 9]), (3, 6, [some 3, some 4, some 5, some 6, some 7, some 8]), (0, 40, []), (0, 40, []), (0, 40, []), (0, 40, []), (0, 40, []), (0, 40, []), (0, 6, []), (10, 2, [some 11, some 16]), (3, 4, [some 12, some 13, some 14, some 15]), (0, 60, []), (0, 60, []), (0, 60, []), (0, 60, []), (0, 4, []), (9, 8, [some 18, some 19, some 20, some 21, some 22, none, none, none]), (0, 7, []), (0, 6, []), (0, 6, []), (0, 6, []), (0, 6, []), (6, 14, [some 24, some 25, some 26, none, none, none, none, none, none, none, none, none, none, none]), (0, 7, []), (0, 6, []), (0, 6, []), (0, 6, [])]
def mI_28 : Nat → Nat → Int32 := zz_rI mI_27 27 (fun _ => 0)
def mL_18 : Nat → Nat → Int64 := zz_rL mL_17 27 (fun _ => 0)
def sH_34 : List zz_S := [(11, 11, [some 1, some 10, some 17, none, none, none, none, none, none, none, none]), (10, 2, [some 2, some 9]), (3, 6, [some 3, some 4, some 5, some 6, some 7, some 8]), (0, 40, []), (0, 40, []), (0, 40, []), (0, 40, []), (0, 40, []), (0, 40, []), (0, 6, []), (10, 2, [some 11, some 16]), (3, 4, [some 12, some 13, some 14, some 15]), (0, 60, []), (0, 60, []), (0, 60, []), (0, 60, []), (0, 4, []), (9, 8, [some 18, some 19, some 20, some 21, some 22, none, none, none]), (0, 7, []), (0, 6, []), (0, 6, []), (0, 6, []), (0, 6, []), (6, 14, [some 24, some 25, some 26, some 27, none, none, none, none, none, none, none, none, none, none]), (0, 7, []), (0, 6, []), (0, 6, []), (0, 6, [])]
def sH_35 : List zz_S := [(11, 11, [some 1, some 10, some 17, none, none, none, none, none, none, none, none]), (10, 2, [some 2, some 9]), (3, 6, [some 3, some 4, some 5, some 6, some 7, some 8]), (0, 40, []), (0, 40, []), (0, 40, []), (0, 40, []), (0, 40, []), (0, 40, []), (0, 6, []), (10, 2, [some 11, some 16]), (3, 4, [some 12, some 13, some 14, some 15]), (0, 60, []), (0, 60, []), (0, 60, []), (0, 60, []), (0, 4, []), (9, 8, [some 18, some 19, some 20, some 21, some 22, none, none, none]), (0, 7, []), (0, 6, []), (0, 6, []), (0, 6, []), (0, 6, []), (6, 14, [some 24, some 25, some 26, some 27, none, none, none, none, none, none, none, none, none, none]), (0, 7, []), (0, 6, []), (0, 6, []), (0, 6, []), (0, 6, [])]
def mI_29 : Nat → Nat → Int32 := zz_rI mI_28 28 (fun _ => 0)
def mL_19 : Nat → Nat → Int64 := zz_rL mL_18 28 (fun _ => 0)
def sH_36 : List zz_S := [(11, 11, [some 1, some 10, some 17, none, none, none, none, none, none, none, none]), (10, 2, [some 2, some 9]), (3, 6, [some 3, some 4, some 5, some 6, some 7, some 8]), (0, 40, []), (0, 40, []), (0, 40, []), (0, 40, []), (0, 40, []), (0, 40, []), (0, 6, []), (10, 2, [some 11, some 16]), (3, 4, [some 12, some 13, some 14, some 15]), (0, 60, []), (0, 60, []), (0, 60, []), (0, 60, []), (0, 4, []), (9, 8, [some 18, some 19, some 20, some 21, some 22, none, none, none]), (0, 7, []), (0, 6, []), (0, 6, []), (0, 6, []), (0, 6, []), (6, 14, [some 24, some 25, some 26, some 27, some 28, none, none, none, none, none, none, none, none, none]), (0, 7, []), (0, 6, []), (0, 6, []), (0, 6, []), (0, 6, [])]
def sH_37 : List zz_S := [(11, 11, [some 1, some 10, some 17, none, none, none, none, none, none, none, none]), (10, 2, [some 2, some 9]), (3, 6, [some 3, some 4, some 5, some 6, some 7, some 8]), (0, 40, []), (0, 40, []), (0, 40, []), (0, 40, []), (0, 40, []), (0, 40, []), (0, 6, []), (10, 2, [some 11, some 16]), (3, 4, [some 12, some 13, some 14, some 15]), (0, 60, []), (0, 60, []), (0, 60, []), (0, 60, []), (0, 4, []), (9, 8, [some 18, some 19, some 20, some 21, some 22, none, none, none]), (0, 7, []), (0, 6, []), (0, 6, []), (0, 6, []), (0, 6, []), (6, 14, [some 24, some 25, some 26, some 27, some 28, none, none, none, none, none, none, none, none, none]), (0, 7, []), (0, 6, []), (0, 6, []), (0, 6, []), (0, 6, []), (0, 6, [])]
def mI_30 : Nat → Nat → Int32 := zz_rI mI_29 29 (fun _ => 0)
def mL_20 : Nat → Nat → Int64 := zz_rL mL_19 29 (fun _ => 0)
def sH_38 : List zz_S := [(11, 11, [some 1, some 10, some 17, none, none, none, none, none, none, none, none]), (10, 2, [some 2, some 9]), (3, 6, [some 3, some 4, some 5, some 6, some 7, some 8]), (0, 40, []), (0, 40, []), (0, 40, []), (0, 40, []), (0, 40, []), (0, 40, []), (0, 6, []), (10, 2, [some 11, some 16]), (3, 4, [some 12, some 13, some 14, some 15]), (0, 60, []), (0, 60, []), (0, 60, []), (0, 60, []), (0, 4, []), (9, 8, [some 18, some 19, some 20, some 21, some 22, none, none, none]), (0, 7, []), (0, 6, []), (0, 6, []), (0, 6, []), (0, 6, []), (6, 14, [some 24, some 25, some 26, some 27, some 28, some 29, none, none, none, none, none, none, none, none]), (0, 7, []), (0, 6, []), (0, 6, []), (0, 6, []), (0, 6, []), (0, 6, [])]
def sH_39 : List zz_S := [(11, 11, [some 1, some 10, some 17, none, none, none, none, none, none, none, none]), (10, 2, [some 2, some 9]), (3, 6, [some 3, some 4, some 5, some 6, some 7, some 8]), (0, 40, []), (0, 40, []), (0, 40, []), (0, 40, []), (0, 40, []), (0, 40, []), (0, 6, []), (10, 2, [some 11, some 16]), (3, 4, [some 12, some 13, some 14, some 15]), (0, 60, []), (0, 60, []), (0, 60, []), (0, 60, []), (0, 4, []), (9, 8, [some 18, some 19, some 20, some 21, some 22, none, none, none]), (0, 7, []), (0, 6, []), (0, 6, []), (0, 6, []), (0, 6, []), (6, 14, [some 24, some 25, some 26, some 27, some 28, some 29, none, none, none, none, none, none, none, none]), (0, 7, []), (0, 6, []), (0, 6, []), (0, 6, []), (0, 6, []), (0, 6, []), (0, 40, [])]
def mI_31 : Nat → Nat → Int32 := zz_rI mI_30 30 (fun _ => 0)
def mL_21 : Nat → Nat → Int64 := zz_rL mL_20 30 (fun _ => 0)
def sH_40 : List zz_S := [(11, 11, [some 1, some 10, some 17, none, none, none, none, none, none, none, none]), (10, 2, [some 2, some 9]), (3, 6, [some 3, some 4, some 5, some 6, some 7, some 8]), (0, 40, []), (0, 40, []), (0, 40, []), (0, 40, []), (0, 40, []), (0, 40, []), (0, 6, []), (10, 2, [some 11, some 16]), (3, 4, [some 12, some 13, some 14, some 15]), (0, 60, []), (0, 60, []), (0, 60, []), (0, 60, []), (0, 4, []), (9, 8, [some 18, some 19, some 20, some 21, some 22, none, none, none]), (0, 7, []), (0, 6, []), (0, 6, []), (0, 6, []), (0, 6, []), (6, 14, [some 24, some 25, some 26, some 27, some 28, some 29, some 30, none, none, none, none, none, none, none]), (0, 7, []), (0, 6, []), (0, 6, []), (0, 6, []), (0, 6, []), (0, 6, []), (0, 40, [])]
def sH_41 : List zz_S := [(11, 11, [some 1, some 10, some 17, none, none, none, none, none, none, none, none]), (10, 2, [some 2, some 9]), (3, 6, [some 3, some 4, some 5, some 6, some 7, some 8]), (0, 40, []), (0, 40, []), (0, 40, []), (0, 40, []), (0, 40, []), (0, 40, []), (0, 6, []), (10, 2, [some 11, some 16]), (3, 4, [some 12, some 13, some 14, some 15]), (0, 60, []), (0, 60, []), (0, 60, []), (0, 60, []), (0, 4, []), (9, 8, [some 18, some 19, some 20, some 21, some 22, none, none, none]), (0, 7, []), (0, 6, []), (0, 6, []), (0, 6, []), (0, 6, []), (6, 14, [some 24, some 25, some 26, some 27, some 28, some 29, some 30, none, none, none, none, none, none, none]), (0, 7, []), (0, 6, []), (0, 6, []), (0, 6, []), (0, 6, []), (0, 6, []), (0, 40, []), (3, 3, [some 32, some 33, some 34]), (0, 40, []), (0, 40, []), (0, 40, [])]
def mI_32 : Nat → Nat → Int32 := fun b => if 31 ≤ b then (fun _ => 0) else mI_31 b
def mL_22 : Nat → Nat → Int64 := fun b => if 31 ≤ b then (fun _ => 0) else mL_21 b
def sH_42 : List zz_S := [(11, 11, [some 1, some 10, some 17, none, none, none, none, none, none, none, none]), (10, 2, [some 2, some 9]), (3, 6, [some 3, some 4, some 5, some 6, some 7, some 8]), (0, 40, []), (0, 40, []), (0, 40, []), (0, 40, []), (0, 40, []), (0, 40, []), (0, 6, []), (10, 2, [some 11, some 16]), (3, 4, [some 12, some 13, some 14, some 15]), (0, 60, []), (0, 60, []), (0, 60, []), (0, 60, []), (0, 4, []), (9, 8, [some 18, some 19, some 20, some 21, some 22, none, none, none]), (0, 7, []), (0, 6, []), (0, 6, []), (0, 6, []), (0, 6, []), (6, 14, [some 24, some 25, some 26, some 27, some 28, some 29, some 30, some 31, none, none, none, none, none, none]), (0, 7, []), (0, 6, []), (0, 6, []), (0, 6, []), (0, 6, []), (0, 6, []), (0, 40, []), (3, 3, [some 32, some 33, some 34]), (0, 40, []), (0, 40, []), (0, 40, [])]
def sH_43 : List zz_S := [(11, 11, [some 1, some 10, some 17, none, none, none, none, none, none, none, none]), (10, 2, [some 2, some 9]), (3, 6, [some 3, some 4, some 5, some 6, some 7, some 8]), (0, 40, []), (0, 40, []), (0, 40, []), (0, 40, []), (0, 40, []), (0, 40, []), (0, 6, []), (10, 2, [some 11, some 16]), (3, 4, [some 12, some 13, some 14, some 15]), (0, 60, []), (0, 60, []), (0, 60, []), (0, 60, []), (0, 4, []), (9, 8, [some 18, some 19, some 20, some 21, some 22, none, none, none]), (0, 7, []), (0, 6, []), (0, 6, []), (0, 6, []), (0, 6, []), (6, 14, [some 24, some 25, some 26, some 27, some 28, some 29, some 30, some 31, none, none, none, none, none, none]), (0, 7, []), (0, 6, []), (0, 6, []), (0, 6, []), (0, 6, []), (0, 6, []), (0, 40, []), (3, 3, [some 32, some 33, some 34]), (0, 40, []), (0, 40, []), (0, 40, []), (0, 3, [])]
def mI_33 : Nat → Nat → Int32 := zz_rI mI_32 35 (fun _ => 0)
def mL_23 : Nat → Nat → Int64 := zz_rL mL_22 35 (fun _ => 0)
def sH_44 : List zz_S := [(11, 11, [some 1, some 10, some 17, none, none, none, none, none, none, none, none]), (10, 2, [some 2, some 9]), (3, 6, [some 3, some 4, some 5, some 6, some 7, some 8]), (0, 40, []), (0, 40, []), (0, 40, []), (0, 40, []), (0, 40, []), (0, 40, []), (0, 6, []), (10, 2, [some 11, some 16]), (3, 4, [some 12, some 13, some 14, some 15]), (0, 60, []), (0, 60, []), (0, 60, []), (0, 60, []), (0, 4, []), (9, 8, [some 18, some 19, some 20, some 21, some 22, none, none, none]), (0, 7, []), (0, 6, []), (0, 6, []), (0, 6, []), (0, 6, []), (6, 14, [some 24, some 25, some 26, some 27, some 28, some 29, some 30, some 31, some 35, none, none, none, none, none]), (0, 7, []), (0, 6, []), (0, 6, []), (0, 6, []), (0, 6, []), (0, 6, []), (0, 40, []), (3, 3, [some 32, some 33, some 34]), (0, 40, []), (0, 40, []), (0, 40, []), (0, 3, [])]
set_option maxRecDepth 100000 in
theorem ib_23 (N : Nat) (xs : Nat → Int32) : zz_X (zz_call_ 98) tb_3 0 [some (.ref 23), none] [] (zro N xs, sH_26, mI_24, mL_14, 12, 203) = zz_X (zz_call_ 98) tb_3 1 [some (.ref 23), some (.int 0)] [] (zro N xs, sH_44, mI_33, mL_23, 0, 0) := by
  refine (zz_X_eq sg_3 _ _ _ _).trans ?_
  refine (zn_aload rfl).trans ?_
  refine (zn_oinit (by decide +kernel)).trans ?_
  refine (zn_aload rfl).trans ?_
  refine (zn_push).trans ?_
  refine (zn_newa (sh' := sH_27) (n := 24) (k := 7) (a' := 11) (b' := 196) (by decide +kernel) (by decide +kernel) (by decide +kernel) (by decide +kernel) (by decide +kernel) (by decide +kernel)).trans ?_
  refine (zn_putR (sh' := sH_28) (s := (6, 14, [none, none, none, none, none, none, none, none, none, none, none, none, none, none])) rfl (by decide +kernel) (by decide +kernel) rfl).trans ?_
  refine (zn_aload rfl).trans ?_
  refine (zn_push).trans ?_
  refine (zn_newa (sh' := sH_29) (n := 25) (k := 6) (a' := 10) (b' := 190) (by decide +kernel) (by decide +kernel) (by decide +kernel) (by decide +kernel) (by decide +kernel) (by decide +kernel)).trans ?_
  refine (zn_putR (sh' := sH_30) (s := (6, 14, [some 24, none, none, none, none, none, none, none, none, none, none, none, none, none])) rfl (by decide +kernel) (by decide +kernel) rfl).trans ?_
  refine (zn_aload rfl).trans ?_
  refine (zn_push).trans ?_
  refine (zn_newa (sh' := sH_31) (n := 26) (k := 6) (a' := 9) (b' := 184) (by decide +kernel) (by decide +kernel) (by decide +kernel) (by decide +kernel) (by decide +kernel) (by decide +kernel)).trans ?_
  refine (zn_putR (sh' := sH_32) (s := (6, 14, [some 24, some 25, none, none, none, none, none, none, none, none, none, none, none, none])) rfl (by decide +kernel) (by decide +kernel) rfl).trans ?_
  refine (zn_aload rfl).trans ?_
  refine (zn_push).trans ?_
  refine (zn_newa (sh' := sH_33) (n := 27) (k := 6) (a' := 8) (b' := 178) (by decide +kernel) (by decide +kernel) (by decide +kernel) (by decide +kernel) (by decide +kernel) (by decide +kernel)).trans ?_
  refine (zn_putR (sh' := sH_34) (s := (6, 14, [some 24, some 25, some 26, none, none, none, none, none, none, none, none, none, none, none])) rfl (by decide +kernel) (by decide +kernel) rfl).trans ?_
  refine (zn_aload rfl).trans ?_
  refine (zn_push).trans ?_
  refine (zn_newa (sh' := sH_35) (n := 28) (k := 6) (a' := 7) (b' := 172) (by decide +kernel) (by decide +kernel) (by decide +kernel) (by decide +kernel) (by decide +kernel) (by decide +kernel)).trans ?_
  refine (zn_putR (sh' := sH_36) (s := (6, 14, [some 24, some 25, some 26, some 27, none, none, none, none, none, none, none, none, none, none])) rfl (by decide +kernel) (by decide +kernel) rfl).trans ?_
  refine (zn_aload rfl).trans ?_
  refine (zn_push).trans ?_
  refine (zn_newa (sh' := sH_37) (n := 29) (k := 6) (a' := 6) (b' := 166) (by decide +kernel) (by decide +kernel) (by decide +kernel) (by decide +kernel) (by decide +kernel) (by decide +kernel)).trans ?_
  refine (zn_putR (sh' := sH_38) (s := (6, 14, [some 24, some 25, some 26, some 27, some 28, none, none, none, none, none, none, none, none, none])) rfl (by decide +kernel) (by decide +kernel) rfl).trans ?_
  refine (zn_aload rfl).trans ?_
  refine (zn_push).trans ?_
  refine (zn_newa (sh' := sH_39) (n := 30) (k := 40) (a' := 5) (b' := 126) (by decide +kernel) (by decide +kernel) (by decide +kernel) (by decide +kernel) (by decide +kernel) (by decide +kernel)).trans ?_
  refine (zn_putR (sh' := sH_40) (s := (6, 14, [some 24, some 25, some 26, some 27, some 28, some 29, none, none, none, none, none, none, none, none])) rfl (by decide +kernel) (by decide +kernel) rfl).trans ?_
  refine (zn_aload rfl).trans ?_
  refine (zn_push).trans ?_
  refine (zn_push).trans ?_
  refine (zn_mna (sh' := sH_41) (n := 31) (k := 3) (j := 40) (a' := 1) (b' := 3) (by decide +kernel) (by decide +kernel) (by decide +kernel) (by decide +kernel) (by decide +kernel) (by decide +kernel) (by decide +kernel)).trans ?_
  refine (zn_putR (sh' := sH_42) (s := (6, 14, [some 24, some 25, some 26, some 27, some 28, some 29, some 30, none, none, none, none, none, none, none])) rfl (by decide +kernel) (by decide +kernel) rfl).trans ?_
  refine (zn_aload rfl).trans ?_
  refine (zn_push).trans ?_
  refine (zn_newa (sh' := sH_43) (n := 35) (k := 3) (a' := 0) (b' := 0) (by decide +kernel) (by decide +kernel) (by decide +kernel) (by decide +kernel) (by decide +kernel) (by decide +kernel)).trans ?_
  refine (zn_putR (sh' := sH_44) (s := (6, 14, [some 24, some 25, some 26, some 27, some 28, some 29, some 30, some 31, none, none, none, none, none, none])) rfl (by decide +kernel) (by decide +kernel) rfl).trans ?_
  refine (zn_push).trans ?_
  refine (zn_istore (ls' := [some (.ref 23), some (.int 0)]) rfl rfl).trans ?_
  exact zn_jump
def mI_34 : Nat → Nat → Int32 := zz_wI mI_33 35 0 (-1)
set_option maxRecDepth 100000 in
theorem ib_24 (N : Nat) (xs : Nat → Int32) : zz_X (zz_call_ 98) tb_3 1 [some (.ref 23), some (.int 0)] [] (zro N xs, sH_44, mI_33, mL_23, 0, 0) = zz_X (zz_call_ 98) tb_3 1 [some (.ref 23), some (.int 1)] [] (zro N xs, sH_44, mI_34, mL_23, 0, 0) := by
  refine (zz_X_eq sg_3 _ _ _ _).trans ?_
  refine (zn_iload rfl).trans ?_
  refine (zn_push).trans ?_
  refine (zn_cgef (by decide +kernel)).trans ?_
  refine (zn_aload rfl).trans ?_
  refine (zn_getR (s := (6, 14, [some 24, some 25, some 26, some 27, some 28, some 29, some 30, some 31, some 35, none, none, none, none, none])) rfl (by decide +kernel) (by decide +kernel) rfl).trans ?_
  refine (zn_iload rfl).trans ?_
  refine (zn_push).trans ?_
  refine (zn_iast (j := 0) (s := (0, 3, [])) rfl (by decide +kernel) (by decide +kernel)).trans ?_
  refine (zn_iinc (y := 1) (ls' := [some (.ref 23), some (.int 1)]) rfl rfl (by decide +kernel) rfl).trans ?_
  exact zn_jump
def mI_35 : Nat → Nat → Int32 := zz_wI mI_34 35 1 (-1)
set_option maxRecDepth 100000 in
theorem ib_25 (N : Nat) (xs : Nat → Int32) : zz_X (zz_call_ 98) tb_3 1 [some (.ref 23), some (.int 1)] [] (zro N xs, sH_44, mI_34, mL_23, 0, 0) = zz_X (zz_call_ 98) tb_3 1 [some (.ref 23), some (.int 2)] [] (zro N xs, sH_44, mI_35, mL_23, 0, 0) := by
  refine (zz_X_eq sg_3 _ _ _ _).trans ?_
  refine (zn_iload rfl).trans ?_
  refine (zn_push).trans ?_
  refine (zn_cgef (by decide +kernel)).trans ?_
  refine (zn_aload rfl).trans ?_
  refine (zn_getR (s := (6, 14, [some 24, some 25, some 26, some 27, some 28, some 29, some 30, some 31, some 35, none, none, none, none, none])) rfl (by decide +kernel) (by decide +kernel) rfl).trans ?_
  refine (zn_iload rfl).trans ?_
  refine (zn_push).trans ?_
  refine (zn_iast (j := 1) (s := (0, 3, [])) rfl (by decide +kernel) (by decide +kernel)).trans ?_
  refine (zn_iinc (y := 2) (ls' := [some (.ref 23), some (.int 2)]) rfl rfl (by decide +kernel) rfl).trans ?_
  exact zn_jump
def mI_36 : Nat → Nat → Int32 := zz_wI mI_35 35 2 (-1)
set_option maxRecDepth 100000 in
theorem ib_26 (N : Nat) (xs : Nat → Int32) : zz_X (zz_call_ 98) tb_3 1 [some (.ref 23), some (.int 2)] [] (zro N xs, sH_44, mI_35, mL_23, 0, 0) = zz_X (zz_call_ 98) tb_3 1 [some (.ref 23), some (.int 3)] [] (zro N xs, sH_44, mI_36, mL_23, 0, 0) := by
  refine (zz_X_eq sg_3 _ _ _ _).trans ?_
  refine (zn_iload rfl).trans ?_
  refine (zn_push).trans ?_
  refine (zn_cgef (by decide +kernel)).trans ?_
  refine (zn_aload rfl).trans ?_
  refine (zn_getR (s := (6, 14, [some 24, some 25, some 26, some 27, some 28, some 29, some 30, some 31, some 35, none, none, none, none, none])) rfl (by decide +kernel) (by decide +kernel) rfl).trans ?_
  refine (zn_iload rfl).trans ?_
  refine (zn_push).trans ?_
  refine (zn_iast (j := 2) (s := (0, 3, [])) rfl (by decide +kernel) (by decide +kernel)).trans ?_
  refine (zn_iinc (y := 3) (ls' := [some (.ref 23), some (.int 3)]) rfl rfl (by decide +kernel) rfl).trans ?_
  exact zn_jump
set_option maxRecDepth 100000 in
theorem ib_27 (N : Nat) (xs : Nat → Int32) : zz_X (zz_call_ 98) tb_3 1 [some (.ref 23), some (.int 3)] [] (zro N xs, sH_44, mI_36, mL_23, 0, 0) = zz_X (zz_call_ 98) tb_3 2 [some (.ref 23), some (.int 3)] [] (zro N xs, sH_44, mI_36, mL_23, 0, 0) := by
  refine (zz_X_eq sg_3 _ _ _ _).trans ?_
  refine (zn_iload rfl).trans ?_
  refine (zn_push).trans ?_
  exact zn_cget (by decide +kernel)
set_option maxRecDepth 100000 in
theorem ib_28 (N : Nat) (xs : Nat → Int32) : zz_X (zz_call_ 98) tb_3 2 [some (.ref 23), some (.int 3)] [] (zro N xs, sH_44, mI_36, mL_23, 0, 0) = some (none, (zro N xs, sH_44, mI_36, mL_23, 0, 0)) := by
  refine (zz_X_eq sg_3 _ _ _ _).trans ?_
  exact zn_vret
set_option maxRecDepth 100000 in
theorem ic_4 (N : Nat) (xs : Nat → Int32) : zz_call_ 99 3 [.ref 23] (zro N xs, sH_26, mI_24, mL_14, 177, 2441) = some (none, (zro N xs, sH_44, mI_36, mL_23, 165, 2238)) := zi_of (d := 98) (r := (none, (zro N xs, sH_44, mI_36, mL_23, 0, 0))) mk_3 rfl rfl rfl ((ib_23 N xs).trans ((ib_24 N xs).trans ((ib_25 N xs).trans ((ib_26 N xs).trans ((ib_27 N xs).trans (ib_28 N xs)))))) rfl
set_option maxRecDepth 100000 in
theorem ib_22 (N : Nat) (xs : Nat → Int32) : zz_X (zz_call_ 99) tb_7 3 [some (.ref 0)] [.ref 17, .ref 0] (zro N xs, sH_24, mI_23, mL_13, 178, 2455) = zz_X (zz_call_ 99) tb_7 4 [some (.ref 0)] [.ref 23, .ref 0] (zro N xs, sH_44, mI_36, mL_23, 165, 2238) := by
  refine (zz_X_eq sg_7 _ _ _ _).trans ?_
  refine (zn_putR (sh' := sH_25) (s := (11, 11, [some 1, some 10, none, none, none, none, none, none, none, none, none])) rfl (by decide +kernel) (by decide +kernel) rfl).trans ?_
  refine (zn_aload rfl).trans ?_
  refine (zn_new (sh' := sH_26) (n := 23) (a' := 177) (b' := 2441) (by decide +kernel) (by decide +kernel) (by decide +kernel) (by decide +kernel) (by decide +kernel)).trans ?_
  refine (zn_dup).trans ?_
  exact zn_callI (as := [.ref 23]) (st' := [.ref 23, .ref 0]) (by decide +kernel) rfl rfl rfl (ic_4 N xs) (by decide +kernel)
def sH_45 : List zz_S := [(11, 11, [some 1, some 10, some 17, some 23, none, none, none, none, none, none, none]), (10, 2, [some 2, some 9]), (3, 6, [some 3, some 4, some 5, some 6, some 7, some 8]), (0, 40, []), (0, 40, []), (0, 40, []), (0, 40, []), (0, 40, []), (0, 40, []), (0, 6, []), (10, 2, [some 11, some 16]), (3, 4, [some 12, some 13, some 14, some 15]), (0, 60, []), (0, 60, []), (0, 60, []), (0, 60, []), (0, 4, []), (9, 8, [some 18, some 19, some 20, some 21, some 22, none, none, none]), (0, 7, []), (0, 6, []), (0, 6, []), (0, 6, []), (0, 6, []), (6, 14, [some 24, some 25, some 26, some 27, some 28, some 29, some 30, some 31, some 35, none, none, none, none, none]), (0, 7, []), (0, 6, []), (0, 6, []), (0, 6, []), (0, 6, []), (0, 6, []), (0, 40, []), (3, 3, [some 32, some 33, some 34]), (0, 40, []), (0, 40, []), (0, 40, []), (0, 3, [])]
def sH_46 : List zz_S := [(11, 11, [some 1, some 10, some 17, some 23, none, none, none, none, none, none, none]), (10, 2, [some 2, some 9]), (3, 6, [some 3, some 4, some 5, some 6, some 7, some 8]), (0, 40, []), (0, 40, []), (0, 40, []), (0, 40, []), (0, 40, []), (0, 40, []), (0, 6, []), (10, 2, [some 11, some 16]), (3, 4, [some 12, some 13, some 14, some 15]), (0, 60, []), (0, 60, []), (0, 60, []), (0, 60, []), (0, 4, []), (9, 8, [some 18, some 19, some 20, some 21, some 22, none, none, none]), (0, 7, []), (0, 6, []), (0, 6, []), (0, 6, []), (0, 6, []), (6, 14, [some 24, some 25, some 26, some 27, some 28, some 29, some 30, some 31, some 35, none, none, none, none, none]), (0, 7, []), (0, 6, []), (0, 6, []), (0, 6, []), (0, 6, []), (0, 6, []), (0, 40, []), (3, 3, [some 32, some 33, some 34]), (0, 40, []), (0, 40, []), (0, 40, []), (0, 3, []), (8, 2, [none, none])]
def mI_37 : Nat → Nat → Int32 := zz_rI mI_36 36 (fun _ => 0)
def mL_24 : Nat → Nat → Int64 := zz_rL mL_23 36 (fun _ => 0)
def sH_47 : List zz_S := [(11, 11, [some 1, some 10, some 17, some 23, none, none, none, none, none, none, none]), (10, 2, [some 2, some 9]), (3, 6, [some 3, some 4, some 5, some 6, some 7, some 8]), (0, 40, []), (0, 40, []), (0, 40, []), (0, 40, []), (0, 40, []), (0, 40, []), (0, 6, []), (10, 2, [some 11, some 16]), (3, 4, [some 12, some 13, some 14, some 15]), (0, 60, []), (0, 60, []), (0, 60, []), (0, 60, []), (0, 4, []), (9, 8, [some 18, some 19, some 20, some 21, some 22, none, none, none]), (0, 7, []), (0, 6, []), (0, 6, []), (0, 6, []), (0, 6, []), (6, 14, [some 24, some 25, some 26, some 27, some 28, some 29, some 30, some 31, some 35, none, none, none, none, none]), (0, 7, []), (0, 6, []), (0, 6, []), (0, 6, []), (0, 6, []), (0, 6, []), (0, 40, []), (3, 3, [some 32, some 33, some 34]), (0, 40, []), (0, 40, []), (0, 40, []), (0, 3, []), (8, 2, [none, none]), (1, 6, [])]
def mI_38 : Nat → Nat → Int32 := zz_rI mI_37 37 (fun _ => 0)
def mL_25 : Nat → Nat → Int64 := zz_rL mL_24 37 (fun _ => 0)
def sH_48 : List zz_S := [(11, 11, [some 1, some 10, some 17, some 23, none, none, none, none, none, none, none]), (10, 2, [some 2, some 9]), (3, 6, [some 3, some 4, some 5, some 6, some 7, some 8]), (0, 40, []), (0, 40, []), (0, 40, []), (0, 40, []), (0, 40, []), (0, 40, []), (0, 6, []), (10, 2, [some 11, some 16]), (3, 4, [some 12, some 13, some 14, some 15]), (0, 60, []), (0, 60, []), (0, 60, []), (0, 60, []), (0, 4, []), (9, 8, [some 18, some 19, some 20, some 21, some 22, none, none, none]), (0, 7, []), (0, 6, []), (0, 6, []), (0, 6, []), (0, 6, []), (6, 14, [some 24, some 25, some 26, some 27, some 28, some 29, some 30, some 31, some 35, none, none, none, none, none]), (0, 7, []), (0, 6, []), (0, 6, []), (0, 6, []), (0, 6, []), (0, 6, []), (0, 40, []), (3, 3, [some 32, some 33, some 34]), (0, 40, []), (0, 40, []), (0, 40, []), (0, 3, []), (8, 2, [some 37, none]), (1, 6, [])]
set_option maxRecDepth 100000 in
theorem ib_30 (N : Nat) (xs : Nat → Int32) : zz_X (zz_call_ 98) tb_1 0 [some (.ref 36)] [] (zro N xs, sH_46, mI_37, mL_24, 1, 6) = some (none, (zro N xs, sH_48, mI_38, mL_25, 0, 0)) := by
  refine (zz_X_eq sg_1 _ _ _ _).trans ?_
  refine (zn_aload rfl).trans ?_
  refine (zn_oinit (by decide +kernel)).trans ?_
  refine (zn_aload rfl).trans ?_
  refine (zn_push).trans ?_
  refine (zn_newa (sh' := sH_47) (n := 37) (k := 6) (a' := 0) (b' := 0) (by decide +kernel) (by decide +kernel) (by decide +kernel) (by decide +kernel) (by decide +kernel) (by decide +kernel)).trans ?_
  refine (zn_putR (sh' := sH_48) (s := (8, 2, [none, none])) rfl (by decide +kernel) (by decide +kernel) rfl).trans ?_
  exact zn_vret
set_option maxRecDepth 100000 in
theorem ic_5 (N : Nat) (xs : Nat → Int32) : zz_call_ 99 1 [.ref 36] (zro N xs, sH_46, mI_37, mL_24, 164, 2236) = some (none, (zro N xs, sH_48, mI_38, mL_25, 163, 2230)) := zi_of (d := 98) (r := (none, (zro N xs, sH_48, mI_38, mL_25, 0, 0))) mk_1 rfl rfl rfl (ib_30 N xs) rfl
set_option maxRecDepth 100000 in
theorem ib_29 (N : Nat) (xs : Nat → Int32) : zz_X (zz_call_ 99) tb_7 4 [some (.ref 0)] [.ref 23, .ref 0] (zro N xs, sH_44, mI_36, mL_23, 165, 2238) = zz_X (zz_call_ 99) tb_7 5 [some (.ref 0)] [.ref 36, .ref 0] (zro N xs, sH_48, mI_38, mL_25, 163, 2230) := by
  refine (zz_X_eq sg_7 _ _ _ _).trans ?_
  refine (zn_putR (sh' := sH_45) (s := (11, 11, [some 1, some 10, some 17, none, none, none, none, none, none, none, none])) rfl (by decide +kernel) (by decide +kernel) rfl).trans ?_
  refine (zn_aload rfl).trans ?_
  refine (zn_new (sh' := sH_46) (n := 36) (a' := 164) (b' := 2236) (by decide +kernel) (by decide +kernel) (by decide +kernel) (by decide +kernel) (by decide +kernel)).trans ?_
  refine (zn_dup).trans ?_
  exact zn_callI (as := [.ref 36]) (st' := [.ref 36, .ref 0]) (by decide +kernel) rfl rfl rfl (ic_5 N xs) (by decide +kernel)
def sH_49 : List zz_S := [(11, 11, [some 1, some 10, some 17, some 23, some 36, none, none, none, none, none, none]), (10, 2, [some 2, some 9]), (3, 6, [some 3, some 4, some 5, some 6, some 7, some 8]), (0, 40, []), (0, 40, []), (0, 40, []), (0, 40, []), (0, 40, []), (0, 40, []), (0, 6, []), (10, 2, [some 11, some 16]), (3, 4, [some 12, some 13, some 14, some 15]), (0, 60, []), (0, 60, []), (0, 60, []), (0, 60, []), (0, 4, []), (9, 8, [some 18, some 19, some 20, some 21, some 22, none, none, none]), (0, 7, []), (0, 6, []), (0, 6, []), (0, 6, []), (0, 6, []), (6, 14, [some 24, some 25, some 26, some 27, some 28, some 29, some 30, some 31, some 35, none, none, none, none, none]), (0, 7, []), (0, 6, []), (0, 6, []), (0, 6, []), (0, 6, []), (0, 6, []), (0, 40, []), (3, 3, [some 32, some 33, some 34]), (0, 40, []), (0, 40, []), (0, 40, []), (0, 3, []), (8, 2, [some 37, none]), (1, 6, [])]
def sH_50 : List zz_S := [(11, 11, [some 1, some 10, some 17, some 23, some 36, none, none, none, none, none, none]), (10, 2, [some 2, some 9]), (3, 6, [some 3, some 4, some 5, some 6, some 7, some 8]), (0, 40, []), (0, 40, []), (0, 40, []), (0, 40, []), (0, 40, []), (0, 40, []), (0, 6, []), (10, 2, [some 11, some 16]), (3, 4, [some 12, some 13, some 14, some 15]), (0, 60, []), (0, 60, []), (0, 60, []), (0, 60, []), (0, 4, []), (9, 8, [some 18, some 19, some 20, some 21, some 22, none, none, none]), (0, 7, []), (0, 6, []), (0, 6, []), (0, 6, []), (0, 6, []), (6, 14, [some 24, some 25, some 26, some 27, some 28, some 29, some 30, some 31, some 35, none, none, none, none, none]), (0, 7, []), (0, 6, []), (0, 6, []), (0, 6, []), (0, 6, []), (0, 6, []), (0, 40, []), (3, 3, [some 32, some 33, some 34]), (0, 40, []), (0, 40, []), (0, 40, []), (0, 3, []), (8, 2, [some 37, none]), (1, 6, []), (7, 9, [none, none, none, none, none, none, none, none, none])]
def mI_39 : Nat → Nat → Int32 := zz_rI mI_38 38 (fun _ => 0)
def mL_26 : Nat → Nat → Int64 := zz_rL mL_25 38 (fun _ => 0)
def sH_51 : List zz_S := [(11, 11, [some 1, some 10, some 17, some 23, some 36, none, none, none, none, none, none]), (10, 2, [some 2, some 9]), (3, 6, [some 3, some 4, some 5, some 6, some 7, some 8]), (0, 40, []), (0, 40, []), (0, 40, []), (0, 40, []), (0, 40, []), (0, 40, []), (0, 6, []), (10, 2, [some 11, some 16]), (3, 4, [some 12, some 13, some 14, some 15]), (0, 60, []), (0, 60, []), (0, 60, []), (0, 60, []), (0, 4, []), (9, 8, [some 18, some 19, some 20, some 21, some 22, none, none, none]), (0, 7, []), (0, 6, []), (0, 6, []), (0, 6, []), (0, 6, []), (6, 14, [some 24, some 25, some 26, some 27, some 28, some 29, some 30, some 31, some 35, none, none, none, none, none]), (0, 7, []), (0, 6, []), (0, 6, []), (0, 6, []), (0, 6, []), (0, 6, []), (0, 40, []), (3, 3, [some 32, some 33, some 34]), (0, 40, []), (0, 40, []), (0, 40, []), (0, 3, []), (8, 2, [some 37, none]), (1, 6, []), (7, 9, [none, none, none, none, none, none, none, none, none]), (0, 6, [])]
def mI_40 : Nat → Nat → Int32 := zz_rI mI_39 39 (fun _ => 0)
def mL_27 : Nat → Nat → Int64 := zz_rL mL_26 39 (fun _ => 0)
def sH_52 : List zz_S := [(11, 11, [some 1, some 10, some 17, some 23, some 36, none, none, none, none, none, none]), (10, 2, [some 2, some 9]), (3, 6, [some 3, some 4, some 5, some 6, some 7, some 8]), (0, 40, []), (0, 40, []), (0, 40, []), (0, 40, []), (0, 40, []), (0, 40, []), (0, 6, []), (10, 2, [some 11, some 16]), (3, 4, [some 12, some 13, some 14, some 15]), (0, 60, []), (0, 60, []), (0, 60, []), (0, 60, []), (0, 4, []), (9, 8, [some 18, some 19, some 20, some 21, some 22, none, none, none]), (0, 7, []), (0, 6, []), (0, 6, []), (0, 6, []), (0, 6, []), (6, 14, [some 24, some 25, some 26, some 27, some 28, some 29, some 30, some 31, some 35, none, none, none, none, none]), (0, 7, []), (0, 6, []), (0, 6, []), (0, 6, []), (0, 6, []), (0, 6, []), (0, 40, []), (3, 3, [some 32, some 33, some 34]), (0, 40, []), (0, 40, []), (0, 40, []), (0, 3, []), (8, 2, [some 37, none]), (1, 6, []), (7, 9, [some 39, none, none, none, none, none, none, none, none]), (0, 6, [])]
def sH_53 : List zz_S := [(11, 11, [some 1, some 10, some 17, some 23, some 36, none, none, none, none, none, none]), (10, 2, [some 2, some 9]), (3, 6, [some 3, some 4, some 5, some 6, some 7, some 8]), (0, 40, []), (0, 40, []), (0, 40, []), (0, 40, []), (0, 40, []), (0, 40, []), (0, 6, []), (10, 2, [some 11, some 16]), (3, 4, [some 12, some 13, some 14, some 15]), (0, 60, []), (0, 60, []), (0, 60, []), (0, 60, []), (0, 4, []), (9, 8, [some 18, some 19, some 20, some 21, some 22, none, none, none]), (0, 7, []), (0, 6, []), (0, 6, []), (0, 6, []), (0, 6, []), (6, 14, [some 24, some 25, some 26, some 27, some 28, some 29, some 30, some 31, some 35, none, none, none, none, none]), (0, 7, []), (0, 6, []), (0, 6, []), (0, 6, []), (0, 6, []), (0, 6, []), (0, 40, []), (3, 3, [some 32, some 33, some 34]), (0, 40, []), (0, 40, []), (0, 40, []), (0, 3, []), (8, 2, [some 37, none]), (1, 6, []), (7, 9, [some 39, none, none, none, none, none, none, none, none]), (0, 6, []), (0, 6, [])]
def mI_41 : Nat → Nat → Int32 := zz_rI mI_40 40 (fun _ => 0)
def mL_28 : Nat → Nat → Int64 := zz_rL mL_27 40 (fun _ => 0)
def sH_54 : List zz_S := [(11, 11, [some 1, some 10, some 17, some 23, some 36, none, none, none, none, none, none]), (10, 2, [some 2, some 9]), (3, 6, [some 3, some 4, some 5, some 6, some 7, some 8]), (0, 40, []), (0, 40, []), (0, 40, []), (0, 40, []), (0, 40, []), (0, 40, []), (0, 6, []), (10, 2, [some 11, some 16]), (3, 4, [some 12, some 13, some 14, some 15]), (0, 60, []), (0, 60, []), (0, 60, []), (0, 60, []), (0, 4, []), (9, 8, [some 18, some 19, some 20, some 21, some 22, none, none, none]), (0, 7, []), (0, 6, []), (0, 6, []), (0, 6, []), (0, 6, []), (6, 14, [some 24, some 25, some 26, some 27, some 28, some 29, some 30, some 31, some 35, none, none, none, none, none]), (0, 7, []), (0, 6, []), (0, 6, []), (0, 6, []), (0, 6, []), (0, 6, []), (0, 40, []), (3, 3, [some 32, some 33, some 34]), (0, 40, []), (0, 40, []), (0, 40, []), (0, 3, []), (8, 2, [some 37, none]), (1, 6, []), (7, 9, [some 39, some 40, none, none, none, none, none, none, none]), (0, 6, []), (0, 6, [])]
def sH_55 : List zz_S := [(11, 11, [some 1, some 10, some 17, some 23, some 36, none, none, none, none, none, none]), (10, 2, [some 2, some 9]), (3, 6, [some 3, some 4, some 5, some 6, some 7, some 8]), (0, 40, []), (0, 40, []), (0, 40, []), (0, 40, []), (0, 40, []), (0, 40, []), (0, 6, []), (10, 2, [some 11, some 16]), (3, 4, [some 12, some 13, some 14, some 15]), (0, 60, []), (0, 60, []), (0, 60, []), (0, 60, []), (0, 4, []), (9, 8, [some 18, some 19, some 20, some 21, some 22, none, none, none]), (0, 7, []), (0, 6, []), (0, 6, []), (0, 6, []), (0, 6, []), (6, 14, [some 24, some 25, some 26, some 27, some 28, some 29, some 30, some 31, some 35, none, none, none, none, none]), (0, 7, []), (0, 6, []), (0, 6, []), (0, 6, []), (0, 6, []), (0, 6, []), (0, 40, []), (3, 3, [some 32, some 33, some 34]), (0, 40, []), (0, 40, []), (0, 40, []), (0, 3, []), (8, 2, [some 37, none]), (1, 6, []), (7, 9, [some 39, some 40, none, none, none, none, none, none, none]), (0, 6, []), (0, 6, []), (1, 36, [])]
def mI_42 : Nat → Nat → Int32 := zz_rI mI_41 41 (fun _ => 0)
def mL_29 : Nat → Nat → Int64 := zz_rL mL_28 41 (fun _ => 0)
def sH_56 : List zz_S := [(11, 11, [some 1, some 10, some 17, some 23, some 36, none, none, none, none, none, none]), (10, 2, [some 2, some 9]), (3, 6, [some 3, some 4, some 5, some 6, some 7, some 8]), (0, 40, []), (0, 40, []), (0, 40, []), (0, 40, []), (0, 40, []), (0, 40, []), (0, 6, []), (10, 2, [some 11, some 16]), (3, 4, [some 12, some 13, some 14, some 15]), (0, 60, []), (0, 60, []), (0, 60, []), (0, 60, []), (0, 4, []), (9, 8, [some 18, some 19, some 20, some 21, some 22, none, none, none]), (0, 7, []), (0, 6, []), (0, 6, []), (0, 6, []), (0, 6, []), (6, 14, [some 24, some 25, some 26, some 27, some 28, some 29, some 30, some 31, some 35, none, none, none, none, none]), (0, 7, []), (0, 6, []), (0, 6, []), (0, 6, []), (0, 6, []), (0, 6, []), (0, 40, []), (3, 3, [some 32, some 33, some 34]), (0, 40, []), (0, 40, []), (0, 40, []), (0, 3, []), (8, 2, [some 37, none]), (1, 6, []), (7, 9, [some 39, some 40, some 41, none, none, none, none, none, none]), (0, 6, []), (0, 6, []), (1, 36, [])]
def sH_57 : List zz_S := [(11, 11, [some 1, some 10, some 17, some 23, some 36, none, none, none, none, none, none]), (10, 2, [some 2, some 9]), (3, 6, [some 3, some 4, some 5, some 6, some 7, some 8]), (0, 40, []), (0, 40, []), (0, 40, []), (0, 40, []), (0, 40, []), (0, 40, []), (0, 6, []), (10, 2, [some 11, some 16]), (3, 4, [some 12, some 13, some 14, some 15]), (0, 60, []), (0, 60, []), (0, 60, []), (0, 60, []), (0, 4, []), (9, 8, [some 18, some 19, some 20, some 21, some 22, none, none, none]), (0, 7, []), (0, 6, []), (0, 6, []), (0, 6, []), (0, 6, []), (6, 14, [some 24, some 25, some 26, some 27, some 28, some 29, some 30, some 31, some 35, none, none, none, none, none]), (0, 7, []), (0, 6, []), (0, 6, []), (0, 6, []), (0, 6, []), (0, 6, []), (0, 40, []), (3, 3, [some 32, some 33, some 34]), (0, 40, []), (0, 40, []), (0, 40, []), (0, 3, []), (8, 2, [some 37, none]), (1, 6, []), (7, 9, [some 39, some 40, some 41, none, none, none, none, none, none]), (0, 6, []), (0, 6, []), (1, 36, []), (0, 36, [])]
def mI_43 : Nat → Nat → Int32 := zz_rI mI_42 42 (fun _ => 0)
def mL_30 : Nat → Nat → Int64 := zz_rL mL_29 42 (fun _ => 0)
def sH_58 : List zz_S := [(11, 11, [some 1, some 10, some 17, some 23, some 36, none, none, none, none, none, none]), (10, 2, [some 2, some 9]), (3, 6, [some 3, some 4, some 5, some 6, some 7, some 8]), (0, 40, []), (0, 40, []), (0, 40, []), (0, 40, []), (0, 40, []), (0, 40, []), (0, 6, []), (10, 2, [some 11, some 16]), (3, 4, [some 12, some 13, some 14, some 15]), (0, 60, []), (0, 60, []), (0, 60, []), (0, 60, []), (0, 4, []), (9, 8, [some 18, some 19, some 20, some 21, some 22, none, none, none]), (0, 7, []), (0, 6, []), (0, 6, []), (0, 6, []), (0, 6, []), (6, 14, [some 24, some 25, some 26, some 27, some 28, some 29, some 30, some 31, some 35, none, none, none, none, none]), (0, 7, []), (0, 6, []), (0, 6, []), (0, 6, []), (0, 6, []), (0, 6, []), (0, 40, []), (3, 3, [some 32, some 33, some 34]), (0, 40, []), (0, 40, []), (0, 40, []), (0, 3, []), (8, 2, [some 37, none]), (1, 6, []), (7, 9, [some 39, some 40, some 41, some 42, none, none, none, none, none]), (0, 6, []), (0, 6, []), (1, 36, []), (0, 36, [])]
def sH_59 : List zz_S := [(11, 11, [some 1, some 10, some 17, some 23, some 36, none, none, none, none, none, none]), (10, 2, [some 2, some 9]), (3, 6, [some 3, some 4, some 5, some 6, some 7, some 8]), (0, 40, []), (0, 40, []), (0, 40, []), (0, 40, []), (0, 40, []), (0, 40, []), (0, 6, []), (10, 2, [some 11, some 16]), (3, 4, [some 12, some 13, some 14, some 15]), (0, 60, []), (0, 60, []), (0, 60, []), (0, 60, []), (0, 4, []), (9, 8, [some 18, some 19, some 20, some 21, some 22, none, none, none]), (0, 7, []), (0, 6, []), (0, 6, []), (0, 6, []), (0, 6, []), (6, 14, [some 24, some 25, some 26, some 27, some 28, some 29, some 30, some 31, some 35, none, none, none, none, none]), (0, 7, []), (0, 6, []), (0, 6, []), (0, 6, []), (0, 6, []), (0, 6, []), (0, 40, []), (3, 3, [some 32, some 33, some 34]), (0, 40, []), (0, 40, []), (0, 40, []), (0, 3, []), (8, 2, [some 37, none]), (1, 6, []), (7, 9, [some 39, some 40, some 41, some 42, none, none, none, none, none]), (0, 6, []), (0, 6, []), (1, 36, []), (0, 36, []), (0, 6, [])]
def mI_44 : Nat → Nat → Int32 := zz_rI mI_43 43 (fun _ => 0)
def mL_31 : Nat → Nat → Int64 := zz_rL mL_30 43 (fun _ => 0)
def sH_60 : List zz_S := [(11, 11, [some 1, some 10, some 17, some 23, some 36, none, none, none, none, none, none]), (10, 2, [some 2, some 9]), (3, 6, [some 3, some 4, some 5, some 6, some 7, some 8]), (0, 40, []), (0, 40, []), (0, 40, []), (0, 40, []), (0, 40, []), (0, 40, []), (0, 6, []), (10, 2, [some 11, some 16]), (3, 4, [some 12, some 13, some 14, some 15]), (0, 60, []), (0, 60, []), (0, 60, []), (0, 60, []), (0, 4, []), (9, 8, [some 18, some 19, some 20, some 21, some 22, none, none, none]), (0, 7, []), (0, 6, []), (0, 6, []), (0, 6, []), (0, 6, []), (6, 14, [some 24, some 25, some 26, some 27, some 28, some 29, some 30, some 31, some 35, none, none, none, none, none]), (0, 7, []), (0, 6, []), (0, 6, []), (0, 6, []), (0, 6, []), (0, 6, []), (0, 40, []), (3, 3, [some 32, some 33, some 34]), (0, 40, []), (0, 40, []), (0, 40, []), (0, 3, []), (8, 2, [some 37, none]), (1, 6, []), (7, 9, [some 39, some 40, some 41, some 42, some 43, none, none, none, none]), (0, 6, []), (0, 6, []), (1, 36, []), (0, 36, []), (0, 6, [])]
def sH_61 : List zz_S := [(11, 11, [some 1, some 10, some 17, some 23, some 36, none, none, none, none, none, none]), (10, 2, [some 2, some 9]), (3, 6, [some 3, some 4, some 5, some 6, some 7, some 8]), (0, 40, []), (0, 40, []), (0, 40, []), (0, 40, []), (0, 40, []), (0, 40, []), (0, 6, []), (10, 2, [some 11, some 16]), (3, 4, [some 12, some 13, some 14, some 15]), (0, 60, []), (0, 60, []), (0, 60, []), (0, 60, []), (0, 4, []), (9, 8, [some 18, some 19, some 20, some 21, some 22, none, none, none]), (0, 7, []), (0, 6, []), (0, 6, []), (0, 6, []), (0, 6, []), (6, 14, [some 24, some 25, some 26, some 27, some 28, some 29, some 30, some 31, some 35, none, none, none, none, none]), (0, 7, []), (0, 6, []), (0, 6, []), (0, 6, []), (0, 6, []), (0, 6, []), (0, 40, []), (3, 3, [some 32, some 33, some 34]), (0, 40, []), (0, 40, []), (0, 40, []), (0, 3, []), (8, 2, [some 37, none]), (1, 6, []), (7, 9, [some 39, some 40, some 41, some 42, some 43, none, none, none, none]), (0, 6, []), (0, 6, []), (1, 36, []), (0, 36, []), (0, 6, []), (0, 6, [])]
def mI_45 : Nat → Nat → Int32 := zz_rI mI_44 44 (fun _ => 0)
def mL_32 : Nat → Nat → Int64 := zz_rL mL_31 44 (fun _ => 0)
def sH_62 : List zz_S := [(11, 11, [some 1, some 10, some 17, some 23, some 36, none, none, none, none, none, none]), (10, 2, [some 2, some 9]), (3, 6, [some 3, some 4, some 5, some 6, some 7, some 8]), (0, 40, []), (0, 40, []), (0, 40, []), (0, 40, []), (0, 40, []), (0, 40, []), (0, 6, []), (10, 2, [some 11, some 16]), (3, 4, [some 12, some 13, some 14, some 15]), (0, 60, []), (0, 60, []), (0, 60, []), (0, 60, []), (0, 4, []), (9, 8, [some 18, some 19, some 20, some 21, some 22, none, none, none]), (0, 7, []), (0, 6, []), (0, 6, []), (0, 6, []), (0, 6, []), (6, 14, [some 24, some 25, some 26, some 27, some 28, some 29, some 30, some 31, some 35, none, none, none, none, none]), (0, 7, []), (0, 6, []), (0, 6, []), (0, 6, []), (0, 6, []), (0, 6, []), (0, 40, []), (3, 3, [some 32, some 33, some 34]), (0, 40, []), (0, 40, []), (0, 40, []), (0, 3, []), (8, 2, [some 37, none]), (1, 6, []), (7, 9, [some 39, some 40, some 41, some 42, some 43, some 44, none, none, none]), (0, 6, []), (0, 6, []), (1, 36, []), (0, 36, []), (0, 6, []), (0, 6, [])]
set_option maxRecDepth 100000 in
theorem ib_32 (N : Nat) (xs : Nat → Int32) : zz_X (zz_call_ 98) tb_4 0 [some (.ref 38)] [] (zro N xs, sH_50, mI_39, mL_26, 6, 96) = some (none, (zro N xs, sH_62, mI_45, mL_32, 0, 0)) := by
  refine (zz_X_eq sg_4 _ _ _ _).trans ?_
  refine (zn_aload rfl).trans ?_
  refine (zn_oinit (by decide +kernel)).trans ?_
  refine (zn_aload rfl).trans ?_
  refine (zn_push).trans ?_
  refine (zn_newa (sh' := sH_51) (n := 39) (k := 6) (a' := 5) (b' := 90) (by decide +kernel) (by decide +kernel) (by decide +kernel) (by decide +kernel) (by decide +kernel) (by decide +kernel)).trans ?_
  refine (zn_putR (sh' := sH_52) (s := (7, 9, [none, none, none, none, none, none, none, none, none])) rfl (by decide +kernel) (by decide +kernel) rfl).trans ?_
  refine (zn_aload rfl).trans ?_
  refine (zn_push).trans ?_
  refine (zn_newa (sh' := sH_53) (n := 40) (k := 6) (a' := 4) (b' := 84) (by decide +kernel) (by decide +kernel) (by decide +kernel) (by decide +kernel) (by decide +kernel) (by decide +kernel)).trans ?_
  refine (zn_putR (sh' := sH_54) (s := (7, 9, [some 39, none, none, none, none, none, none, none, none])) rfl (by decide +kernel) (by decide +kernel) rfl).trans ?_
  refine (zn_aload rfl).trans ?_
  refine (zn_push).trans ?_
  refine (zn_newa (sh' := sH_55) (n := 41) (k := 36) (a' := 3) (b' := 48) (by decide +kernel) (by decide +kernel) (by decide +kernel) (by decide +kernel) (by decide +kernel) (by decide +kernel)).trans ?_
  refine (zn_putR (sh' := sH_56) (s := (7, 9, [some 39, some 40, none, none, none, none, none, none, none])) rfl (by decide +kernel) (by decide +kernel) rfl).trans ?_
  refine (zn_aload rfl).trans ?_
  refine (zn_push).trans ?_
  refine (zn_newa (sh' := sH_57) (n := 42) (k := 36) (a' := 2) (b' := 12) (by decide +kernel) (by decide +kernel) (by decide +kernel) (by decide +kernel) (by decide +kernel) (by decide +kernel)).trans ?_
  refine (zn_putR (sh' := sH_58) (s := (7, 9, [some 39, some 40, some 41, none, none, none, none, none, none])) rfl (by decide +kernel) (by decide +kernel) rfl).trans ?_
  refine (zn_aload rfl).trans ?_
  refine (zn_push).trans ?_
  refine (zn_newa (sh' := sH_59) (n := 43) (k := 6) (a' := 1) (b' := 6) (by decide +kernel) (by decide +kernel) (by decide +kernel) (by decide +kernel) (by decide +kernel) (by decide +kernel)).trans ?_
  refine (zn_putR (sh' := sH_60) (s := (7, 9, [some 39, some 40, some 41, some 42, none, none, none, none, none])) rfl (by decide +kernel) (by decide +kernel) rfl).trans ?_
  refine (zn_aload rfl).trans ?_
  refine (zn_push).trans ?_
  refine (zn_newa (sh' := sH_61) (n := 44) (k := 6) (a' := 0) (b' := 0) (by decide +kernel) (by decide +kernel) (by decide +kernel) (by decide +kernel) (by decide +kernel) (by decide +kernel)).trans ?_
  refine (zn_putR (sh' := sH_62) (s := (7, 9, [some 39, some 40, some 41, some 42, some 43, none, none, none, none])) rfl (by decide +kernel) (by decide +kernel) rfl).trans ?_
  exact zn_vret
set_option maxRecDepth 100000 in
theorem ic_6 (N : Nat) (xs : Nat → Int32) : zz_call_ 99 4 [.ref 38] (zro N xs, sH_50, mI_39, mL_26, 162, 2221) = some (none, (zro N xs, sH_62, mI_45, mL_32, 156, 2125)) := zi_of (d := 98) (r := (none, (zro N xs, sH_62, mI_45, mL_32, 0, 0))) mk_4 rfl rfl rfl (ib_32 N xs) rfl
set_option maxRecDepth 100000 in
theorem ib_31 (N : Nat) (xs : Nat → Int32) : zz_X (zz_call_ 99) tb_7 5 [some (.ref 0)] [.ref 36, .ref 0] (zro N xs, sH_48, mI_38, mL_25, 163, 2230) = zz_X (zz_call_ 99) tb_7 6 [some (.ref 0)] [.ref 38, .ref 0] (zro N xs, sH_62, mI_45, mL_32, 156, 2125) := by
  refine (zz_X_eq sg_7 _ _ _ _).trans ?_
  refine (zn_putR (sh' := sH_49) (s := (11, 11, [some 1, some 10, some 17, some 23, none, none, none, none, none, none, none])) rfl (by decide +kernel) (by decide +kernel) rfl).trans ?_
  refine (zn_aload rfl).trans ?_
  refine (zn_new (sh' := sH_50) (n := 38) (a' := 162) (b' := 2221) (by decide +kernel) (by decide +kernel) (by decide +kernel) (by decide +kernel) (by decide +kernel)).trans ?_
  refine (zn_dup).trans ?_
  exact zn_callI (as := [.ref 38]) (st' := [.ref 38, .ref 0]) (by decide +kernel) rfl rfl rfl (ic_6 N xs) (by decide +kernel)
def sH_63 : List zz_S := [(11, 11, [some 1, some 10, some 17, some 23, some 36, some 38, none, none, none, none, none]), (10, 2, [some 2, some 9]), (3, 6, [some 3, some 4, some 5, some 6, some 7, some 8]), (0, 40, []), (0, 40, []), (0, 40, []), (0, 40, []), (0, 40, []), (0, 40, []), (0, 6, []), (10, 2, [some 11, some 16]), (3, 4, [some 12, some 13, some 14, some 15]), (0, 60, []), (0, 60, []), (0, 60, []), (0, 60, []), (0, 4, []), (9, 8, [some 18, some 19, some 20, some 21, some 22, none, none, none]), (0, 7, []), (0, 6, []), (0, 6, []), (0, 6, []), (0, 6, []), (6, 14, [some 24, some 25, some 26, some 27, some 28, some 29, some 30, some 31, some 35, none, none, none, none, none]), (0, 7, []), (0, 6, []), (0, 6, []), (0, 6, []), (0, 6, []), (0, 6, []), (0, 40, []), (3, 3, [some 32, some 33, some 34]), (0, 40, []), (0, 40, []), (0, 40, []), (0, 3, []), (8, 2, [some 37, none]), (1, 6, []), (7, 9, [some 39, some 40, some 41, some 42, some 43, some 44, none, none, none]), (0, 6, []), (0, 6, []), (1, 36, []), (0, 36, []), (0, 6, []), (0, 6, [])]
def sH_64 : List zz_S := [(11, 11, [some 1, some 10, some 17, some 23, some 36, some 38, none, none, none, none, none]), (10, 2, [some 2, some 9]), (3, 6, [some 3, some 4, some 5, some 6, some 7, some 8]), (0, 40, []), (0, 40, []), (0, 40, []), (0, 40, []), (0, 40, []), (0, 40, []), (0, 6, []), (10, 2, [some 11, some 16]), (3, 4, [some 12, some 13, some 14, some 15]), (0, 60, []), (0, 60, []), (0, 60, []), (0, 60, []), (0, 4, []), (9, 8, [some 18, some 19, some 20, some 21, some 22, none, none, none]), (0, 7, []), (0, 6, []), (0, 6, []), (0, 6, []), (0, 6, []), (6, 14, [some 24, some 25, some 26, some 27, some 28, some 29, some 30, some 31, some 35, none, none, none, none, none]), (0, 7, []), (0, 6, []), (0, 6, []), (0, 6, []), (0, 6, []), (0, 6, []), (0, 40, []), (3, 3, [some 32, some 33, some 34]), (0, 40, []), (0, 40, []), (0, 40, []), (0, 3, []), (8, 2, [some 37, none]), (1, 6, []), (7, 9, [some 39, some 40, some 41, some 42, some 43, some 44, none, none, none]), (0, 6, []), (0, 6, []), (1, 36, []), (0, 36, []), (0, 6, []), (0, 6, []), (5, 1, [none])]
def mI_46 : Nat → Nat → Int32 := zz_rI mI_45 45 (fun _ => 0)
def mL_33 : Nat → Nat → Int64 := zz_rL mL_32 45 (fun _ => 0)
def sH_65 : List zz_S := [(11, 11, [some 1, some 10, some 17, some 23, some 36, some 38, none, none, none, none, none]), (10, 2, [some 2, some 9]), (3, 6, [some 3, some 4, some 5, some 6, some 7, some 8]), (0, 40, []), (0, 40, []), (0, 40, []), (0, 40, []), (0, 40, []), (0, 40, []), (0, 6, []), (10, 2, [some 11, some 16]), (3, 4, [some 12, some 13, some 14, some 15]), (0, 60, []), (0, 60, []), (0, 60, []), (0, 60, []), (0, 4, []), (9, 8, [some 18, some 19, some 20, some 21, some 22, none, none, none]), (0, 7, []), (0, 6, []), (0, 6, []), (0, 6, []), (0, 6, []), (6, 14, [some 24, some 25, some 26, some 27, some 28, some 29, some 30, some 31, some 35, none, none, none, none, none]), (0, 7, []), (0, 6, []), (0, 6, []), (0, 6, []), (0, 6, []), (0, 6, []), (0, 40, []), (3, 3, [some 32, some 33, some 34]), (0, 40, []), (0, 40, []), (0, 40, []), (0, 3, []), (8, 2, [some 37, none]), (1, 6, []), (7, 9, [some 39, some 40, some 41, some 42, some 43, some 44, none, none, none]), (0, 6, []), (0, 6, []), (1, 36, []), (0, 36, []), (0, 6, []), (0, 6, []), (5, 1, [none]), (8, 2, [none, none])]
def mI_47 : Nat → Nat → Int32 := zz_rI mI_46 46 (fun _ => 0)
def mL_34 : Nat → Nat → Int64 := zz_rL mL_33 46 (fun _ => 0)
def sH_66 : List zz_S := [(11, 11, [some 1, some 10, some 17, some 23, some 36, some 38, none, none, none, none, none]), (10, 2, [some 2, some 9]), (3, 6, [some 3, some 4, some 5, some 6, some 7, some 8]), (0, 40, []), (0, 40, []), (0, 40, []), (0, 40, []), (0, 40, []), (0, 40, []), (0, 6, []), (10, 2, [some 11, some 16]), (3, 4, [some 12, some 13, some 14, some 15]), (0, 60, []), (0, 60, []), (0, 60, []), (0, 60, []), (0, 4, []), (9, 8, [some 18, some 19, some 20, some 21, some 22, none, none, none]), (0, 7, []), (0, 6, []), (0, 6, []), (0, 6, []), (0, 6, []), (6, 14, [some 24, some 25, some 26, some 27, some 28, some 29, some 30, some 31, some 35, none, none, none, none, none]), (0, 7, []), (0, 6, []), (0, 6, []), (0, 6, []), (0, 6, []), (0, 6, []), (0, 40, []), (3, 3, [some 32, some 33, some 34]), (0, 40, []), (0, 40, []), (0, 40, []), (0, 3, []), (8, 2, [some 37, none]), (1, 6, []), (7, 9, [some 39, some 40, some 41, some 42, some 43, some 44, none, none, none]), (0, 6, []), (0, 6, []), (1, 36, []), (0, 36, []), (0, 6, []), (0, 6, []), (5, 1, [none]), (8, 2, [none, none]), (1, 6, [])]
def mI_48 : Nat → Nat → Int32 := zz_rI mI_47 47 (fun _ => 0)
def mL_35 : Nat → Nat → Int64 := zz_rL mL_34 47 (fun _ => 0)
def sH_67 : List zz_S := [(11, 11, [some 1, some 10, some 17, some 23, some 36, some 38, none, none, none, none, none]), (10, 2, [some 2, some 9]), (3, 6, [some 3, some 4, some 5, some 6, some 7, some 8]), (0, 40, []), (0, 40, []), (0, 40, []), (0, 40, []), (0, 40, []), (0, 40, []), (0, 6, []), (10, 2, [some 11, some 16]), (3, 4, [some 12, some 13, some 14, some 15]), (0, 60, []), (0, 60, []), (0, 60, []), (0, 60, []), (0, 4, []), (9, 8, [some 18, some 19, some 20, some 21, some 22, none, none, none]), (0, 7, []), (0, 6, []), (0, 6, []), (0, 6, []), (0, 6, []), (6, 14, [some 24, some 25, some 26, some 27, some 28, some 29, some 30, some 31, some 35, none, none, none, none, none]), (0, 7, []), (0, 6, []), (0, 6, []), (0, 6, []), (0, 6, []), (0, 6, []), (0, 40, []), (3, 3, [some 32, some 33, some 34]), (0, 40, []), (0, 40, []), (0, 40, []), (0, 3, []), (8, 2, [some 37, none]), (1, 6, []), (7, 9, [some 39, some 40, some 41, some 42, some 43, some 44, none, none, none]), (0, 6, []), (0, 6, []), (1, 36, []), (0, 36, []), (0, 6, []), (0, 6, []), (5, 1, [none]), (8, 2, [some 47, none]), (1, 6, [])]
set_option maxRecDepth 100000 in
theorem ib_35 (N : Nat) (xs : Nat → Int32) : zz_X (zz_call_ 97) tb_1 0 [some (.ref 46)] [] (zro N xs, sH_65, mI_47, mL_34, 1, 6) = some (none, (zro N xs, sH_67, mI_48, mL_35, 0, 0)) := by
  refine (zz_X_eq sg_1 _ _ _ _).trans ?_
  refine (zn_aload rfl).trans ?_
  refine (zn_oinit (by decide +kernel)).trans ?_
  refine (zn_aload rfl).trans ?_
  refine (zn_push).trans ?_
  refine (zn_newa (sh' := sH_66) (n := 47) (k := 6) (a' := 0) (b' := 0) (by decide +kernel) (by decide +kernel) (by decide +kernel) (by decide +kernel) (by decide +kernel) (by decide +kernel)).trans ?_
  refine (zn_putR (sh' := sH_67) (s := (8, 2, [none, none])) rfl (by decide +kernel) (by decide +kernel) rfl).trans ?_
  exact zn_vret
set_option maxRecDepth 100000 in
theorem ic_7 (N : Nat) (xs : Nat → Int32) : zz_call_ 98 1 [.ref 46] (zro N xs, sH_65, mI_47, mL_34, 1, 6) = some (none, (zro N xs, sH_67, mI_48, mL_35, 0, 0)) := zi_of (d := 97) (r := (none, (zro N xs, sH_67, mI_48, mL_35, 0, 0))) mk_1 rfl rfl rfl (ib_35 N xs) rfl
set_option maxRecDepth 100000 in
theorem ib_34 (N : Nat) (xs : Nat → Int32) : zz_X (zz_call_ 98) tb_2 0 [some (.ref 45)] [] (zro N xs, sH_64, mI_46, mL_33, 2, 8) = zz_X (zz_call_ 98) tb_2 1 [some (.ref 45)] [.ref 46, .ref 45] (zro N xs, sH_67, mI_48, mL_35, 0, 0) := by
  refine (zz_X_eq sg_2 _ _ _ _).trans ?_
  refine (zn_aload rfl).trans ?_
  refine (zn_oinit (by decide +kernel)).trans ?_
  refine (zn_aload rfl).trans ?_
  refine (zn_new (sh' := sH_65) (n := 46) (a' := 1) (b' := 6) (by decide +kernel) (by decide +kernel) (by decide +kernel) (by decide +kernel) (by decide +kernel)).trans ?_
  refine (zn_dup).trans ?_
  exact zn_callI (as := [.ref 46]) (st' := [.ref 46, .ref 45]) (by decide +kernel) rfl rfl rfl (ic_7 N xs) (by decide +kernel)
def sH_68 : List zz_S := [(11, 11, [some 1, some 10, some 17, some 23, some 36, some 38, none, none, none, none, none]), (10, 2, [some 2, some 9]), (3, 6, [some 3, some 4, some 5, some 6, some 7, some 8]), (0, 40, []), (0, 40, []), (0, 40, []), (0, 40, []), (0, 40, []), (0, 40, []), (0, 6, []), (10, 2, [some 11, some 16]), (3, 4, [some 12, some 13, some 14, some 15]), (0, 60, []), (0, 60, []), (0, 60, []), (0, 60, []), (0, 4, []), (9, 8, [some 18, some 19, some 20, some 21, some 22, none, none, none]), (0, 7, []), (0, 6, []), (0, 6, []), (0, 6, []), (0, 6, []), (6, 14, [some 24, some 25, some 26, some 27, some 28, some 29, some 30, some 31, some 35, none, none, none, none, none]), (0, 7, []), (0, 6, []), (0, 6, []), (0, 6, []), (0, 6, []), (0, 6, []), (0, 40, []), (3, 3, [some 32, some 33, some 34]), (0, 40, []), (0, 40, []), (0, 40, []), (0, 3, []), (8, 2, [some 37, none]), (1, 6, []), (7, 9, [some 39, some 40, some 41, some 42, some 43, some 44, none, none, none]), (0, 6, []), (0, 6, []), (1, 36, []), (0, 36, []), (0, 6, []), (0, 6, []), (5, 1, [some 46]), (8, 2, [some 47, none]), (1, 6, [])]
set_option maxRecDepth 100000 in
theorem ib_36 (N : Nat) (xs : Nat → Int32) : zz_X (zz_call_ 98) tb_2 1 [some (.ref 45)] [.ref 46, .ref 45] (zro N xs, sH_67, mI_48, mL_35, 0, 0) = some (none, (zro N xs, sH_68, mI_48, mL_35, 0, 0)) := by
  refine (zz_X_eq sg_2 _ _ _ _).trans ?_
  refine (zn_putR (sh' := sH_68) (s := (5, 1, [none])) rfl (by decide +kernel) (by decide +kernel) rfl).trans ?_
  exact zn_vret
set_option maxRecDepth 100000 in
theorem ic_8 (N : Nat) (xs : Nat → Int32) : zz_call_ 99 2 [.ref 45] (zro N xs, sH_64, mI_46, mL_33, 155, 2124) = some (none, (zro N xs, sH_68, mI_48, mL_35, 153, 2116)) := zi_of (d := 98) (r := (none, (zro N xs, sH_68, mI_48, mL_35, 0, 0))) mk_2 rfl rfl rfl ((ib_34 N xs).trans (ib_36 N xs)) rfl
set_option maxRecDepth 100000 in
theorem ib_33 (N : Nat) (xs : Nat → Int32) : zz_X (zz_call_ 99) tb_7 6 [some (.ref 0)] [.ref 38, .ref 0] (zro N xs, sH_62, mI_45, mL_32, 156, 2125) = zz_X (zz_call_ 99) tb_7 7 [some (.ref 0)] [.ref 45, .ref 0] (zro N xs, sH_68, mI_48, mL_35, 153, 2116) := by
  refine (zz_X_eq sg_7 _ _ _ _).trans ?_
  refine (zn_putR (sh' := sH_63) (s := (11, 11, [some 1, some 10, some 17, some 23, some 36, none, none, none, none, none, none])) rfl (by decide +kernel) (by decide +kernel) rfl).trans ?_
  refine (zn_aload rfl).trans ?_
  refine (zn_new (sh' := sH_64) (n := 45) (a' := 155) (b' := 2124) (by decide +kernel) (by decide +kernel) (by decide +kernel) (by decide +kernel) (by decide +kernel)).trans ?_
  refine (zn_dup).trans ?_
  exact zn_callI (as := [.ref 45]) (st' := [.ref 45, .ref 0]) (by decide +kernel) rfl rfl rfl (ic_8 N xs) (by decide +kernel)
def sH_69 : List zz_S := [(11, 11, [some 1, some 10, some 17, some 23, some 36, some 38, some 45, none, none, none, none]), (10, 2, [some 2, some 9]), (3, 6, [some 3, some 4, some 5, some 6, some 7, some 8]), (0, 40, []), (0, 40, []), (0, 40, []), (0, 40, []), (0, 40, []), (0, 40, []), (0, 6, []), (10, 2, [some 11, some 16]), (3, 4, [some 12, some 13, some 14, some 15]), (0, 60, []), (0, 60, []), (0, 60, []), (0, 60, []), (0, 4, []), (9, 8, [some 18, some 19, some 20, some 21, some 22, none, none, none]), (0, 7, []), (0, 6, []), (0, 6, []), (0, 6, []), (0, 6, []), (6, 14, [some 24, some 25, some 26, some 27, some 28, some 29, some 30, some 31, some 35, none, none, none, none, none]), (0, 7, []), (0, 6, []), (0, 6, []), (0, 6, []), (0, 6, []), (0, 6, []), (0, 40, []), (3, 3, [some 32, some 33, some 34]), (0, 40, []), (0, 40, []), (0, 40, []), (0, 3, []), (8, 2, [some 37, none]), (1, 6, []), (7, 9, [some 39, some 40, some 41, some 42, some 43, some 44, none, none, none]), (0, 6, []), (0, 6, []), (1, 36, []), (0, 36, []), (0, 6, []), (0, 6, []), (5, 1, [some 46]), (8, 2, [some 47, none]), (1, 6, [])]
def sH_70 : List zz_S := [(11, 11, [some 1, some 10, some 17, some 23, some 36, some 38, some 45, none, none, none, none]), (10, 2, [some 2, some 9]), (3, 6, [some 3, some 4, some 5, some 6, some 7, some 8]), (0, 40, []), (0, 40, []), (0, 40, []), (0, 40, []), (0, 40, []), (0, 40, []), (0, 6, []), (10, 2, [some 11, some 16]), (3, 4, [some 12, some 13, some 14, some 15]), (0, 60, []), (0, 60, []), (0, 60, []), (0, 60, []), (0, 4, []), (9, 8, [some 18, some 19, some 20, some 21, some 22, none, none, none]), (0, 7, []), (0, 6, []), (0, 6, []), (0, 6, []), (0, 6, []), (6, 14, [some 24, some 25, some 26, some 27, some 28, some 29, some 30, some 31, some 35, none, none, none, none, none]), (0, 7, []), (0, 6, []), (0, 6, []), (0, 6, []), (0, 6, []), (0, 6, []), (0, 40, []), (3, 3, [some 32, some 33, some 34]), (0, 40, []), (0, 40, []), (0, 40, []), (0, 3, []), (8, 2, [some 37, none]), (1, 6, []), (7, 9, [some 39, some 40, some 41, some 42, some 43, some 44, none, none, none]), (0, 6, []), (0, 6, []), (1, 36, []), (0, 36, []), (0, 6, []), (0, 6, []), (5, 1, [some 46]), (8, 2, [some 47, none]), (1, 6, []), (4, 4, [none, none, none, none])]
def mI_49 : Nat → Nat → Int32 := zz_rI mI_48 48 (fun _ => 0)
def mL_36 : Nat → Nat → Int64 := zz_rL mL_35 48 (fun _ => 0)
def sH_71 : List zz_S := [(11, 11, [some 1, some 10, some 17, some 23, some 36, some 38, some 45, none, none, none, none]), (10, 2, [some 2, some 9]), (3, 6, [some 3, some 4, some 5, some 6, some 7, some 8]), (0, 40, []), (0, 40, []), (0, 40, []), (0, 40, []), (0, 40, []), (0, 40, []), (0, 6, []), (10, 2, [some 11, some 16]), (3, 4, [some 12, some 13, some 14, some 15]), (0, 60, []), (0, 60, []), (0, 60, []), (0, 60, []), (0, 4, []), (9, 8, [some 18, some 19, some 20, some 21, some 22, none, none, none]), (0, 7, []), (0, 6, []), (0, 6, []), (0, 6, []), (0, 6, []), (6, 14, [some 24, some 25, some 26, some 27, some 28, some 29, some 30, some 31, some 35, none, none, none, none, none]), (0, 7, []), (0, 6, []), (0, 6, []), (0, 6, []), (0, 6, []), (0, 6, []), (0, 40, []), (3, 3, [some 32, some 33, some 34]), (0, 40, []), (0, 40, []), (0, 40, []), (0, 3, []), (8, 2, [some 37, none]), (1, 6, []), (7, 9, [some 39, some 40, some 41, some 42, some 43, some 44, none, none, none]), (0, 6, []), (0, 6, []), (1, 36, []), (0, 36, []), (0, 6, []), (0, 6, []), (5, 1, [some 46]), (8, 2, [some 47, none]), (1, 6, []), (4, 4, [none, none, none, none]), (1, 7, [])]
def mI_50 : Nat → Nat → Int32 := zz_rI mI_49 49 (fun _ => 0)
def mL_37 : Nat → Nat → Int64 := zz_rL mL_36 49 (fun _ => 0)
def sH_72 : List zz_S := [(11, 11, [some 1, some 10, some 17, some 23, some 36, some 38, some 45, none, none, none, none]), (10, 2, [some 2, some 9]), (3, 6, [some 3, some 4, some 5, some 6, some 7, some 8]), (0, 40, []), (0, 40, []), (0, 40, []), (0, 40, []), (0, 40, []), (0, 40, []), (0, 6, []), (10, 2, [some 11, some 16]), (3, 4, [some 12, some 13, some 14, some 15]), (0, 60, []), (0, 60, []), (0, 60, []), (0, 60, []), (0, 4, []), (9, 8, [some 18, some 19, some 20, some 21, some 22, none, none, none]), (0, 7, []), (0, 6, []), (0, 6, []), (0, 6, []), (0, 6, []), (6, 14, [some 24, some 25, some 26, some 27, some 28, some 29, some 30, some 31, some 35, none, none, none, none, none]), (0, 7, []), (0, 6, []), (0, 6, []), (0, 6, []), (0, 6, []), (0, 6, []), (0, 40, []), (3, 3, [some 32, some 33, some 34]), (0, 40, []), (0, 40, []), (0, 40, []), (0, 3, []), (8, 2, [some 37, none]), (1, 6, []), (7, 9, [some 39, some 40, some 41, some 42, some 43, some 44, none, none, none]), (0, 6, []), (0, 6, []), (1, 36, []), (0, 36, []), (0, 6, []), (0, 6, []), (5, 1, [some 46]), (8, 2, [some 47, none]), (1, 6, []), (4, 4, [some 49, none, none, none]), (1, 7, [])]
def sH_73 : List zz_S := [(11, 11, [some 1, some 10, some 17, some 23, some 36, some 38, some 45, none, none, none, none]), (10, 2, [some 2, some 9]), (3, 6, [some 3, some 4, some 5, some 6, some 7, some 8]), (0, 40, []), (0, 40, []), (0, 40, []), (0, 40, []), (0, 40, []), (0, 40, []), (0, 6, []), (10, 2, [some 11, some 16]), (3, 4, [some 12, some 13, some 14, some 15]), (0, 60, []), (0, 60, []), (0, 60, []), (0, 60, []), (0, 4, []), (9, 8, [some 18, some 19, some 20, some 21, some 22, none, none, none]), (0, 7, []), (0, 6, []), (0, 6, []), (0, 6, []), (0, 6, []), (6, 14, [some 24, some 25, some 26, some 27, some 28, some 29, some 30, some 31, some 35, none, none, none, none, none]), (0, 7, []), (0, 6, []), (0, 6, []), (0, 6, []), (0, 6, []), (0, 6, []), (0, 40, []), (3, 3, [some 32, some 33, some 34]), (0, 40, []), (0, 40, []), (0, 40, []), (0, 3, []), (8, 2, [some 37, none]), (1, 6, []), (7, 9, [some 39, some 40, some 41, some 42, some 43, some 44, none, none, none]), (0, 6, []), (0, 6, []), (1, 36, []), (0, 36, []), (0, 6, []), (0, 6, []), (5, 1, [some 46]), (8, 2, [some 47, none]), (1, 6, []), (4, 4, [some 49, none, none, none]), (1, 7, []), (1, 7, [])]
def mI_51 : Nat → Nat → Int32 := zz_rI mI_50 50 (fun _ => 0)
def mL_38 : Nat → Nat → Int64 := zz_rL mL_37 50 (fun _ => 0)
def sH_74 : List zz_S := [(11, 11, [some 1, some 10, some 17, some 23, some 36, some 38, some 45, none, none, none, none]), (10, 2, [some 2, some 9]), (3, 6, [some 3, some 4, some 5, some 6, some 7, some 8]), (0, 40, []), (0, 40, []), (0, 40, []), (0, 40, []), (0, 40, []), (0, 40, []), (0, 6, []), (10, 2, [some 11, some 16]), (3, 4, [some 12, some 13, some 14, some 15]), (0, 60, []), (0, 60, []), (0, 60, []), (0, 60, []), (0, 4, []), (9, 8, [some 18, some 19, some 20, some 21, some 22, none, none, none]), (0, 7, []), (0, 6, []), (0, 6, []), (0, 6, []), (0, 6, []), (6, 14, [some 24, some 25, some 26, some 27, some 28, some 29, some 30, some 31, some 35, none, none, none, none, none]), (0, 7, []), (0, 6, []), (0, 6, []), (0, 6, []), (0, 6, []), (0, 6, []), (0, 40, []), (3, 3, [some 32, some 33, some 34]), (0, 40, []), (0, 40, []), (0, 40, []), (0, 3, []), (8, 2, [some 37, none]), (1, 6, []), (7, 9, [some 39, some 40, some 41, some 42, some 43, some 44, none, none, none]), (0, 6, []), (0, 6, []), (1, 36, []), (0, 36, []), (0, 6, []), (0, 6, []), (5, 1, [some 46]), (8, 2, [some 47, none]), (1, 6, []), (4, 4, [some 49, some 50, none, none]), (1, 7, []), (1, 7, [])]
def mL_39 : Nat → Nat → Int64 := zz_wL mL_38 48 2 (0)
def mL_40 : Nat → Nat → Int64 := zz_wL mL_39 48 3 (1)
set_option maxRecDepth 100000 in
theorem ib_38 (N : Nat) (xs : Nat → Int32) : zz_X (zz_call_ 98) tb_0 0 [some (.ref 48)] [] (zro N xs, sH_70, mI_49, mL_36, 2, 14) = some (none, (zro N xs, sH_74, mI_51, mL_40, 0, 0)) := by
  refine (zz_X_eq sg_0 _ _ _ _).trans ?_
  refine (zn_aload rfl).trans ?_
  refine (zn_oinit (by decide +kernel)).trans ?_
  refine (zn_aload rfl).trans ?_
  refine (zn_push).trans ?_
  refine (zn_newa (sh' := sH_71) (n := 49) (k := 7) (a' := 1) (b' := 7) (by decide +kernel) (by decide +kernel) (by decide +kernel) (by decide +kernel) (by decide +kernel) (by decide +kernel)).trans ?_
  refine (zn_putR (sh' := sH_72) (s := (4, 4, [none, none, none, none])) rfl (by decide +kernel) (by decide +kernel) rfl).trans ?_
  refine (zn_aload rfl).trans ?_
  refine (zn_push).trans ?_
  refine (zn_newa (sh' := sH_73) (n := 50) (k := 7) (a' := 0) (b' := 0) (by decide +kernel) (by decide +kernel) (by decide +kernel) (by decide +kernel) (by decide +kernel) (by decide +kernel)).trans ?_
  refine (zn_putR (sh' := sH_74) (s := (4, 4, [some 49, none, none, none])) rfl (by decide +kernel) (by decide +kernel) rfl).trans ?_
  refine (zn_aload rfl).trans ?_
  refine (zn_push).trans ?_
  refine (zn_putL (s := (4, 4, [some 49, some 50, none, none])) rfl (by decide +kernel) (by decide +kernel)).trans ?_
  refine (zn_aload rfl).trans ?_
  refine (zn_push).trans ?_
  refine (zn_putL (s := (4, 4, [some 49, some 50, none, none])) rfl (by decide +kernel) (by decide +kernel)).trans ?_
  exact zn_vret
set_option maxRecDepth 100000 in
theorem ic_9 (N : Nat) (xs : Nat → Int32) : zz_call_ 99 0 [.ref 48] (zro N xs, sH_70, mI_49, mL_36, 152, 2112) = some (none, (zro N xs, sH_74, mI_51, mL_40, 150, 2098)) := zi_of (d := 98) (r := (none, (zro N xs, sH_74, mI_51, mL_40, 0, 0))) mk_0 rfl rfl rfl (ib_38 N xs) rfl
set_option maxRecDepth 100000 in
theorem ib_37 (N : Nat) (xs : Nat → Int32) : zz_X (zz_call_ 99) tb_7 7 [some (.ref 0)] [.ref 45, .ref 0] (zro N xs, sH_68, mI_48, mL_35, 153, 2116) = zz_X (zz_call_ 99) tb_7 8 [some (.ref 0)] [.ref 48, .ref 0] (zro N xs, sH_74, mI_51, mL_40, 150, 2098) := by
  refine (zz_X_eq sg_7 _ _ _ _).trans ?_
  refine (zn_putR (sh' := sH_69) (s := (11, 11, [some 1, some 10, some 17, some 23, some 36, some 38, none, none, none, none, none])) rfl (by decide +kernel) (by decide +kernel) rfl).trans ?_
  refine (zn_aload rfl).trans ?_
  refine (zn_new (sh' := sH_70) (n := 48) (a' := 152) (b' := 2112) (by decide +kernel) (by decide +kernel) (by decide +kernel) (by decide +kernel) (by decide +kernel)).trans ?_
  refine (zn_dup).trans ?_
  exact zn_callI (as := [.ref 48]) (st' := [.ref 48, .ref 0]) (by decide +kernel) rfl rfl rfl (ic_9 N xs) (by decide +kernel)
def sH_75 : List zz_S := [(11, 11, [some 1, some 10, some 17, some 23, some 36, some 38, some 45, some 48, none, none, none]), (10, 2, [some 2, some 9]), (3, 6, [some 3, some 4, some 5, some 6, some 7, some 8]), (0, 40, []), (0, 40, []), (0, 40, []), (0, 40, []), (0, 40, []), (0, 40, []), (0, 6, []), (10, 2, [some 11, some 16]), (3, 4, [some 12, some 13, some 14, some 15]), (0, 60, []), (0, 60, []), (0, 60, []), (0, 60, []), (0, 4, []), (9, 8, [some 18, some 19, some 20, some 21, some 22, none, none, none]), (0, 7, []), (0, 6, []), (0, 6, []), (0, 6, []), (0, 6, []), (6, 14, [some 24, some 25, some 26, some 27, some 28, some 29, some 30, some 31, some 35, none, none, none, none, none]), (0, 7, []), (0, 6, []), (0, 6, []), (0, 6, []), (0, 6, []), (0, 6, []), (0, 40, []), (3, 3, [some 32, some 33, some 34]), (0, 40, []), (0, 40, []), (0, 40, []), (0, 3, []), (8, 2, [some 37, none]), (1, 6, []), (7, 9, [some 39, some 40, some 41, some 42, some 43, some 44, none, none, none]), (0, 6, []), (0, 6, []), (1, 36, []), (0, 36, []), (0, 6, []), (0, 6, []), (5, 1, [some 46]), (8, 2, [some 47, none]), (1, 6, []), (4, 4, [some 49, some 50, none, none]), (1, 7, []), (1, 7, [])]
def sH_76 : List zz_S := [(11, 11, [some 1, some 10, some 17, some 23, some 36, some 38, some 45, some 48, none, none, none]), (10, 2, [some 2, some 9]), (3, 6, [some 3, some 4, some 5, some 6, some 7, some 8]), (0, 40, []), (0, 40, []), (0, 40, []), (0, 40, []), (0, 40, []), (0, 40, []), (0, 6, []), (10, 2, [some 11, some 16]), (3, 4, [some 12, some 13, some 14, some 15]), (0, 60, []), (0, 60, []), (0, 60, []), (0, 60, []), (0, 4, []), (9, 8, [some 18, some 19, some 20, some 21, some 22, none, none, none]), (0, 7, []), (0, 6, []), (0, 6, []), (0, 6, []), (0, 6, []), (6, 14, [some 24, some 25, some 26, some 27, some 28, some 29, some 30, some 31, some 35, none, none, none, none, none]), (0, 7, []), (0, 6, []), (0, 6, []), (0, 6, []), (0, 6, []), (0, 6, []), (0, 40, []), (3, 3, [some 32, some 33, some 34]), (0, 40, []), (0, 40, []), (0, 40, []), (0, 3, []), (8, 2, [some 37, none]), (1, 6, []), (7, 9, [some 39, some 40, some 41, some 42, some 43, some 44, none, none, none]), (0, 6, []), (0, 6, []), (1, 36, []), (0, 36, []), (0, 6, []), (0, 6, []), (5, 1, [some 46]), (8, 2, [some 47, none]), (1, 6, []), (4, 4, [some 49, some 50, none, none]), (1, 7, []), (1, 7, []), (0, 6, [])]
def mI_52 : Nat → Nat → Int32 := zz_rI mI_51 51 (fun _ => 0)
def mL_41 : Nat → Nat → Int64 := zz_rL mL_40 51 (fun _ => 0)
def sH_77 : List zz_S := [(11, 11, [some 1, some 10, some 17, some 23, some 36, some 38, some 45, some 48, some 51, none, none]), (10, 2, [some 2, some 9]), (3, 6, [some 3, some 4, some 5, some 6, some 7, some 8]), (0, 40, []), (0, 40, []), (0, 40, []), (0, 40, []), (0, 40, []), (0, 40, []), (0, 6, []), (10, 2, [some 11, some 16]), (3, 4, [some 12, some 13, some 14, some 15]), (0, 60, []), (0, 60, []), (0, 60, []), (0, 60, []), (0, 4, []), (9, 8, [some 18, some 19, some 20, some 21, some 22, none, none, none]), (0, 7, []), (0, 6, []), (0, 6, []), (0, 6, []), (0, 6, []), (6, 14, [some 24, some 25, some 26, some 27, some 28, some 29, some 30, some 31, some 35, none, none, none, none, none]), (0, 7, []), (0, 6, []), (0, 6, []), (0, 6, []), (0, 6, []), (0, 6, []), (0, 40, []), (3, 3, [some 32, some 33, some 34]), (0, 40, []), (0, 40, []), (0, 40, []), (0, 3, []), (8, 2, [some 37, none]), (1, 6, []), (7, 9, [some 39, some 40, some 41, some 42, some 43, some 44, none, none, none]), (0, 6, []), (0, 6, []), (1, 36, []), (0, 36, []), (0, 6, []), (0, 6, []), (5, 1, [some 46]), (8, 2, [some 47, none]), (1, 6, []), (4, 4, [some 49, some 50, none, none]), (1, 7, []), (1, 7, []), (0, 6, [])]
def mI_53 : Nat → Nat → Int32 := zz_wI mI_52 0 9 (0)
def mI_54 : Nat → Nat → Int32 := zz_wI mI_53 0 10 (0)
set_option maxRecDepth 100000 in
theorem ib_39 (N : Nat) (xs : Nat → Int32) : zz_X (zz_call_ 99) tb_7 8 [some (.ref 0)] [.ref 48, .ref 0] (zro N xs, sH_74, mI_51, mL_40, 150, 2098) = some (none, (zro N xs, sH_77, mI_54, mL_41, 149, 2092)) := by
  refine (zz_X_eq sg_7 _ _ _ _).trans ?_
  refine (zn_putR (sh' := sH_75) (s := (11, 11, [some 1, some 10, some 17, some 23, some 36, some 38, some 45, none, none, none, none])) rfl (by decide +kernel) (by decide +kernel) rfl).trans ?_
  refine (zn_aload rfl).trans ?_
  refine (zn_push).trans ?_
  refine (zn_newa (sh' := sH_76) (n := 51) (k := 6) (a' := 149) (b' := 2092) (by decide +kernel) (by decide +kernel) (by decide +kernel) (by decide +kernel) (by decide +kernel) (by decide +kernel)).trans ?_
  refine (zn_putR (sh' := sH_77) (s := (11, 11, [some 1, some 10, some 17, some 23, some 36, some 38, some 45, some 48, none, none, none])) rfl (by decide +kernel) (by decide +kernel) rfl).trans ?_
  refine (zn_aload rfl).trans ?_
  refine (zn_push).trans ?_
  refine (zn_putI (s := (11, 11, [some 1, some 10, some 17, some 23, some 36, some 38, some 45, some 48, some 51, none, none])) rfl (by decide +kernel) (by decide +kernel)).trans ?_
  refine (zn_aload rfl).trans ?_
  refine (zn_push).trans ?_
  refine (zn_putI (s := (11, 11, [some 1, some 10, some 17, some 23, some 36, some 38, some 45, some 48, some 51, none, none])) rfl (by decide +kernel) (by decide +kernel)).trans ?_
  exact zn_vret
set_option maxRecDepth 100000 in
theorem ic_10 (N : Nat) (xs : Nat → Int32) : zz_call_ 100 7 [.ref 0] (zro N xs, sH_1, mI_1, mL_1, 599999, 7302239) = some (none, (zro N xs, sH_77, mI_54, mL_41, 599799, 7299239)) := zi_of (d := 99) (r := (none, (zro N xs, sH_77, mI_54, mL_41, 149, 2092))) mk_7 rfl rfl rfl ((ib_2 N xs).trans ((ib_12 N xs).trans ((ib_20 N xs).trans ((ib_22 N xs).trans ((ib_29 N xs).trans ((ib_31 N xs).trans ((ib_33 N xs).trans ((ib_37 N xs).trans (ib_39 N xs))))))))) rfl
set_option maxRecDepth 100000 in
theorem ib_1 (N : Nat) (xs : Nat → Int32) : zz_X (zz_call_ 100) tb_law 0 [some (.ref 1004), none, none, none] [] (zro N xs, sH_0, mI_0, mL_0, 600000, 7302250) = zz_X (zz_call_ 100) tb_law 1 [some (.ref 1004), none, none, none] [.ref 0] (zro N xs, sH_77, mI_54, mL_41, 599799, 7299239) := by
  refine (zz_X_eq sg_law _ _ _ _).trans ?_
  refine (zn_new (sh' := sH_1) (n := 0) (a' := 599999) (b' := 7302239) (by decide +kernel) (by decide +kernel) (by decide +kernel) (by decide +kernel) (by decide +kernel)).trans ?_
  refine (zn_dup).trans ?_
  exact zn_callI (as := [.ref 0]) (st' := [.ref 0]) (by decide +kernel) rfl rfl rfl (ic_10 N xs) (by decide +kernel)
def sH_78 : List zz_S := [(11, 11, [some 1, some 10, some 17, some 23, some 36, some 38, some 45, some 48, some 51, none, none]), (10, 2, [some 2, some 9]), (3, 6, [some 3, some 4, some 5, some 6, some 7, some 8]), (0, 40, []), (0, 40, []), (0, 40, []), (0, 40, []), (0, 40, []), (0, 40, []), (0, 6, []), (10, 2, [some 11, some 16]), (3, 4, [some 12, some 13, some 14, some 15]), (0, 60, []), (0, 60, []), (0, 60, []), (0, 60, []), (0, 4, []), (9, 8, [some 18, some 19, some 20, some 21, some 22, none, none, none]), (0, 7, []), (0, 6, []), (0, 6, []), (0, 6, []), (0, 6, []), (6, 14, [some 24, some 25, some 26, some 27, some 28, some 29, some 30, some 31, some 35, none, none, none, none, none]), (0, 7, []), (0, 6, []), (0, 6, []), (0, 6, []), (0, 6, []), (0, 6, []), (0, 40, []), (3, 3, [some 32, some 33, some 34]), (0, 40, []), (0, 40, []), (0, 40, []), (0, 3, []), (8, 2, [some 37, none]), (1, 6, []), (7, 9, [some 39, some 40, some 41, some 42, some 43, some 44, none, none, none]), (0, 6, []), (0, 6, []), (1, 36, []), (0, 36, []), (0, 6, []), (0, 6, []), (5, 1, [some 46]), (8, 2, [some 47, none]), (1, 6, []), (4, 4, [some 49, some 50, none, none]), (1, 7, []), (1, 7, []), (0, 6, []), (12, 24, [none, none, none, none, none, none, none, none, none, none, none, none, none, none, none, none, none, none, none, none, none, none, none, none])]
def mI_55 : Nat → Nat → Int32 := zz_rI mI_54 52 (fun _ => 0)
def mL_42 : Nat → Nat → Int64 := zz_rL mL_41 52 (fun _ => 0)
def sH_79 : List zz_S := [(11, 11, [some 1, some 10, some 17, some 23, some 36, some 38, some 45, some 48, some 51, none, none]), (10, 2, [some 2, some 9]), (3, 6, [some 3, some 4, some 5, some 6, some 7, some 8]), (0, 40, []), (0, 40, []), (0, 40, []), (0, 40, []), (0, 40, []), (0, 40, []), (0, 6, []), (10, 2, [some 11, some 16]), (3, 4, [some 12, some 13, some 14, some 15]), (0, 60, []), (0, 60, []), (0, 60, []), (0, 60, []), (0, 4, []), (9, 8, [some 18, some 19, some 20, some 21, some 22, none, none, none]), (0, 7, []), (0, 6, []), (0, 6, []), (0, 6, []), (0, 6, []), (6, 14, [some 24, some 25, some 26, some 27, some 28, some 29, some 30, some 31, some 35, none, none, none, none, none]), (0, 7, []), (0, 6, []), (0, 6, []), (0, 6, []), (0, 6, []), (0, 6, []), (0, 40, []), (3, 3, [some 32, some 33, some 34]), (0, 40, []), (0, 40, []), (0, 40, []), (0, 3, []), (8, 2, [some 37, none]), (1, 6, []), (7, 9, [some 39, some 40, some 41, some 42, some 43, some 44, none, none, none]), (0, 6, []), (0, 6, []), (1, 36, []), (0, 36, []), (0, 6, []), (0, 6, []), (5, 1, [some 46]), (8, 2, [some 47, none]), (1, 6, []), (4, 4, [some 49, some 50, none, none]), (1, 7, []), (1, 7, []), (0, 6, []), (12, 24, [none, none, none, none, none, none, none, none, none, none, none, none, none, none, none, none, none, none, none, none, none, none, none, none]), (0, 6600, [])]
def mI_56 : Nat → Nat → Int32 := zz_rI mI_55 53 (fun _ => 0)
def mL_43 : Nat → Nat → Int64 := zz_rL mL_42 53 (fun _ => 0)
def sH_80 : List zz_S := [(11, 11, [some 1, some 10, some 17, some 23, some 36, some 38, some 45, some 48, some 51, none, none]), (10, 2, [some 2, some 9]), (3, 6, [some 3, some 4, some 5, some 6, some 7, some 8]), (0, 40, []), (0, 40, []), (0, 40, []), (0, 40, []), (0, 40, []), (0, 40, []), (0, 6, []), (10, 2, [some 11, some 16]), (3, 4, [some 12, some 13, some 14, some 15]), (0, 60, []), (0, 60, []), (0, 60, []), (0, 60, []), (0, 4, []), (9, 8, [some 18, some 19, some 20, some 21, some 22, none, none, none]), (0, 7, []), (0, 6, []), (0, 6, []), (0, 6, []), (0, 6, []), (6, 14, [some 24, some 25, some 26, some 27, some 28, some 29, some 30, some 31, some 35, none, none, none, none, none]), (0, 7, []), (0, 6, []), (0, 6, []), (0, 6, []), (0, 6, []), (0, 6, []), (0, 40, []), (3, 3, [some 32, some 33, some 34]), (0, 40, []), (0, 40, []), (0, 40, []), (0, 3, []), (8, 2, [some 37, none]), (1, 6, []), (7, 9, [some 39, some 40, some 41, some 42, some 43, some 44, none, none, none]), (0, 6, []), (0, 6, []), (1, 36, []), (0, 36, []), (0, 6, []), (0, 6, []), (5, 1, [some 46]), (8, 2, [some 47, none]), (1, 6, []), (4, 4, [some 49, some 50, none, none]), (1, 7, []), (1, 7, []), (0, 6, []), (12, 24, [some 53, none, none, none, none, none, none, none, none, none, none, none, none, none, none, none, none, none, none, none, none, none, none, none]), (0, 6600, [])]
def sH_81 : List zz_S := [(11, 11, [some 1, some 10, some 17, some 23, some 36, some 38, some 45, some 48, some 51, none, none]), (10, 2, [some 2, some 9]), (3, 6, [some 3, some 4, some 5, some 6, some 7, some 8]), (0, 40, []), (0, 40, []), (0, 40, []), (0, 40, []), (0, 40, []), (0, 40, []), (0, 6, []), (10, 2, [some 11, some 16]), (3, 4, [some 12, some 13, some 14, some 15]), (0, 60, []), (0, 60, []), (0, 60, []), (0, 60, []), (0, 4, []), (9, 8, [some 18, some 19, some 20, some 21, some 22, none, none, none]), (0, 7, []), (0, 6, []), (0, 6, []), (0, 6, []), (0, 6, []), (6, 14, [some 24, some 25, some 26, some 27, some 28, some 29, some 30, some 31, some 35, none, none, none, none, none]), (0, 7, []), (0, 6, []), (0, 6, []), (0, 6, []), (0, 6, []), (0, 6, []), (0, 40, []), (3, 3, [some 32, some 33, some 34]), (0, 40, []), (0, 40, []), (0, 40, []), (0, 3, []), (8, 2, [some 37, none]), (1, 6, []), (7, 9, [some 39, some 40, some 41, some 42, some 43, some 44, none, none, none]), (0, 6, []), (0, 6, []), (1, 36, []), (0, 36, []), (0, 6, []), (0, 6, []), (5, 1, [some 46]), (8, 2, [some 47, none]), (1, 6, []), (4, 4, [some 49, some 50, none, none]), (1, 7, []), (1, 7, []), (0, 6, []), (12, 24, [some 53, none, none, none, none, none, none, none, none, none, none, none, none, none, none, none, none, none, none, none, none, none, none, none]), (0, 6600, []), (0, 3, [])]
def mI_57 : Nat → Nat → Int32 := zz_rI mI_56 54 (fun _ => 0)
def mL_44 : Nat → Nat → Int64 := zz_rL mL_43 54 (fun _ => 0)
def sH_82 : List zz_S := [(11, 11, [some 1, some 10, some 17, some 23, some 36, some 38, some 45, some 48, some 51, none, none]), (10, 2, [some 2, some 9]), (3, 6, [some 3, some 4, some 5, some 6, some 7, some 8]), (0, 40, []), (0, 40, []), (0, 40, []), (0, 40, []), (0, 40, []), (0, 40, []), (0, 6, []), (10, 2, [some 11, some 16]), (3, 4, [some 12, some 13, some 14, some 15]), (0, 60, []), (0, 60, []), (0, 60, []), (0, 60, []), (0, 4, []), (9, 8, [some 18, some 19, some 20, some 21, some 22, none, none, none]), (0, 7, []), (0, 6, []), (0, 6, []), (0, 6, []), (0, 6, []), (6, 14, [some 24, some 25, some 26, some 27, some 28, some 29, some 30, some 31, some 35, none, none, none, none, none]), (0, 7, []), (0, 6, []), (0, 6, []), (0, 6, []), (0, 6, []), (0, 6, []), (0, 40, []), (3, 3, [some 32, some 33, some 34]), (0, 40, []), (0, 40, []), (0, 40, []), (0, 3, []), (8, 2, [some 37, none]), (1, 6, []), (7, 9, [some 39, some 40, some 41, some 42, some 43, some 44, none, none, none]), (0, 6, []), (0, 6, []), (1, 36, []), (0, 36, []), (0, 6, []), (0, 6, []), (5, 1, [some 46]), (8, 2, [some 47, none]), (1, 6, []), (4, 4, [some 49, some 50, none, none]), (1, 7, []), (1, 7, []), (0, 6, []), (12, 24, [some 53, none, some 54, none, none, none, none, none, none, none, none, none, none, none, none, none, none, none, none, none, none, none, none, none]), (0, 6600, []), (0, 3, [])]
def sH_83 : List zz_S := [(11, 11, [some 1, some 10, some 17, some 23, some 36, some 38, some 45, some 48, some 51, none, none]), (10, 2, [some 2, some 9]), (3, 6, [some 3, some 4, some 5, some 6, some 7, some 8]), (0, 40, []), (0, 40, []), (0, 40, []), (0, 40, []), (0, 40, []), (0, 40, []), (0, 6, []), (10, 2, [some 11, some 16]), (3, 4, [some 12, some 13, some 14, some 15]), (0, 60, []), (0, 60, []), (0, 60, []), (0, 60, []), (0, 4, []), (9, 8, [some 18, some 19, some 20, some 21, some 22, none, none, none]), (0, 7, []), (0, 6, []), (0, 6, []), (0, 6, []), (0, 6, []), (6, 14, [some 24, some 25, some 26, some 27, some 28, some 29, some 30, some 31, some 35, none, none, none, none, none]), (0, 7, []), (0, 6, []), (0, 6, []), (0, 6, []), (0, 6, []), (0, 6, []), (0, 40, []), (3, 3, [some 32, some 33, some 34]), (0, 40, []), (0, 40, []), (0, 40, []), (0, 3, []), (8, 2, [some 37, none]), (1, 6, []), (7, 9, [some 39, some 40, some 41, some 42, some 43, some 44, none, none, none]), (0, 6, []), (0, 6, []), (1, 36, []), (0, 36, []), (0, 6, []), (0, 6, []), (5, 1, [some 46]), (8, 2, [some 47, none]), (1, 6, []), (4, 4, [some 49, some 50, none, none]), (1, 7, []), (1, 7, []), (0, 6, []), (12, 24, [some 53, none, some 54, none, none, none, none, none, none, none, none, none, none, none, none, none, none, none, none, none, none, none, none, none]), (0, 6600, []), (0, 3, []), (0, 240, [])]
def mI_58 : Nat → Nat → Int32 := zz_rI mI_57 55 (fun _ => 0)
def mL_45 : Nat → Nat → Int64 := zz_rL mL_44 55 (fun _ => 0)
def sH_84 : List zz_S := [(11, 11, [some 1, some 10, some 17, some 23, some 36, some 38, some 45, some 48, some 51, none, none]), (10, 2, [some 2, some 9]), (3, 6, [some 3, some 4, some 5, some 6, some 7, some 8]), (0, 40, []), (0, 40, []), (0, 40, []), (0, 40, []), (0, 40, []), (0, 40, []), (0, 6, []), (10, 2, [some 11, some 16]), (3, 4, [some 12, some 13, some 14, some 15]), (0, 60, []), (0, 60, []), (0, 60, []), (0, 60, []), (0, 4, []), (9, 8, [some 18, some 19, some 20, some 21, some 22, none, none, none]), (0, 7, []), (0, 6, []), (0, 6, []), (0, 6, []), (0, 6, []), (6, 14, [some 24, some 25, some 26, some 27, some 28, some 29, some 30, some 31, some 35, none, none, none, none, none]), (0, 7, []), (0, 6, []), (0, 6, []), (0, 6, []), (0, 6, []), (0, 6, []), (0, 40, []), (3, 3, [some 32, some 33, some 34]), (0, 40, []), (0, 40, []), (0, 40, []), (0, 3, []), (8, 2, [some 37, none]), (1, 6, []), (7, 9, [some 39, some 40, some 41, some 42, some 43, some 44, none, none, none]), (0, 6, []), (0, 6, []), (1, 36, []), (0, 36, []), (0, 6, []), (0, 6, []), (5, 1, [some 46]), (8, 2, [some 47, none]), (1, 6, []), (4, 4, [some 49, some 50, none, none]), (1, 7, []), (1, 7, []), (0, 6, []), (12, 24, [some 53, none, some 54, some 55, none, none, none, none, none, none, none, none, none, none, none, none, none, none, none, none, none, none, none, none]), (0, 6600, []), (0, 3, []), (0, 240, [])]
def sH_85 : List zz_S := [(11, 11, [some 1, some 10, some 17, some 23, some 36, some 38, some 45, some 48, some 51, none, none]), (10, 2, [some 2, some 9]), (3, 6, [some 3, some 4, some 5, some 6, some 7, some 8]), (0, 40, []), (0, 40, []), (0, 40, []), (0, 40, []), (0, 40, []), (0, 40, []), (0, 6, []), (10, 2, [some 11, some 16]), (3, 4, [some 12, some 13, some 14, some 15]), (0, 60, []), (0, 60, []), (0, 60, []), (0, 60, []), (0, 4, []), (9, 8, [some 18, some 19, some 20, some 21, some 22, none, none, none]), (0, 7, []), (0, 6, []), (0, 6, []), (0, 6, []), (0, 6, []), (6, 14, [some 24, some 25, some 26, some 27, some 28, some 29, some 30, some 31, some 35, none, none, none, none, none]), (0, 7, []), (0, 6, []), (0, 6, []), (0, 6, []), (0, 6, []), (0, 6, []), (0, 40, []), (3, 3, [some 32, some 33, some 34]), (0, 40, []), (0, 40, []), (0, 40, []), (0, 3, []), (8, 2, [some 37, none]), (1, 6, []), (7, 9, [some 39, some 40, some 41, some 42, some 43, some 44, none, none, none]), (0, 6, []), (0, 6, []), (1, 36, []), (0, 36, []), (0, 6, []), (0, 6, []), (5, 1, [some 46]), (8, 2, [some 47, none]), (1, 6, []), (4, 4, [some 49, some 50, none, none]), (1, 7, []), (1, 7, []), (0, 6, []), (12, 24, [some 53, none, some 54, some 55, none, none, none, none, none, none, none, none, none, none, none, none, none, none, none, none, none, none, none, none]), (0, 6600, []), (0, 3, []), (0, 240, []), (0, 6, [])]
def mI_59 : Nat → Nat → Int32 := zz_rI mI_58 56 (fun _ => 0)
def mL_46 : Nat → Nat → Int64 := zz_rL mL_45 56 (fun _ => 0)
def sH_86 : List zz_S := [(11, 11, [some 1, some 10, some 17, some 23, some 36, some 38, some 45, some 48, some 51, none, none]), (10, 2, [some 2, some 9]), (3, 6, [some 3, some 4, some 5, some 6, some 7, some 8]), (0, 40, []), (0, 40, []), (0, 40, []), (0, 40, []), (0, 40, []), (0, 40, []), (0, 6, []), (10, 2, [some 11, some 16]), (3, 4, [some 12, some 13, some 14, some 15]), (0, 60, []), (0, 60, []), (0, 60, []), (0, 60, []), (0, 4, []), (9, 8, [some 18, some 19, some 20, some 21, some 22, none, none, none]), (0, 7, []), (0, 6, []), (0, 6, []), (0, 6, []), (0, 6, []), (6, 14, [some 24, some 25, some 26, some 27, some 28, some 29, some 30, some 31, some 35, none, none, none, none, none]), (0, 7, []), (0, 6, []), (0, 6, []), (0, 6, []), (0, 6, []), (0, 6, []), (0, 40, []), (3, 3, [some 32, some 33, some 34]), (0, 40, []), (0, 40, []), (0, 40, []), (0, 3, []), (8, 2, [some 37, none]), (1, 6, []), (7, 9, [some 39, some 40, some 41, some 42, some 43, some 44, none, none, none]), (0, 6, []), (0, 6, []), (1, 36, []), (0, 36, []), (0, 6, []), (0, 6, []), (5, 1, [some 46]), (8, 2, [some 47, none]), (1, 6, []), (4, 4, [some 49, some 50, none, none]), (1, 7, []), (1, 7, []), (0, 6, []), (12, 24, [some 53, none, some 54, some 55, some 56, none, none, none, none, none, none, none, none, none, none, none, none, none, none, none, none, none, none, none]), (0, 6600, []), (0, 3, []), (0, 240, []), (0, 6, [])]
def sH_87 : List zz_S := [(11, 11, [some 1, some 10, some 17, some 23, some 36, some 38, some 45, some 48, some 51, none, none]), (10, 2, [some 2, some 9]), (3, 6, [some 3, some 4, some 5, some 6, some 7, some 8]), (0, 40, []), (0, 40, []), (0, 40, []), (0, 40, []), (0, 40, []), (0, 40, []), (0, 6, []), (10, 2, [some 11, some 16]), (3, 4, [some 12, some 13, some 14, some 15]), (0, 60, []), (0, 60, []), (0, 60, []), (0, 60, []), (0, 4, []), (9, 8, [some 18, some 19, some 20, some 21, some 22, none, none, none]), (0, 7, []), (0, 6, []), (0, 6, []), (0, 6, []), (0, 6, []), (6, 14, [some 24, some 25, some 26, some 27, some 28, some 29, some 30, some 31, some 35, none, none, none, none, none]), (0, 7, []), (0, 6, []), (0, 6, []), (0, 6, []), (0, 6, []), (0, 6, []), (0, 40, []), (3, 3, [some 32, some 33, some 34]), (0, 40, []), (0, 40, []), (0, 40, []), (0, 3, []), (8, 2, [some 37, none]), (1, 6, []), (7, 9, [some 39, some 40, some 41, some 42, some 43, some 44, none, none, none]), (0, 6, []), (0, 6, []), (1, 36, []), (0, 36, []), (0, 6, []), (0, 6, []), (5, 1, [some 46]), (8, 2, [some 47, none]), (1, 6, []), (4, 4, [some 49, some 50, none, none]), (1, 7, []), (1, 7, []), (0, 6, []), (12, 24, [some 53, none, some 54, some 55, some 56, none, none, none, none, none, none, none, none, none, none, none, none, none, none, none, none, none, none, none]), (0, 6600, []), (0, 3, []), (0, 240, []), (0, 6, []), (0, 240, [])]
def mI_60 : Nat → Nat → Int32 := zz_rI mI_59 57 (fun _ => 0)
def mL_47 : Nat → Nat → Int64 := zz_rL mL_46 57 (fun _ => 0)
def sH_88 : List zz_S := [(11, 11, [some 1, some 10, some 17, some 23, some 36, some 38, some 45, some 48, some 51, none, none]), (10, 2, [some 2, some 9]), (3, 6, [some 3, some 4, some 5, some 6, some 7, some 8]), (0, 40, []), (0, 40, []), (0, 40, []), (0, 40, []), (0, 40, []), (0, 40, []), (0, 6, []), (10, 2, [some 11, some 16]), (3, 4, [some 12, some 13, some 14, some 15]), (0, 60, []), (0, 60, []), (0, 60, []), (0, 60, []), (0, 4, []), (9, 8, [some 18, some 19, some 20, some 21, some 22, none, none, none]), (0, 7, []), (0, 6, []), (0, 6, []), (0, 6, []), (0, 6, []), (6, 14, [some 24, some 25, some 26, some 27, some 28, some 29, some 30, some 31, some 35, none, none, none, none, none]), (0, 7, []), (0, 6, []), (0, 6, []), (0, 6, []), (0, 6, []), (0, 6, []), (0, 40, []), (3, 3, [some 32, some 33, some 34]), (0, 40, []), (0, 40, []), (0, 40, []), (0, 3, []), (8, 2, [some 37, none]), (1, 6, []), (7, 9, [some 39, some 40, some 41, some 42, some 43, some 44, none, none, none]), (0, 6, []), (0, 6, []), (1, 36, []), (0, 36, []), (0, 6, []), (0, 6, []), (5, 1, [some 46]), (8, 2, [some 47, none]), (1, 6, []), (4, 4, [some 49, some 50, none, none]), (1, 7, []), (1, 7, []), (0, 6, []), (12, 24, [some 53, none, some 54, some 55, some 56, some 57, none, none, none, none, none, none, none, none, none, none, none, none, none, none, none, none, none, none]), (0, 6600, []), (0, 3, []), (0, 240, []), (0, 6, []), (0, 240, [])]
def sH_89 : List zz_S := [(11, 11, [some 1, some 10, some 17, some 23, some 36, some 38, some 45, some 48, some 51, none, none]), (10, 2, [some 2, some 9]), (3, 6, [some 3, some 4, some 5, some 6, some 7, some 8]), (0, 40, []), (0, 40, []), (0, 40, []), (0, 40, []), (0, 40, []), (0, 40, []), (0, 6, []), (10, 2, [some 11, some 16]), (3, 4, [some 12, some 13, some 14, some 15]), (0, 60, []), (0, 60, []), (0, 60, []), (0, 60, []), (0, 4, []), (9, 8, [some 18, some 19, some 20, some 21, some 22, none, none, none]), (0, 7, []), (0, 6, []), (0, 6, []), (0, 6, []), (0, 6, []), (6, 14, [some 24, some 25, some 26, some 27, some 28, some 29, some 30, some 31, some 35, none, none, none, none, none]), (0, 7, []), (0, 6, []), (0, 6, []), (0, 6, []), (0, 6, []), (0, 6, []), (0, 40, []), (3, 3, [some 32, some 33, some 34]), (0, 40, []), (0, 40, []), (0, 40, []), (0, 3, []), (8, 2, [some 37, none]), (1, 6, []), (7, 9, [some 39, some 40, some 41, some 42, some 43, some 44, none, none, none]), (0, 6, []), (0, 6, []), (1, 36, []), (0, 36, []), (0, 6, []), (0, 6, []), (5, 1, [some 46]), (8, 2, [some 47, none]), (1, 6, []), (4, 4, [some 49, some 50, none, none]), (1, 7, []), (1, 7, []), (0, 6, []), (12, 24, [some 53, none, some 54, some 55, some 56, some 57, none, none, none, none, none, none, none, none, none, none, none, none, none, none, none, none, none, none]), (0, 6600, []), (0, 3, []), (0, 240, []), (0, 6, []), (0, 240, []), (0, 4, [])]
def mI_61 : Nat → Nat → Int32 := zz_rI mI_60 58 (fun _ => 0)
def mL_48 : Nat → Nat → Int64 := zz_rL mL_47 58 (fun _ => 0)
def sH_90 : List zz_S := [(11, 11, [some 1, some 10, some 17, some 23, some 36, some 38, some 45, some 48, some 51, none, none]), (10, 2, [some 2, some 9]), (3, 6, [some 3, some 4, some 5, some 6, some 7, some 8]), (0, 40, []), (0, 40, []), (0, 40, []), (0, 40, []), (0, 40, []), (0, 40, []), (0, 6, []), (10, 2, [some 11, some 16]), (3, 4, [some 12, some 13, some 14, some 15]), (0, 60, []), (0, 60, []), (0, 60, []), (0, 60, []), (0, 4, []), (9, 8, [some 18, some 19, some 20, some 21, some 22, none, none, none]), (0, 7, []), (0, 6, []), (0, 6, []), (0, 6, []), (0, 6, []), (6, 14, [some 24, some 25, some 26, some 27, some 28, some 29, some 30, some 31, some 35, none, none, none, none, none]), (0, 7, []), (0, 6, []), (0, 6, []), (0, 6, []), (0, 6, []), (0, 6, []), (0, 40, []), (3, 3, [some 32, some 33, some 34]), (0, 40, []), (0, 40, []), (0, 40, []), (0, 3, []), (8, 2, [some 37, none]), (1, 6, []), (7, 9, [some 39, some 40, some 41, some 42, some 43, some 44, none, none, none]), (0, 6, []), (0, 6, []), (1, 36, []), (0, 36, []), (0, 6, []), (0, 6, []), (5, 1, [some 46]), (8, 2, [some 47, none]), (1, 6, []), (4, 4, [some 49, some 50, none, none]), (1, 7, []), (1, 7, []), (0, 6, []), (12, 24, [some 53, none, some 54, some 55, some 56, some 57, some 58, none, none, none, none, none, none, none, none, none, none, none, none, none, none, none, none, none]), (0, 6600, []), (0, 3, []), (0, 240, []), (0, 6, []), (0, 240, []), (0, 4, [])]
def sH_91 : List zz_S := [(11, 11, [some 1, some 10, some 17, some 23, some 36, some 38, some 45, some 48, some 51, none, none]), (10, 2, [some 2, some 9]), (3, 6, [some 3, some 4, some 5, some 6, some 7, some 8]), (0, 40, []), (0, 40, []), (0, 40, []), (0, 40, []), (0, 40, []), (0, 40, []), (0, 6, []), (10, 2, [some 11, some 16]), (3, 4, [some 12, some 13, some 14, some 15]), (0, 60, []), (0, 60, []), (0, 60, []), (0, 60, []), (0, 4, []), (9, 8, [some 18, some 19, some 20, some 21, some 22, none, none, none]), (0, 7, []), (0, 6, []), (0, 6, []), (0, 6, []), (0, 6, []), (6, 14, [some 24, some 25, some 26, some 27, some 28, some 29, some 30, some 31, some 35, none, none, none, none, none]), (0, 7, []), (0, 6, []), (0, 6, []), (0, 6, []), (0, 6, []), (0, 6, []), (0, 40, []), (3, 3, [some 32, some 33, some 34]), (0, 40, []), (0, 40, []), (0, 40, []), (0, 3, []), (8, 2, [some 37, none]), (1, 6, []), (7, 9, [some 39, some 40, some 41, some 42, some 43, some 44, none, none, none]), (0, 6, []), (0, 6, []), (1, 36, []), (0, 36, []), (0, 6, []), (0, 6, []), (5, 1, [some 46]), (8, 2, [some 47, none]), (1, 6, []), (4, 4, [some 49, some 50, none, none]), (1, 7, []), (1, 7, []), (0, 6, []), (12, 24, [some 53, none, some 54, some 55, some 56, some 57, some 58, none, none, none, none, none, none, none, none, none, none, none, none, none, none, none, none, none]), (0, 6600, []), (0, 3, []), (0, 240, []), (0, 6, []), (0, 240, []), (0, 4, []), (0, 40, [])]
def mI_62 : Nat → Nat → Int32 := zz_rI mI_61 59 (fun _ => 0)
def mL_49 : Nat → Nat → Int64 := zz_rL mL_48 59 (fun _ => 0)
def sH_92 : List zz_S := [(11, 11, [some 1, some 10, some 17, some 23, some 36, some 38, some 45, some 48, some 51, none, none]), (10, 2, [some 2, some 9]), (3, 6, [some 3, some 4, some 5, some 6, some 7, some 8]), (0, 40, []), (0, 40, []), (0, 40, []), (0, 40, []), (0, 40, []), (0, 40, []), (0, 6, []), (10, 2, [some 11, some 16]), (3, 4, [some 12, some 13, some 14, some 15]), (0, 60, []), (0, 60, []), (0, 60, []), (0, 60, []), (0, 4, []), (9, 8, [some 18, some 19, some 20, some 21, some 22, none, none, none]), (0, 7, []), (0, 6, []), (0, 6, []), (0, 6, []), (0, 6, []), (6, 14, [some 24, some 25, some 26, some 27, some 28, some 29, some 30, some 31, some 35, none, none, none, none, none]), (0, 7, []), (0, 6, []), (0, 6, []), (0, 6, []), (0, 6, []), (0, 6, []), (0, 40, []), (3, 3, [some 32, some 33, some 34]), (0, 40, []), (0, 40, []), (0, 40, []), (0, 3, []), (8, 2, [some 37, none]), (1, 6, []), (7, 9, [some 39, some 40, some 41, some 42, some 43, some 44, none, none, none]), (0, 6, []), (0, 6, []), (1, 36, []), (0, 36, []), (0, 6, []), (0, 6, []), (5, 1, [some 46]), (8, 2, [some 47, none]), (1, 6, []), (4, 4, [some 49, some 50, none, none]), (1, 7, []), (1, 7, []), (0, 6, []), (12, 24, [some 53, none, some 54, some 55, some 56, some 57, some 58, some 59, none, none, none, none, none, none, none, none, none, none, none, none, none, none, none, none]), (0, 6600, []), (0, 3, []), (0, 240, []), (0, 6, []), (0, 240, []), (0, 4, []), (0, 40, [])]
def sH_93 : List zz_S := [(11, 11, [some 1, some 10, some 17, some 23, some 36, some 38, some 45, some 48, some 51, none, none]), (10, 2, [some 2, some 9]), (3, 6, [some 3, some 4, some 5, some 6, some 7, some 8]), (0, 40, []), (0, 40, []), (0, 40, []), (0, 40, []), (0, 40, []), (0, 40, []), (0, 6, []), (10, 2, [some 11, some 16]), (3, 4, [some 12, some 13, some 14, some 15]), (0, 60, []), (0, 60, []), (0, 60, []), (0, 60, []), (0, 4, []), (9, 8, [some 18, some 19, some 20, some 21, some 22, none, none, none]), (0, 7, []), (0, 6, []), (0, 6, []), (0, 6, []), (0, 6, []), (6, 14, [some 24, some 25, some 26, some 27, some 28, some 29, some 30, some 31, some 35, none, none, none, none, none]), (0, 7, []), (0, 6, []), (0, 6, []), (0, 6, []), (0, 6, []), (0, 6, []), (0, 40, []), (3, 3, [some 32, some 33, some 34]), (0, 40, []), (0, 40, []), (0, 40, []), (0, 3, []), (8, 2, [some 37, none]), (1, 6, []), (7, 9, [some 39, some 40, some 41, some 42, some 43, some 44, none, none, none]), (0, 6, []), (0, 6, []), (1, 36, []), (0, 36, []), (0, 6, []), (0, 6, []), (5, 1, [some 46]), (8, 2, [some 47, none]), (1, 6, []), (4, 4, [some 49, some 50, none, none]), (1, 7, []), (1, 7, []), (0, 6, []), (12, 24, [some 53, none, some 54, some 55, some 56, some 57, some 58, some 59, none, none, none, none, none, none, none, none, none, none, none, none, none, none, none, none]), (0, 6600, []), (0, 3, []), (0, 240, []), (0, 6, []), (0, 240, []), (0, 4, []), (0, 40, []), (0, 6, [])]
def mI_63 : Nat → Nat → Int32 := zz_rI mI_62 60 (fun _ => 0)
def mL_50 : Nat → Nat → Int64 := zz_rL mL_49 60 (fun _ => 0)
def sH_94 : List zz_S := [(11, 11, [some 1, some 10, some 17, some 23, some 36, some 38, some 45, some 48, some 51, none, none]), (10, 2, [some 2, some 9]), (3, 6, [some 3, some 4, some 5, some 6, some 7, some 8]), (0, 40, []), (0, 40, []), (0, 40, []), (0, 40, []), (0, 40, []), (0, 40, []), (0, 6, []), (10, 2, [some 11, some 16]), (3, 4, [some 12, some 13, some 14, some 15]), (0, 60, []), (0, 60, []), (0, 60, []), (0, 60, []), (0, 4, []), (9, 8, [some 18, some 19, some 20, some 21, some 22, none, none, none]), (0, 7, []), (0, 6, []), (0, 6, []), (0, 6, []), (0, 6, []), (6, 14, [some 24, some 25, some 26, some 27, some 28, some 29, some 30, some 31, some 35, none, none, none, none, none]), (0, 7, []), (0, 6, []), (0, 6, []), (0, 6, []), (0, 6, []), (0, 6, []), (0, 40, []), (3, 3, [some 32, some 33, some 34]), (0, 40, []), (0, 40, []), (0, 40, []), (0, 3, []), (8, 2, [some 37, none]), (1, 6, []), (7, 9, [some 39, some 40, some 41, some 42, some 43, some 44, none, none, none]), (0, 6, []), (0, 6, []), (1, 36, []), (0, 36, []), (0, 6, []), (0, 6, []), (5, 1, [some 46]), (8, 2, [some 47, none]), (1, 6, []), (4, 4, [some 49, some 50, none, none]), (1, 7, []), (1, 7, []), (0, 6, []), (12, 24, [some 53, none, some 54, some 55, some 56, some 57, some 58, some 59, none, some 60, none, none, none, none, none, none, none, none, none, none, none, none, none, none]), (0, 6600, []), (0, 3, []), (0, 240, []), (0, 6, []), (0, 240, []), (0, 4, []), (0, 40, []), (0, 6, [])]
def mL_51 : Nat → Nat → Int64 := zz_wL mL_50 52 12 (1)
def sH_95 : List zz_S := [(11, 11, [some 1, some 10, some 17, some 23, some 36, some 38, some 45, some 48, some 51, none, none]), (10, 2, [some 2, some 9]), (3, 6, [some 3, some 4, some 5, some 6, some 7, some 8]), (0, 40, []), (0, 40, []), (0, 40, []), (0, 40, []), (0, 40, []), (0, 40, []), (0, 6, []), (10, 2, [some 11, some 16]), (3, 4, [some 12, some 13, some 14, some 15]), (0, 60, []), (0, 60, []), (0, 60, []), (0, 60, []), (0, 4, []), (9, 8, [some 18, some 19, some 20, some 21, some 22, none, none, none]), (0, 7, []), (0, 6, []), (0, 6, []), (0, 6, []), (0, 6, []), (6, 14, [some 24, some 25, some 26, some 27, some 28, some 29, some 30, some 31, some 35, none, none, none, none, none]), (0, 7, []), (0, 6, []), (0, 6, []), (0, 6, []), (0, 6, []), (0, 6, []), (0, 40, []), (3, 3, [some 32, some 33, some 34]), (0, 40, []), (0, 40, []), (0, 40, []), (0, 3, []), (8, 2, [some 37, none]), (1, 6, []), (7, 9, [some 39, some 40, some 41, some 42, some 43, some 44, none, none, none]), (0, 6, []), (0, 6, []), (1, 36, []), (0, 36, []), (0, 6, []), (0, 6, []), (5, 1, [some 46]), (8, 2, [some 47, none]), (1, 6, []), (4, 4, [some 49, some 50, none, none]), (1, 7, []), (1, 7, []), (0, 6, []), (12, 24, [some 53, none, some 54, some 55, some 56, some 57, some 58, some 59, none, some 60, none, none, none, none, none, none, none, none, none, none, none, none, none, none]), (0, 6600, []), (0, 3, []), (0, 240, []), (0, 6, []), (0, 240, []), (0, 4, []), (0, 40, []), (0, 6, []), (0, 6, [])]
def mI_64 : Nat → Nat → Int32 := zz_rI mI_63 61 (fun _ => 0)
def mL_52 : Nat → Nat → Int64 := zz_rL mL_51 61 (fun _ => 0)
def sH_96 : List zz_S := [(11, 11, [some 1, some 10, some 17, some 23, some 36, some 38, some 45, some 48, some 51, none, none]), (10, 2, [some 2, some 9]), (3, 6, [some 3, some 4, some 5, some 6, some 7, some 8]), (0, 40, []), (0, 40, []), (0, 40, []), (0, 40, []), (0, 40, []), (0, 40, []), (0, 6, []), (10, 2, [some 11, some 16]), (3, 4, [some 12, some 13, some 14, some 15]), (0, 60, []), (0, 60, []), (0, 60, []), (0, 60, []), (0, 4, []), (9, 8, [some 18, some 19, some 20, some 21, some 22, none, none, none]), (0, 7, []), (0, 6, []), (0, 6, []), (0, 6, []), (0, 6, []), (6, 14, [some 24, some 25, some 26, some 27, some 28, some 29, some 30, some 31, some 35, none, none, none, none, none]), (0, 7, []), (0, 6, []), (0, 6, []), (0, 6, []), (0, 6, []), (0, 6, []), (0, 40, []), (3, 3, [some 32, some 33, some 34]), (0, 40, []), (0, 40, []), (0, 40, []), (0, 3, []), (8, 2, [some 37, none]), (1, 6, []), (7, 9, [some 39, some 40, some 41, some 42, some 43, some 44, none, none, none]), (0, 6, []), (0, 6, []), (1, 36, []), (0, 36, []), (0, 6, []), (0, 6, []), (5, 1, [some 46]), (8, 2, [some 47, none]), (1, 6, []), (4, 4, [some 49, some 50, none, none]), (1, 7, []), (1, 7, []), (0, 6, []), (12, 24, [some 53, none, some 54, some 55, some 56, some 57, some 58, some 59, none, some 60, none, none, none, none, some 61, none, none, none, none, none, none, none, none, none]), (0, 6600, []), (0, 3, []), (0, 240, []), (0, 6, []), (0, 240, []), (0, 4, []), (0, 40, []), (0, 6, []), (0, 6, [])]
def sH_97 : List zz_S := [(11, 11, [some 1, some 10, some 17, some 23, some 36, some 38, some 45, some 48, some 51, none, none]), (10, 2, [some 2, some 9]), (3, 6, [some 3, some 4, some 5, some 6, some 7, some 8]), (0, 40, []), (0, 40, []), (0, 40, []), (0, 40, []), (0, 40, []), (0, 40, []), (0, 6, []), (10, 2, [some 11, some 16]), (3, 4, [some 12, some 13, some 14, some 15]), (0, 60, []), (0, 60, []), (0, 60, []), (0, 60, []), (0, 4, []), (9, 8, [some 18, some 19, some 20, some 21, some 22, none, none, none]), (0, 7, []), (0, 6, []), (0, 6, []), (0, 6, []), (0, 6, []), (6, 14, [some 24, some 25, some 26, some 27, some 28, some 29, some 30, some 31, some 35, none, none, none, none, none]), (0, 7, []), (0, 6, []), (0, 6, []), (0, 6, []), (0, 6, []), (0, 6, []), (0, 40, []), (3, 3, [some 32, some 33, some 34]), (0, 40, []), (0, 40, []), (0, 40, []), (0, 3, []), (8, 2, [some 37, none]), (1, 6, []), (7, 9, [some 39, some 40, some 41, some 42, some 43, some 44, none, none, none]), (0, 6, []), (0, 6, []), (1, 36, []), (0, 36, []), (0, 6, []), (0, 6, []), (5, 1, [some 46]), (8, 2, [some 47, none]), (1, 6, []), (4, 4, [some 49, some 50, none, none]), (1, 7, []), (1, 7, []), (0, 6, []), (12, 24, [some 53, none, some 54, some 55, some 56, some 57, some 58, some 59, none, some 60, none, none, none, none, some 61, none, none, none, none, none, none, none, none, none]), (0, 6600, []), (0, 3, []), (0, 240, []), (0, 6, []), (0, 240, []), (0, 4, []), (0, 40, []), (0, 6, []), (0, 6, []), (2, 60, [])]
def mI_65 : Nat → Nat → Int32 := zz_rI mI_64 62 (fun _ => 0)
def mL_53 : Nat → Nat → Int64 := zz_rL mL_52 62 (fun _ => 0)
def sH_98 : List zz_S := [(11, 11, [some 1, some 10, some 17, some 23, some 36, some 38, some 45, some 48, some 51, none, none]), (10, 2, [some 2, some 9]), (3, 6, [some 3, some 4, some 5, some 6, some 7, some 8]), (0, 40, []), (0, 40, []), (0, 40, []), (0, 40, []), (0, 40, []), (0, 40, []), (0, 6, []), (10, 2, [some 11, some 16]), (3, 4, [some 12, some 13, some 14, some 15]), (0, 60, []), (0, 60, []), (0, 60, []), (0, 60, []), (0, 4, []), (9, 8, [some 18, some 19, some 20, some 21, some 22, none, none, none]), (0, 7, []), (0, 6, []), (0, 6, []), (0, 6, []), (0, 6, []), (6, 14, [some 24, some 25, some 26, some 27, some 28, some 29, some 30, some 31, some 35, none, none, none, none, none]), (0, 7, []), (0, 6, []), (0, 6, []), (0, 6, []), (0, 6, []), (0, 6, []), (0, 40, []), (3, 3, [some 32, some 33, some 34]), (0, 40, []), (0, 40, []), (0, 40, []), (0, 3, []), (8, 2, [some 37, none]), (1, 6, []), (7, 9, [some 39, some 40, some 41, some 42, some 43, some 44, none, none, none]), (0, 6, []), (0, 6, []), (1, 36, []), (0, 36, []), (0, 6, []), (0, 6, []), (5, 1, [some 46]), (8, 2, [some 47, none]), (1, 6, []), (4, 4, [some 49, some 50, none, none]), (1, 7, []), (1, 7, []), (0, 6, []), (12, 24, [some 53, none, some 54, some 55, some 56, some 57, some 58, some 59, none, some 60, none, none, none, none, some 61, none, none, none, none, some 62, none, none, none, none]), (0, 6600, []), (0, 3, []), (0, 240, []), (0, 6, []), (0, 240, []), (0, 4, []), (0, 40, []), (0, 6, []), (0, 6, []), (2, 60, [])]
def sH_99 : List zz_S := [(11, 11, [some 1, some 10, some 17, some 23, some 36, some 38, some 45, some 48, some 51, none, none]), (10, 2, [some 2, some 9]), (3, 6, [some 3, some 4, some 5, some 6, some 7, some 8]), (0, 40, []), (0, 40, []), (0, 40, []), (0, 40, []), (0, 40, []), (0, 40, []), (0, 6, []), (10, 2, [some 11, some 16]), (3, 4, [some 12, some 13, some 14, some 15]), (0, 60, []), (0, 60, []), (0, 60, []), (0, 60, []), (0, 4, []), (9, 8, [some 18, some 19, some 20, some 21, some 22, none, none, none]), (0, 7, []), (0, 6, []), (0, 6, []), (0, 6, []), (0, 6, []), (6, 14, [some 24, some 25, some 26, some 27, some 28, some 29, some 30, some 31, some 35, none, none, none, none, none]), (0, 7, []), (0, 6, []), (0, 6, []), (0, 6, []), (0, 6, []), (0, 6, []), (0, 40, []), (3, 3, [some 32, some 33, some 34]), (0, 40, []), (0, 40, []), (0, 40, []), (0, 3, []), (8, 2, [some 37, none]), (1, 6, []), (7, 9, [some 39, some 40, some 41, some 42, some 43, some 44, none, none, none]), (0, 6, []), (0, 6, []), (1, 36, []), (0, 36, []), (0, 6, []), (0, 6, []), (5, 1, [some 46]), (8, 2, [some 47, none]), (1, 6, []), (4, 4, [some 49, some 50, none, none]), (1, 7, []), (1, 7, []), (0, 6, []), (12, 24, [some 53, none, some 54, some 55, some 56, some 57, some 58, some 59, none, some 60, none, none, none, none, some 61, none, none, none, none, some 62, none, none, none, none]), (0, 6600, []), (0, 3, []), (0, 240, []), (0, 6, []), (0, 240, []), (0, 4, []), (0, 40, []), (0, 6, []), (0, 6, []), (2, 60, []), (2, 900, [])]
def mI_66 : Nat → Nat → Int32 := zz_rI mI_65 63 (fun _ => 0)
def mL_54 : Nat → Nat → Int64 := zz_rL mL_53 63 (fun _ => 0)
def sH_100 : List zz_S := [(11, 11, [some 1, some 10, some 17, some 23, some 36, some 38, some 45, some 48, some 51, none, none]), (10, 2, [some 2, some 9]), (3, 6, [some 3, some 4, some 5, some 6, some 7, some 8]), (0, 40, []), (0, 40, []), (0, 40, []), (0, 40, []), (0, 40, []), (0, 40, []), (0, 6, []), (10, 2, [some 11, some 16]), (3, 4, [some 12, some 13, some 14, some 15]), (0, 60, []), (0, 60, []), (0, 60, []), (0, 60, []), (0, 4, []), (9, 8, [some 18, some 19, some 20, some 21, some 22, none, none, none]), (0, 7, []), (0, 6, []), (0, 6, []), (0, 6, []), (0, 6, []), (6, 14, [some 24, some 25, some 26, some 27, some 28, some 29, some 30, some 31, some 35, none, none, none, none, none]), (0, 7, []), (0, 6, []), (0, 6, []), (0, 6, []), (0, 6, []), (0, 6, []), (0, 40, []), (3, 3, [some 32, some 33, some 34]), (0, 40, []), (0, 40, []), (0, 40, []), (0, 3, []), (8, 2, [some 37, none]), (1, 6, []), (7, 9, [some 39, some 40, some 41, some 42, some 43, some 44, none, none, none]), (0, 6, []), (0, 6, []), (1, 36, []), (0, 36, []), (0, 6, []), (0, 6, []), (5, 1, [some 46]), (8, 2, [some 47, none]), (1, 6, []), (4, 4, [some 49, some 50, none, none]), (1, 7, []), (1, 7, []), (0, 6, []), (12, 24, [some 53, none, some 54, some 55, some 56, some 57, some 58, some 59, none, some 60, none, none, none, none, some 61, none, none, none, none, some 62, some 63, none, none, none]), (0, 6600, []), (0, 3, []), (0, 240, []), (0, 6, []), (0, 240, []), (0, 4, []), (0, 40, []), (0, 6, []), (0, 6, []), (2, 60, []), (2, 900, [])]
def sH_101 : List zz_S := [(11, 11, [some 1, some 10, some 17, some 23, some 36, some 38, some 45, some 48, some 51, none, none]), (10, 2, [some 2, some 9]), (3, 6, [some 3, some 4, some 5, some 6, some 7, some 8]), (0, 40, []), (0, 40, []), (0, 40, []), (0, 40, []), (0, 40, []), (0, 40, []), (0, 6, []), (10, 2, [some 11, some 16]), (3, 4, [some 12, some 13, some 14, some 15]), (0, 60, []), (0, 60, []), (0, 60, []), (0, 60, []), (0, 4, []), (9, 8, [some 18, some 19, some 20, some 21, some 22, none, none, none]), (0, 7, []), (0, 6, []), (0, 6, []), (0, 6, []), (0, 6, []), (6, 14, [some 24, some 25, some 26, some 27, some 28, some 29, some 30, some 31, some 35, none, none, none, none, none]), (0, 7, []), (0, 6, []), (0, 6, []), (0, 6, []), (0, 6, []), (0, 6, []), (0, 40, []), (3, 3, [some 32, some 33, some 34]), (0, 40, []), (0, 40, []), (0, 40, []), (0, 3, []), (8, 2, [some 37, none]), (1, 6, []), (7, 9, [some 39, some 40, some 41, some 42, some 43, some 44, none, none, none]), (0, 6, []), (0, 6, []), (1, 36, []), (0, 36, []), (0, 6, []), (0, 6, []), (5, 1, [some 46]), (8, 2, [some 47, none]), (1, 6, []), (4, 4, [some 49, some 50, none, none]), (1, 7, []), (1, 7, []), (0, 6, []), (12, 24, [some 53, none, some 54, some 55, some 56, some 57, some 58, some 59, none, some 60, none, none, none, none, some 61, none, none, none, none, some 62, some 63, none, none, none]), (0, 6600, []), (0, 3, []), (0, 240, []), (0, 6, []), (0, 240, []), (0, 4, []), (0, 40, []), (0, 6, []), (0, 6, []), (2, 60, []), (2, 900, []), (0, 6, [])]
def mI_67 : Nat → Nat → Int32 := zz_rI mI_66 64 (fun _ => 0)
def mL_55 : Nat → Nat → Int64 := zz_rL mL_54 64 (fun _ => 0)
def sH_102 : List zz_S := [(11, 11, [some 1, some 10, some 17, some 23, some 36, some 38, some 45, some 48, some 51, none, none]), (10, 2, [some 2, some 9]), (3, 6, [some 3, some 4, some 5, some 6, some 7, some 8]), (0, 40, []), (0, 40, []), (0, 40, []), (0, 40, []), (0, 40, []), (0, 40, []), (0, 6, []), (10, 2, [some 11, some 16]), (3, 4, [some 12, some 13, some 14, some 15]), (0, 60, []), (0, 60, []), (0, 60, []), (0, 60, []), (0, 4, []), (9, 8, [some 18, some 19, some 20, some 21, some 22, none, none, none]), (0, 7, []), (0, 6, []), (0, 6, []), (0, 6, []), (0, 6, []), (6, 14, [some 24, some 25, some 26, some 27, some 28, some 29, some 30, some 31, some 35, none, none, none, none, none]), (0, 7, []), (0, 6, []), (0, 6, []), (0, 6, []), (0, 6, []), (0, 6, []), (0, 40, []), (3, 3, [some 32, some 33, some 34]), (0, 40, []), (0, 40, []), (0, 40, []), (0, 3, []), (8, 2, [some 37, none]), (1, 6, []), (7, 9, [some 39, some 40, some 41, some 42, some 43, some 44, none, none, none]), (0, 6, []), (0, 6, []), (1, 36, []), (0, 36, []), (0, 6, []), (0, 6, []), (5, 1, [some 46]), (8, 2, [some 47, none]), (1, 6, []), (4, 4, [some 49, some 50, none, none]), (1, 7, []), (1, 7, []), (0, 6, []), (12, 24, [some 53, none, some 54, some 55, some 56, some 57, some 58, some 59, none, some 60, none, none, none, none, some 61, none, none, none, none, some 62, some 63, some 64, none, none]), (0, 6600, []), (0, 3, []), (0, 240, []), (0, 6, []), (0, 240, []), (0, 4, []), (0, 40, []), (0, 6, []), (0, 6, []), (2, 60, []), (2, 900, []), (0, 6, [])]
set_option maxRecDepth 100000 in
theorem ib_41 (N : Nat) (xs : Nat → Int32) : zz_X (zz_call_ 99) tb_8 0 [some (.ref 52), none] [] (zro N xs, sH_78, mI_55, mL_42, 100, 9000) = zz_X (zz_call_ 99) tb_8 1 [some (.ref 52), some (.int 0)] [] (zro N xs, sH_102, mI_67, mL_55, 88, 889) := by
  refine (zz_X_eq sg_8 _ _ _ _).trans ?_
  refine (zn_aload rfl).trans ?_
  refine (zn_oinit (by decide +kernel)).trans ?_
  refine (zn_aload rfl).trans ?_
  refine (zn_push).trans ?_
  refine (zn_newa (sh' := sH_79) (n := 53) (k := 6600) (a' := 99) (b' := 2400) (by decide +kernel) (by decide +kernel) (by decide +kernel) (by decide +kernel) (by decide +kernel) (by decide +kernel)).trans ?_
  refine (zn_putR (sh' := sH_80) (s := (12, 24, [none, none, none, none, none, none, none, none, none, none, none, none, none, none, none, none, none, none, none, none, none, none, none, none])) rfl (by decide +kernel) (by decide +kernel) rfl).trans ?_
  refine (zn_aload rfl).trans ?_
  refine (zn_push).trans ?_
  refine (zn_newa (sh' := sH_81) (n := 54) (k := 3) (a' := 98) (b' := 2397) (by decide +kernel) (by decide +kernel) (by decide +kernel) (by decide +kernel) (by decide +kernel) (by decide +kernel)).trans ?_
  refine (zn_putR (sh' := sH_82) (s := (12, 24, [some 53, none, none, none, none, none, none, none, none, none, none, none, none, none, none, none, none, none, none, none, none, none, none, none])) rfl (by decide +kernel) (by decide +kernel) rfl).trans ?_
  refine (zn_aload rfl).trans ?_
  refine (zn_push).trans ?_
  refine (zn_newa (sh' := sH_83) (n := 55) (k := 240) (a' := 97) (b' := 2157) (by decide +kernel) (by decide +kernel) (by decide +kernel) (by decide +kernel) (by decide +kernel) (by decide +kernel)).trans ?_
  refine (zn_putR (sh' := sH_84) (s := (12, 24, [some 53, none, some 54, none, none, none, none, none, none, none, none, none, none, none, none, none, none, none, none, none, none, none, none, none])) rfl (by decide +kernel) (by decide +kernel) rfl).trans ?_
  refine (zn_aload rfl).trans ?_
  refine (zn_push).trans ?_
  refine (zn_newa (sh' := sH_85) (n := 56) (k := 6) (a' := 96) (b' := 2151) (by decide +kernel) (by decide +kernel) (by decide +kernel) (by decide +kernel) (by decide +kernel) (by decide +kernel)).trans ?_
  refine (zn_putR (sh' := sH_86) (s := (12, 24, [some 53, none, some 54, some 55, none, none, none, none, none, none, none, none, none, none, none, none, none, none, none, none, none, none, none, none])) rfl (by decide +kernel) (by decide +kernel) rfl).trans ?_
  refine (zn_aload rfl).trans ?_
  refine (zn_push).trans ?_
  refine (zn_newa (sh' := sH_87) (n := 57) (k := 240) (a' := 95) (b' := 1911) (by decide +kernel) (by decide +kernel) (by decide +kernel) (by decide +kernel) (by decide +kernel) (by decide +kernel)).trans ?_
  refine (zn_putR (sh' := sH_88) (s := (12, 24, [some 53, none, some 54, some 55, some 56, none, none, none, none, none, none, none, none, none, none, none, none, none, none, none, none, none, none, none])) rfl (by decide +kernel) (by decide +kernel) rfl).trans ?_
  refine (zn_aload rfl).trans ?_
  refine (zn_push).trans ?_
  refine (zn_newa (sh' := sH_89) (n := 58) (k := 4) (a' := 94) (b' := 1907) (by decide +kernel) (by decide +kernel) (by decide +kernel) (by decide +kernel) (by decide +kernel) (by decide +kernel)).trans ?_
  refine (zn_putR (sh' := sH_90) (s := (12, 24, [some 53, none, some 54, some 55, some 56, some 57, none, none, none, none, none, none, none, none, none, none, none, none, none, none, none, none, none, none])) rfl (by decide +kernel) (by decide +kernel) rfl).trans ?_
  refine (zn_aload rfl).trans ?_
  refine (zn_push).trans ?_
  refine (zn_newa (sh' := sH_91) (n := 59) (k := 40) (a' := 93) (b' := 1867) (by decide +kernel) (by decide +kernel) (by decide +kernel) (by decide +kernel) (by decide +kernel) (by decide +kernel)).trans ?_
  refine (zn_putR (sh' := sH_92) (s := (12, 24, [some 53, none, some 54, some 55, some 56, some 57, some 58, none, none, none, none, none, none, none, none, none, none, none, none, none, none, none, none, none])) rfl (by decide +kernel) (by decide +kernel) rfl).trans ?_
  refine (zn_aload rfl).trans ?_
  refine (zn_push).trans ?_
  refine (zn_newa (sh' := sH_93) (n := 60) (k := 6) (a' := 92) (b' := 1861) (by decide +kernel) (by decide +kernel) (by decide +kernel) (by decide +kernel) (by decide +kernel) (by decide +kernel)).trans ?_
  refine (zn_putR (sh' := sH_94) (s := (12, 24, [some 53, none, some 54, some 55, some 56, some 57, some 58, some 59, none, none, none, none, none, none, none, none, none, none, none, none, none, none, none, none])) rfl (by decide +kernel) (by decide +kernel) rfl).trans ?_
  refine (zn_aload rfl).trans ?_
  refine (zn_push).trans ?_
  refine (zn_putL (s := (12, 24, [some 53, none, some 54, some 55, some 56, some 57, some 58, some 59, none, some 60, none, none, none, none, none, none, none, none, none, none, none, none, none, none])) rfl (by decide +kernel) (by decide +kernel)).trans ?_
  refine (zn_aload rfl).trans ?_
  refine (zn_push).trans ?_
  refine (zn_newa (sh' := sH_95) (n := 61) (k := 6) (a' := 91) (b' := 1855) (by decide +kernel) (by decide +kernel) (by decide +kernel) (by decide +kernel) (by decide +kernel) (by decide +kernel)).trans ?_
  refine (zn_putR (sh' := sH_96) (s := (12, 24, [some 53, none, some 54, some 55, some 56, some 57, some 58, some 59, none, some 60, none, none, none, none, none, none, none, none, none, none, none, none, none, none])) rfl (by decide +kernel) (by decide +kernel) rfl).trans ?_
  refine (zn_aload rfl).trans ?_
  refine (zn_push).trans ?_
  refine (zn_newa (sh' := sH_97) (n := 62) (k := 60) (a' := 90) (b' := 1795) (by decide +kernel) (by decide +kernel) (by decide +kernel) (by decide +kernel) (by decide +kernel) (by decide +kernel)).trans ?_
  refine (zn_putR (sh' := sH_98) (s := (12, 24, [some 53, none, some 54, some 55, some 56, some 57, some 58, some 59, none, some 60, none, none, none, none, some 61, none, none, none, none, none, none, none, none, none])) rfl (by decide +kernel) (by decide +kernel) rfl).trans ?_
  refine (zn_aload rfl).trans ?_
  refine (zn_push).trans ?_
  refine (zn_newa (sh' := sH_99) (n := 63) (k := 900) (a' := 89) (b' := 895) (by decide +kernel) (by decide +kernel) (by decide +kernel) (by decide +kernel) (by decide +kernel) (by decide +kernel)).trans ?_
  refine (zn_putR (sh' := sH_100) (s := (12, 24, [some 53, none, some 54, some 55, some 56, some 57, some 58, some 59, none, some 60, none, none, none, none, some 61, none, none, none, none, some 62, none, none, none, none])) rfl (by decide +kernel) (by decide +kernel) rfl).trans ?_
  refine (zn_aload rfl).trans ?_
  refine (zn_push).trans ?_
  refine (zn_newa (sh' := sH_101) (n := 64) (k := 6) (a' := 88) (b' := 889) (by decide +kernel) (by decide +kernel) (by decide +kernel) (by decide +kernel) (by decide +kernel) (by decide +kernel)).trans ?_
  refine (zn_putR (sh' := sH_102) (s := (12, 24, [some 53, none, some 54, some 55, some 56, some 57, some 58, some 59, none, some 60, none, none, none, none, some 61, none, none, none, none, some 62, some 63, none, none, none])) rfl (by decide +kernel) (by decide +kernel) rfl).trans ?_
  refine (zn_push).trans ?_
  refine (zn_istore (ls' := [some (.ref 52), some (.int 0)]) rfl rfl).trans ?_
  exact zn_jump
def mI_68 : Nat → Nat → Int32 := zz_wI mI_67 56 0 (-1)
set_option maxRecDepth 100000 in
theorem ib_42 (N : Nat) (xs : Nat → Int32) : zz_X (zz_call_ 99) tb_8 1 [some (.ref 52), some (.int 0)] [] (zro N xs, sH_102, mI_67, mL_55, 88, 889) = zz_X (zz_call_ 99) tb_8 1 [some (.ref 52), some (.int 1)] [] (zro N xs, sH_102, mI_68, mL_55, 88, 889) := by
  refine (zz_X_eq sg_8 _ _ _ _).trans ?_
  refine (zn_iload rfl).trans ?_
  refine (zn_push).trans ?_
  refine (zn_cgef (by decide +kernel)).trans ?_
  refine (zn_aload rfl).trans ?_
  refine (zn_getR (s := (12, 24, [some 53, none, some 54, some 55, some 56, some 57, some 58, some 59, none, some 60, none, none, none, none, some 61, none, none, none, none, some 62, some 63, some 64, none, none])) rfl (by decide +kernel) (by decide +kernel) rfl).trans ?_
  refine (zn_iload rfl).trans ?_
  refine (zn_push).trans ?_
  refine (zn_iast (j := 0) (s := (0, 6, [])) rfl (by decide +kernel) (by decide +kernel)).trans ?_
  refine (zn_iinc (y := 1) (ls' := [some (.ref 52), some (.int 1)]) rfl rfl (by decide +kernel) rfl).trans ?_
  exact zn_jump
def mI_69 : Nat → Nat → Int32 := zz_wI mI_68 56 1 (-1)
set_option maxRecDepth 100000 in
theorem ib_43 (N : Nat) (xs : Nat → Int32) : zz_X (zz_call_ 99) tb_8 1 [some (.ref 52), some (.int 1)] [] (zro N xs, sH_102, mI_68, mL_55, 88, 889) = zz_X (zz_call_ 99) tb_8 1 [some (.ref 52), some (.int 2)] [] (zro N xs, sH_102, mI_69, mL_55, 88, 889) := by
  refine (zz_X_eq sg_8 _ _ _ _).trans ?_
  refine (zn_iload rfl).trans ?_
  refine (zn_push).trans ?_
  refine (zn_cgef (by decide +kernel)).trans ?_
  refine (zn_aload rfl).trans ?_
  refine (zn_getR (s := (12, 24, [some 53, none, some 54, some 55, some 56, some 57, some 58, some 59, none, some 60, none, none, none, none, some 61, none, none, none, none, some 62, some 63, some 64, none, none])) rfl (by decide +kernel) (by decide +kernel) rfl).trans ?_
  refine (zn_iload rfl).trans ?_
  refine (zn_push).trans ?_
  refine (zn_iast (j := 1) (s := (0, 6, [])) rfl (by decide +kernel) (by decide +kernel)).trans ?_
  refine (zn_iinc (y := 2) (ls' := [some (.ref 52), some (.int 2)]) rfl rfl (by decide +kernel) rfl).trans ?_
  exact zn_jump
def mI_70 : Nat → Nat → Int32 := zz_wI mI_69 56 2 (-1)
set_option maxRecDepth 100000 in
theorem ib_44 (N : Nat) (xs : Nat → Int32) : zz_X (zz_call_ 99) tb_8 1 [some (.ref 52), some (.int 2)] [] (zro N xs, sH_102, mI_69, mL_55, 88, 889) = zz_X (zz_call_ 99) tb_8 1 [some (.ref 52), some (.int 3)] [] (zro N xs, sH_102, mI_70, mL_55, 88, 889) := by
  refine (zz_X_eq sg_8 _ _ _ _).trans ?_
  refine (zn_iload rfl).trans ?_
  refine (zn_push).trans ?_
  refine (zn_cgef (by decide +kernel)).trans ?_
  refine (zn_aload rfl).trans ?_
  refine (zn_getR (s := (12, 24, [some 53, none, some 54, some 55, some 56, some 57, some 58, some 59, none, some 60, none, none, none, none, some 61, none, none, none, none, some 62, some 63, some 64, none, none])) rfl (by decide +kernel) (by decide +kernel) rfl).trans ?_
  refine (zn_iload rfl).trans ?_
  refine (zn_push).trans ?_
  refine (zn_iast (j := 2) (s := (0, 6, [])) rfl (by decide +kernel) (by decide +kernel)).trans ?_
  refine (zn_iinc (y := 3) (ls' := [some (.ref 52), some (.int 3)]) rfl rfl (by decide +kernel) rfl).trans ?_
  exact zn_jump
def mI_71 : Nat → Nat → Int32 := zz_wI mI_70 56 3 (-1)
set_option maxRecDepth 100000 in
theorem ib_45 (N : Nat) (xs : Nat → Int32) : zz_X (zz_call_ 99) tb_8 1 [some (.ref 52), some (.int 3)] [] (zro N xs, sH_102, mI_70, mL_55, 88, 889) = zz_X (zz_call_ 99) tb_8 1 [some (.ref 52), some (.int 4)] [] (zro N xs, sH_102, mI_71, mL_55, 88, 889) := by
  refine (zz_X_eq sg_8 _ _ _ _).trans ?_
  refine (zn_iload rfl).trans ?_
  refine (zn_push).trans ?_
  refine (zn_cgef (by decide +kernel)).trans ?_
  refine (zn_aload rfl).trans ?_
  refine (zn_getR (s := (12, 24, [some 53, none, some 54, some 55, some 56, some 57, some 58, some 59, none, some 60, none, none, none, none, some 61, none, none, none, none, some 62, some 63, some 64, none, none])) rfl (by decide +kernel) (by decide +kernel) rfl).trans ?_
  refine (zn_iload rfl).trans ?_
  refine (zn_push).trans ?_
  refine (zn_iast (j := 3) (s := (0, 6, [])) rfl (by decide +kernel) (by decide +kernel)).trans ?_
  refine (zn_iinc (y := 4) (ls' := [some (.ref 52), some (.int 4)]) rfl rfl (by decide +kernel) rfl).trans ?_
  exact zn_jump
def mI_72 : Nat → Nat → Int32 := zz_wI mI_71 56 4 (-1)
set_option maxRecDepth 100000 in
theorem ib_46 (N : Nat) (xs : Nat → Int32) : zz_X (zz_call_ 99) tb_8 1 [some (.ref 52), some (.int 4)] [] (zro N xs, sH_102, mI_71, mL_55, 88, 889) = zz_X (zz_call_ 99) tb_8 1 [some (.ref 52), some (.int 5)] [] (zro N xs, sH_102, mI_72, mL_55, 88, 889) := by
  refine (zz_X_eq sg_8 _ _ _ _).trans ?_
  refine (zn_iload rfl).trans ?_
  refine (zn_push).trans ?_
  refine (zn_cgef (by decide +kernel)).trans ?_
  refine (zn_aload rfl).trans ?_
  refine (zn_getR (s := (12, 24, [some 53, none, some 54, some 55, some 56, some 57, some 58, some 59, none, some 60, none, none, none, none, some 61, none, none, none, none, some 62, some 63, some 64, none, none])) rfl (by decide +kernel) (by decide +kernel) rfl).trans ?_
  refine (zn_iload rfl).trans ?_
  refine (zn_push).trans ?_
  refine (zn_iast (j := 4) (s := (0, 6, [])) rfl (by decide +kernel) (by decide +kernel)).trans ?_
  refine (zn_iinc (y := 5) (ls' := [some (.ref 52), some (.int 5)]) rfl rfl (by decide +kernel) rfl).trans ?_
  exact zn_jump
def mI_73 : Nat → Nat → Int32 := zz_wI mI_72 56 5 (-1)
set_option maxRecDepth 100000 in
theorem ib_47 (N : Nat) (xs : Nat → Int32) : zz_X (zz_call_ 99) tb_8 1 [some (.ref 52), some (.int 5)] [] (zro N xs, sH_102, mI_72, mL_55, 88, 889) = zz_X (zz_call_ 99) tb_8 1 [some (.ref 52), some (.int 6)] [] (zro N xs, sH_102, mI_73, mL_55, 88, 889) := by
  refine (zz_X_eq sg_8 _ _ _ _).trans ?_
  refine (zn_iload rfl).trans ?_
  refine (zn_push).trans ?_
  refine (zn_cgef (by decide +kernel)).trans ?_
  refine (zn_aload rfl).trans ?_
  refine (zn_getR (s := (12, 24, [some 53, none, some 54, some 55, some 56, some 57, some 58, some 59, none, some 60, none, none, none, none, some 61, none, none, none, none, some 62, some 63, some 64, none, none])) rfl (by decide +kernel) (by decide +kernel) rfl).trans ?_
  refine (zn_iload rfl).trans ?_
  refine (zn_push).trans ?_
  refine (zn_iast (j := 5) (s := (0, 6, [])) rfl (by decide +kernel) (by decide +kernel)).trans ?_
  refine (zn_iinc (y := 6) (ls' := [some (.ref 52), some (.int 6)]) rfl rfl (by decide +kernel) rfl).trans ?_
  exact zn_jump
set_option maxRecDepth 100000 in
theorem ib_48 (N : Nat) (xs : Nat → Int32) : zz_X (zz_call_ 99) tb_8 1 [some (.ref 52), some (.int 6)] [] (zro N xs, sH_102, mI_73, mL_55, 88, 889) = zz_X (zz_call_ 99) tb_8 2 [some (.ref 52), some (.int 6)] [] (zro N xs, sH_102, mI_73, mL_55, 88, 889) := by
  refine (zz_X_eq sg_8 _ _ _ _).trans ?_
  refine (zn_iload rfl).trans ?_
  refine (zn_push).trans ?_
  exact zn_cget (by decide +kernel)
set_option maxRecDepth 100000 in
theorem ib_49 (N : Nat) (xs : Nat → Int32) : zz_X (zz_call_ 99) tb_8 2 [some (.ref 52), some (.int 6)] [] (zro N xs, sH_102, mI_73, mL_55, 88, 889) = zz_X (zz_call_ 99) tb_8 3 [some (.ref 52), some (.int 0)] [] (zro N xs, sH_102, mI_73, mL_55, 88, 889) := by
  refine (zz_X_eq sg_8 _ _ _ _).trans ?_
  refine (zn_push).trans ?_
  refine (zn_istore (ls' := [some (.ref 52), some (.int 0)]) rfl rfl).trans ?_
  exact zn_jump
def mI_74 : Nat → Nat → Int32 := zz_wI mI_73 58 0 (-1)
set_option maxRecDepth 100000 in
theorem ib_50 (N : Nat) (xs : Nat → Int32) : zz_X (zz_call_ 99) tb_8 3 [some (.ref 52), some (.int 0)] [] (zro N xs, sH_102, mI_73, mL_55, 88, 889) = zz_X (zz_call_ 99) tb_8 3 [some (.ref 52), some (.int 1)] [] (zro N xs, sH_102, mI_74, mL_55, 88, 889) := by
  refine (zz_X_eq sg_8 _ _ _ _).trans ?_
  refine (zn_iload rfl).trans ?_
  refine (zn_push).trans ?_
  refine (zn_cgef (by decide +kernel)).trans ?_
  refine (zn_aload rfl).trans ?_
  refine (zn_getR (s := (12, 24, [some 53, none, some 54, some 55, some 56, some 57, some 58, some 59, none, some 60, none, none, none, none, some 61, none, none, none, none, some 62, some 63, some 64, none, none])) rfl (by decide +kernel) (by decide +kernel) rfl).trans ?_
  refine (zn_iload rfl).trans ?_
  refine (zn_push).trans ?_
  refine (zn_iast (j := 0) (s := (0, 4, [])) rfl (by decide +kernel) (by decide +kernel)).trans ?_
  refine (zn_iinc (y := 1) (ls' := [some (.ref 52), some (.int 1)]) rfl rfl (by decide +kernel) rfl).trans ?_
  exact zn_jump
def mI_75 : Nat → Nat → Int32 := zz_wI mI_74 58 1 (-1)
set_option maxRecDepth 100000 in
theorem ib_51 (N : Nat) (xs : Nat → Int32) : zz_X (zz_call_ 99) tb_8 3 [some (.ref 52), some (.int 1)] [] (zro N xs, sH_102, mI_74, mL_55, 88, 889) = zz_X (zz_call_ 99) tb_8 3 [some (.ref 52), some (.int 2)] [] (zro N xs, sH_102, mI_75, mL_55, 88, 889) := by
  refine (zz_X_eq sg_8 _ _ _ _).trans ?_
  refine (zn_iload rfl).trans ?_
  refine (zn_push).trans ?_
  refine (zn_cgef (by decide +kernel)).trans ?_
  refine (zn_aload rfl).trans ?_
  refine (zn_getR (s := (12, 24, [some 53, none, some 54, some 55, some 56, some 57, some 58, some 59, none, some 60, none, none, none, none, some 61, none, none, none, none, some 62, some 63, some 64, none, none])) rfl (by decide +kernel) (by decide +kernel) rfl).trans ?_
  refine (zn_iload rfl).trans ?_
  refine (zn_push).trans ?_
  refine (zn_iast (j := 1) (s := (0, 4, [])) rfl (by decide +kernel) (by decide +kernel)).trans ?_
  refine (zn_iinc (y := 2) (ls' := [some (.ref 52), some (.int 2)]) rfl rfl (by decide +kernel) rfl).trans ?_
  exact zn_jump
def mI_76 : Nat → Nat → Int32 := zz_wI mI_75 58 2 (-1)
set_option maxRecDepth 100000 in
theorem ib_52 (N : Nat) (xs : Nat → Int32) : zz_X (zz_call_ 99) tb_8 3 [some (.ref 52), some (.int 2)] [] (zro N xs, sH_102, mI_75, mL_55, 88, 889) = zz_X (zz_call_ 99) tb_8 3 [some (.ref 52), some (.int 3)] [] (zro N xs, sH_102, mI_76, mL_55, 88, 889) := by
  refine (zz_X_eq sg_8 _ _ _ _).trans ?_
  refine (zn_iload rfl).trans ?_
  refine (zn_push).trans ?_
  refine (zn_cgef (by decide +kernel)).trans ?_
  refine (zn_aload rfl).trans ?_
  refine (zn_getR (s := (12, 24, [some 53, none, some 54, some 55, some 56, some 57, some 58, some 59, none, some 60, none, none, none, none, some 61, none, none, none, none, some 62, some 63, some 64, none, none])) rfl (by decide +kernel) (by decide +kernel) rfl).trans ?_
  refine (zn_iload rfl).trans ?_
  refine (zn_push).trans ?_
  refine (zn_iast (j := 2) (s := (0, 4, [])) rfl (by decide +kernel) (by decide +kernel)).trans ?_
  refine (zn_iinc (y := 3) (ls' := [some (.ref 52), some (.int 3)]) rfl rfl (by decide +kernel) rfl).trans ?_
  exact zn_jump
def mI_77 : Nat → Nat → Int32 := zz_wI mI_76 58 3 (-1)
set_option maxRecDepth 100000 in
theorem ib_53 (N : Nat) (xs : Nat → Int32) : zz_X (zz_call_ 99) tb_8 3 [some (.ref 52), some (.int 3)] [] (zro N xs, sH_102, mI_76, mL_55, 88, 889) = zz_X (zz_call_ 99) tb_8 3 [some (.ref 52), some (.int 4)] [] (zro N xs, sH_102, mI_77, mL_55, 88, 889) := by
  refine (zz_X_eq sg_8 _ _ _ _).trans ?_
  refine (zn_iload rfl).trans ?_
  refine (zn_push).trans ?_
  refine (zn_cgef (by decide +kernel)).trans ?_
  refine (zn_aload rfl).trans ?_
  refine (zn_getR (s := (12, 24, [some 53, none, some 54, some 55, some 56, some 57, some 58, some 59, none, some 60, none, none, none, none, some 61, none, none, none, none, some 62, some 63, some 64, none, none])) rfl (by decide +kernel) (by decide +kernel) rfl).trans ?_
  refine (zn_iload rfl).trans ?_
  refine (zn_push).trans ?_
  refine (zn_iast (j := 3) (s := (0, 4, [])) rfl (by decide +kernel) (by decide +kernel)).trans ?_
  refine (zn_iinc (y := 4) (ls' := [some (.ref 52), some (.int 4)]) rfl rfl (by decide +kernel) rfl).trans ?_
  exact zn_jump
set_option maxRecDepth 100000 in
theorem ib_54 (N : Nat) (xs : Nat → Int32) : zz_X (zz_call_ 99) tb_8 3 [some (.ref 52), some (.int 4)] [] (zro N xs, sH_102, mI_77, mL_55, 88, 889) = zz_X (zz_call_ 99) tb_8 4 [some (.ref 52), some (.int 4)] [] (zro N xs, sH_102, mI_77, mL_55, 88, 889) := by
  refine (zz_X_eq sg_8 _ _ _ _).trans ?_
  refine (zn_iload rfl).trans ?_
  refine (zn_push).trans ?_
  exact zn_cget (by decide +kernel)
set_option maxRecDepth 100000 in
theorem ib_55 (N : Nat) (xs : Nat → Int32) : zz_X (zz_call_ 99) tb_8 4 [some (.ref 52), some (.int 4)] [] (zro N xs, sH_102, mI_77, mL_55, 88, 889) = zz_X (zz_call_ 99) tb_8 5 [some (.ref 52), some (.int 0)] [] (zro N xs, sH_102, mI_77, mL_55, 88, 889) := by
  refine (zz_X_eq sg_8 _ _ _ _).trans ?_
  refine (zn_push).trans ?_
  refine (zn_istore (ls' := [some (.ref 52), some (.int 0)]) rfl rfl).trans ?_
  exact zn_jump
def mI_78 : Nat → Nat → Int32 := zz_wI mI_77 54 0 (-1)
set_option maxRecDepth 100000 in
theorem ib_56 (N : Nat) (xs : Nat → Int32) : zz_X (zz_call_ 99) tb_8 5 [some (.ref 52), some (.int 0)] [] (zro N xs, sH_102, mI_77, mL_55, 88, 889) = zz_X (zz_call_ 99) tb_8 5 [some (.ref 52), some (.int 1)] [] (zro N xs, sH_102, mI_78, mL_55, 88, 889) := by
  refine (zz_X_eq sg_8 _ _ _ _).trans ?_
  refine (zn_iload rfl).trans ?_
  refine (zn_push).trans ?_
  refine (zn_cgef (by decide +kernel)).trans ?_
  refine (zn_aload rfl).trans ?_
  refine (zn_getR (s := (12, 24, [some 53, none, some 54, some 55, some 56, some 57, some 58, some 59, none, some 60, none, none, none, none, some 61, none, none, none, none, some 62, some 63, some 64, none, none])) rfl (by decide +kernel) (by decide +kernel) rfl).trans ?_
  refine (zn_iload rfl).trans ?_
  refine (zn_push).trans ?_
  refine (zn_iast (j := 0) (s := (0, 3, [])) rfl (by decide +kernel) (by decide +kernel)).trans ?_
  refine (zn_iinc (y := 1) (ls' := [some (.ref 52), some (.int 1)]) rfl rfl (by decide +kernel) rfl).trans ?_
  exact zn_jump
def mI_79 : Nat → Nat → Int32 := zz_wI mI_78 54 1 (-1)
set_option maxRecDepth 100000 in
theorem ib_57 (N : Nat) (xs : Nat → Int32) : zz_X (zz_call_ 99) tb_8 5 [some (.ref 52), some (.int 1)] [] (zro N xs, sH_102, mI_78, mL_55, 88, 889) = zz_X (zz_call_ 99) tb_8 5 [some (.ref 52), some (.int 2)] [] (zro N xs, sH_102, mI_79, mL_55, 88, 889) := by
  refine (zz_X_eq sg_8 _ _ _ _).trans ?_
  refine (zn_iload rfl).trans ?_
  refine (zn_push).trans ?_
  refine (zn_cgef (by decide +kernel)).trans ?_
  refine (zn_aload rfl).trans ?_
  refine (zn_getR (s := (12, 24, [some 53, none, some 54, some 55, some 56, some 57, some 58, some 59, none, some 60, none, none, none, none, some 61, none, none, none, none, some 62, some 63, some 64, none, none])) rfl (by decide +kernel) (by decide +kernel) rfl).trans ?_
  refine (zn_iload rfl).trans ?_
  refine (zn_push).trans ?_
  refine (zn_iast (j := 1) (s := (0, 3, [])) rfl (by decide +kernel) (by decide +kernel)).trans ?_
  refine (zn_iinc (y := 2) (ls' := [some (.ref 52), some (.int 2)]) rfl rfl (by decide +kernel) rfl).trans ?_
  exact zn_jump
def mI_80 : Nat → Nat → Int32 := zz_wI mI_79 54 2 (-1)
set_option maxRecDepth 100000 in
theorem ib_58 (N : Nat) (xs : Nat → Int32) : zz_X (zz_call_ 99) tb_8 5 [some (.ref 52), some (.int 2)] [] (zro N xs, sH_102, mI_79, mL_55, 88, 889) = zz_X (zz_call_ 99) tb_8 5 [some (.ref 52), some (.int 3)] [] (zro N xs, sH_102, mI_80, mL_55, 88, 889) := by
  refine (zz_X_eq sg_8 _ _ _ _).trans ?_
  refine (zn_iload rfl).trans ?_
  refine (zn_push).trans ?_
  refine (zn_cgef (by decide +kernel)).trans ?_
  refine (zn_aload rfl).trans ?_
  refine (zn_getR (s := (12, 24, [some 53, none, some 54, some 55, some 56, some 57, some 58, some 59, none, some 60, none, none, none, none, some 61, none, none, none, none, some 62, some 63, some 64, none, none])) rfl (by decide +kernel) (by decide +kernel) rfl).trans ?_
  refine (zn_iload rfl).trans ?_
  refine (zn_push).trans ?_
  refine (zn_iast (j := 2) (s := (0, 3, [])) rfl (by decide +kernel) (by decide +kernel)).trans ?_
  refine (zn_iinc (y := 3) (ls' := [some (.ref 52), some (.int 3)]) rfl rfl (by decide +kernel) rfl).trans ?_
  exact zn_jump
set_option maxRecDepth 100000 in
theorem ib_59 (N : Nat) (xs : Nat → Int32) : zz_X (zz_call_ 99) tb_8 5 [some (.ref 52), some (.int 3)] [] (zro N xs, sH_102, mI_80, mL_55, 88, 889) = zz_X (zz_call_ 99) tb_8 6 [some (.ref 52), some (.int 3)] [] (zro N xs, sH_102, mI_80, mL_55, 88, 889) := by
  refine (zz_X_eq sg_8 _ _ _ _).trans ?_
  refine (zn_iload rfl).trans ?_
  refine (zn_push).trans ?_
  exact zn_cget (by decide +kernel)
set_option maxRecDepth 100000 in
theorem ib_60 (N : Nat) (xs : Nat → Int32) : zz_X (zz_call_ 99) tb_8 6 [some (.ref 52), some (.int 3)] [] (zro N xs, sH_102, mI_80, mL_55, 88, 889) = some (none, (zro N xs, sH_102, mI_80, mL_55, 88, 889)) := by
  refine (zz_X_eq sg_8 _ _ _ _).trans ?_
  exact zn_vret
set_option maxRecDepth 100000 in
theorem ic_11 (N : Nat) (xs : Nat → Int32) : zz_call_ 100 8 [.ref 52] (zro N xs, sH_78, mI_55, mL_42, 599798, 7299215) = some (none, (zro N xs, sH_102, mI_80, mL_55, 599698, 7290215)) := zi_of (d := 99) (r := (none, (zro N xs, sH_102, mI_80, mL_55, 88, 889))) mk_8 rfl rfl rfl ((ib_41 N xs).trans ((ib_42 N xs).trans ((ib_43 N xs).trans ((ib_44 N xs).trans ((ib_45 N xs).trans ((ib_46 N xs).trans ((ib_47 N xs).trans ((ib_48 N xs).trans ((ib_49 N xs).trans ((ib_50 N xs).trans ((ib_51 N xs).trans ((ib_52 N xs).trans ((ib_53 N xs).trans ((ib_54 N xs).trans ((ib_55 N xs).trans ((ib_56 N xs).trans ((ib_57 N xs).trans ((ib_58 N xs).trans ((ib_59 N xs).trans (ib_60 N xs)))))))))))))))))))) rfl
set_option maxRecDepth 100000 in
theorem ib_40 (N : Nat) (xs : Nat → Int32) : zz_X (zz_call_ 100) tb_law 1 [some (.ref 1004), none, none, none] [.ref 0] (zro N xs, sH_77, mI_54, mL_41, 599799, 7299239) = zz_X (zz_call_ 100) tb_law 2 [some (.ref 1004), some (.ref 0), none, none] [.ref 52] (zro N xs, sH_102, mI_80, mL_55, 599698, 7290215) := by
  refine (zz_X_eq sg_law _ _ _ _).trans ?_
  refine (zn_astore (ls' := [some (.ref 1004), some (.ref 0), none, none]) rfl rfl).trans ?_
  refine (zn_new (sh' := sH_78) (n := 52) (a' := 599798) (b' := 7299215) (by decide +kernel) (by decide +kernel) (by decide +kernel) (by decide +kernel) (by decide +kernel)).trans ?_
  refine (zn_dup).trans ?_
  exact zn_callI (as := [.ref 52]) (st' := [.ref 52]) (by decide +kernel) rfl rfl rfl (ic_11 N xs) (by decide +kernel)
set_option maxRecDepth 100000 in
theorem ib_61 (N : Nat) (xs : Nat → Int32) : zz_X (zz_call_ 100) tb_law 2 [some (.ref 1004), some (.ref 0), none, none] [.ref 52] (zro N xs, sH_102, mI_80, mL_55, 599698, 7290215) = zz_X (zz_call_ 100) tb_law 3 [some (.ref 1004), some (.ref 0), some (.ref 52), some (.int 0)] [] (zro N xs, sH_102, mI_80, mL_55, 599698, 7290215) := by
  refine (zz_X_eq sg_law _ _ _ _).trans ?_
  refine (zn_astore (ls' := [some (.ref 1004), some (.ref 0), some (.ref 52), none]) rfl rfl).trans ?_
  refine (zn_push).trans ?_
  refine (zn_istore (ls' := [some (.ref 1004), some (.ref 0), some (.ref 52), some (.int 0)]) rfl rfl).trans ?_
  exact zn_jump
theorem sH_end : sH_102 = zsh := by decide +kernel
set_option maxRecDepth 100000 in
theorem zz_init (N : Nat) (xs : Nat → Int32) : zz_X (zz_call_ 100) tb_law 0 [some (.ref 1004), none, none, none] [] (zro N xs, [], fun _ _ => 0, fun _ _ => 0, 600000, 7302250) = zz_X (zz_call_ 100) tb_law 3 [some (.ref 1004), some (.ref 0), some (.ref 52), some (.int 0)] [] (zro N xs, zsh, mI_80, mL_55, 599698, 7290215) := (ib_1 N xs).trans ((ib_40 N xs).trans (ib_61 N xs))
abbrev mI_e : Nat → Nat → Int32 := mI_80
abbrev mL_e : Nat → Nat → Int64 := mL_55

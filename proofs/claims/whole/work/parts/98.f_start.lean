/-! The law's walk out of the small machine's run. -/
theorem zz_ini_tb {s : State} {args : Array Value} (hts : ∀ w ∈ lw_tbl, w.before args s = true) : zz_tb s := by
  refine ⟨fun w hw hg => word_at (State.WarmedH.refl s) (good_of_word hg) (hts w hw), fun w hw hg => ?_, over_moved (Vm.Alike.refl s.vm) (hts (Cond.arrayOver (.array .int)) (zz_in1 (by decide +kernel)))⟩
  have hb := hts w hw
  cases w <;> first | (exact va_Nw.of rfl hb) | (cases hg)
theorem zz_ini_K {s : State} {args : Array Value} (hts : ∀ w ∈ zz_TG, w.before args s = true) : ∃ (dC : Nat → ClassId) (dI : Nat → Nat → Nat), ∀ (k : Nat) (q : vw_C), vwCl[k]? = some q → u_Kn s q.1 q.2.1 q.2.2 (dC k) (dI k) := by
  have h : ∀ k : Nat, ∃ p : ClassId × (Nat → Nat), ∀ q : vw_C, vwCl[k]? = some q → u_Kn s q.1 q.2.1 q.2.2 p.1 p.2 := by
    intro k
    cases hq : vwCl[k]? with
    | none => exact ⟨(0, fun _ => 0), fun q h => by cases h⟩
    | some q =>
      obtain ⟨C, T, N⟩ := q
      have hk := zz_cok_at hq
      obtain ⟨c, iS, hKn⟩ := u_known (C := C) (T := T) (N := N) (n := N) hts hk.1 (hts _ hk.2.2.2.1)
      exact ⟨(c, iS), fun q h => by cases h; exact hKn⟩
  refine ⟨fun k => (Classical.choose (h k)).1, fun k => (Classical.choose (h k)).2, fun k q hq => Classical.choose_spec (h k) q hq⟩
theorem zz_ini_arr {s : State} {args : Array Value} {ty : FieldType} (h : (Cond.arrayClass ty).before args s = true) (ho : ∀ C, ty ≠ .object C) : ∃ c : ClassId, ArrOfT s c ty ∧ va_RA s c ty := by
  obtain ⟨c, k, comp, h1, h2, h3⟩ := Cond.arrayClass_spec h
  refine ⟨c, fun N z => ⟨(fun q hq => by cases hq), k, h2, comp, h3⟩, ?_⟩
  cases ty <;> first | exact h1 | exact absurd rfl (ho _)
theorem zz_ini_arr2 {s : State} {args : Array Value} (h : (Cond.arrayOver (.array .int)).before args s = true) : ∃ c : ClassId, ArrOfT s c (.array .int) ∧ va_RA s c (.array .int) := by
  obtain ⟨comp, c, k, h1, h2, h3, h4, h5⟩ := arrayOverA_spec h
  exact ⟨c, fun N z => ⟨(fun q hq => by cases hq), k, h3, comp, h4⟩, h5⟩
theorem zz_ini_st {s : State} {args : Array Value} {nm : String} {f : Nat → Int32} (hl : (Cond.laysStatic "NeverTogether" nm "[I").before args s = true) (hini : (Cond.initialized "NeverTogether").before args s = true) (harr : (Cond.arrayOf (.static "NeverTogether" nm "[I") .int).before args s = true) (hlen : (Cond.eq (.length (.static "NeverTogether" nm "[I")) (.int 6)).before args s = true)
    (h0 : (Cond.eq (.elem (.static "NeverTogether" nm "[I") (.int 0)) (.int (f 0))).before args s = true) (h1 : (Cond.eq (.elem (.static "NeverTogether" nm "[I") (.int 1)) (.int (f 1))).before args s = true) (h2 : (Cond.eq (.elem (.static "NeverTogether" nm "[I") (.int 2)) (.int (f 2))).before args s = true) (h3 : (Cond.eq (.elem (.static "NeverTogether" nm "[I") (.int 3)) (.int (f 3))).before args s = true) (h4 : (Cond.eq (.elem (.static "NeverTogether" nm "[I") (.int 4)) (.int (f 4))).before args s = true) (h5 : (Cond.eq (.elem (.static "NeverTogether" nm "[I") (.int 5)) (.int (f 5))).before args s = true) :
    ∃ t : Nat, va_T .int t 6 (fun k => .int (f k)) (fun q => s.heap.size ≤ q) s s.heap ∧ va_Z "NeverTogether" nm "[I" (.ref t) (fun q => s.heap.size ≤ q) s s.heap := by
  have hA : ∀ a : Nat, a < s.heap.size → ¬ (fun q => s.heap.size ≤ q) a := fun a h => Nat.not_le.mpr h
  obtain ⟨t, ht, hT⟩ := va_Tof (N := 6) (f := fun k => .int (f k)) (A := fun q => s.heap.size ≤ q) (by decide) harr (va_eqt hlen) (fun j hj => by
    have hj : j = 0 ∨ j = 1 ∨ j = 2 ∨ j = 3 ∨ j = 4 ∨ j = 5 := by omega
    rcases hj with rfl | rfl | rfl | rfl | rfl | rfl
    · exact va_eqt h0
    · exact va_eqt h1
    · exact va_eqt h2
    · exact va_eqt h3
    · exact va_eqt h4
    · exact va_eqt h5) hA
  exact ⟨t, hT, va_Zof hl hini ht hA⟩
set_option maxHeartbeats 4000000 in
set_option maxRecDepth 100000 in
/-- THE LAW, from its entry -/
theorem whole_start {p : Program} {e : Env} {s : State} {m : MethodId} {below : List Frame} {meth : Method} {c : Code} (l : Launch) {b L : Nat} {xs : Nat → Int32} (hL : L ≤ 384) (C0 : lw_At p s m meth c b L xs) : W p l e room_1 s m #[Value.ref b] below meth c s.heap [] 0 0 (lw_Z below #[Value.ref b] s) (entryFrame m ([Value.ref b] : List Value).toArray 4) := by
  obtain ⟨hx, hb, hr, hml, hown, hts, hX, hbl, hlocks, hgv⟩ := id C0
  have htb := zz_ini_tb hts
  have htg : ∀ w ∈ zz_TG, w.before #[Value.ref b] s = true := htb.hts
  obtain ⟨dC, dI, hKc⟩ := zz_ini_K htg
  obtain ⟨c0, hc0⟩ := zz_ini_arr (ty := .int) (hts (.arrayClass .int) (by decide +kernel)) (fun _ h => by cases h)
  obtain ⟨c1, hc1⟩ := zz_ini_arr (ty := .long) (hts (.arrayClass .long) (by decide +kernel)) (fun _ h => by cases h)
  obtain ⟨c2, hc2⟩ := zz_ini_arr (ty := .boolean) (hts (.arrayClass .boolean) (by decide +kernel)) (fun _ h => by cases h)
  obtain ⟨c3, hc3⟩ := zz_ini_arr2 (hts (.arrayOver (.array .int)) (zz_in1 (by decide +kernel)))
  have hs := flat_of_before _ hgv
  have hin : (Cond.initialized "NeverTogether").before #[Value.ref b] s = true := hts _ (by decide +kernel)
  obtain ⟨t0, hT0, hZ0⟩ := zz_ini_st (nm := "LETTERS") (f := zst0) (hts _ (by decide +kernel)) hin (hs _ (by decide +kernel)) (hs _ (by decide +kernel)) (hs _ (by decide +kernel)) (hs _ (by decide +kernel)) (hs _ (by decide +kernel)) (hs _ (by decide +kernel)) (hs _ (by decide +kernel)) (hs _ (by decide +kernel))
  obtain ⟨t1, hT1, hZ1⟩ := zz_ini_st (nm := "STRIKES") (f := zst1) (hts _ (by decide +kernel)) hin (hs _ (by decide +kernel)) (hs _ (by decide +kernel)) (hs _ (by decide +kernel)) (hs _ (by decide +kernel)) (hs _ (by decide +kernel)) (hs _ (by decide +kernel)) (hs _ (by decide +kernel)) (hs _ (by decide +kernel))
  obtain ⟨t2, hT2, hZ2⟩ := zz_ini_st (nm := "HEAT_SIGN") (f := zst2) (hts _ (by decide +kernel)) hin (hs _ (by decide +kernel)) (hs _ (by decide +kernel)) (hs _ (by decide +kernel)) (hs _ (by decide +kernel)) (hs _ (by decide +kernel)) (hs _ (by decide +kernel)) (hs _ (by decide +kernel)) (hs _ (by decide +kernel))
  obtain ⟨t3, hT3, hZ3⟩ := zz_ini_st (nm := "IS") (f := zst3) (hts _ (by decide +kernel)) hin (hs _ (by decide +kernel)) (hs _ (by decide +kernel)) (hs _ (by decide +kernel)) (hs _ (by decide +kernel)) (hs _ (by decide +kernel)) (hs _ (by decide +kernel)) (hs _ (by decide +kernel)) (hs _ (by decide +kernel))
  have hT4 : va_T .int b L (fun k => .int (xs k)) (fun q => s.heap.size ≤ q) s s.heap := by
    obtain ⟨scr, h1, h2, h3, h4, h5⟩ := hX
    exact ⟨scr, h1, h2, h3, by omega, by rw [h4], h5, Nat.not_le.mpr hbl⟩
  obtain ⟨m', hrun⟩ := zz_law hL xs
  obtain ⟨n, hE⟩ := zz_X_some hrun
  have hl := zz_lv_entry (fun k => if k = 1000 then t0 else if k = 1001 then t1 else if k = 1002 then t2 else if k = 1003 then t3 else b) [Value.ref 1004] (n := 4) (by decide)
  rw [lg_entry_eq]
  have hcon : zz_con (dC, dI) (fun k => if k = 0 then c0 else if k = 1 then c1 else if k = 2 then c2 else c3) (fun q => s.heap.size ≤ q) s (zro L xs) (fun k => if k = 1000 then t0 else if k = 1001 then t1 else if k = 1002 then t2 else if k = 1003 then t3 else b) := by
    refine ⟨⟨hKc, fun k q hq => ?_⟩, fun _ h => h, fun j hj => ?_, fun j hj => ?_, htb⟩
    · match k, hq with
      | 0, hq => cases hq; exact hc0
      | 1, hq => cases hq; exact hc1
      | 2, hq => cases hq; exact hc2
      | 3, hq => cases hq; exact hc3
      | k + 4, hq => simp at hq
    · have hj : j = 0 ∨ j = 1 ∨ j = 2 ∨ j = 3 ∨ j = 4 := by omega
      rcases hj with rfl | rfl | rfl | rfl | rfl
      · exact hT0
      · exact hT1
      · exact hT2
      · exact hT3
      · exact hT4
    · have hj : j = 0 ∨ j = 1 ∨ j = 2 ∨ j = 3 := by omega
      rcases hj with rfl | rfl | rfl | rfl
      · exact hZ0
      · exact hZ1
      · exact hZ2
      · exact hZ3
  have hfr := zz_frame (p := p) (l := l) (e := e) (R := room_1) (s := s) (mi := m) (args := #[Value.ref b]) (below := below) (meth := meth) (c := c) (Q := lw_Z below #[Value.ref b] s) (D := (dC, dI)) (A := fun q => s.heap.size ≤ q) (g0 := ((fun k => if k = 1000 then t0 else if k = 1001 then t1 else if k = 1002 then t2 else if k = 1003 then t3 else b), 0)) (bc := 600000) (bs := 7302250) (d := 100) (r := (some (.int 1), m')) (y := ⟨"", meth.name, ""⟩)
    ⟨hx, hb, hml, hown, htg⟩ rfl rfl rfl (by decide) (by decide) (zz_MS_all l 100) (sa_law _) ?_ n 0 0 rfl _ _ _ hE s.heap [] _ _ hcon ⟨fun k q h => by simp [zz_cw] at h, ⟨fun i j p q h => by simp [zz_cw] at h, fun k q h => by simp [zz_cw] at h⟩, va_S.rf, Nat.le_refl _, Nat.le_refl _, Nat.zero_le _, Nat.le_refl _, fun _ _ => rfl⟩ rfl hl
  · simp only [Nat.sub_self, List.map_nil] at hfr
    exact hfr
  · intro pc H locs La ad' hc' hi' hrk
    refine va_forget (fun q hq => hi'.2.2.1.2.2 q hq) ?_
    refine W.widen (k := 600000) (n := 7302250) (Nat.sub_le _ _) (Nat.sub_le _ _) ?_
    rcases hrk with ⟨x, hv, hd, -⟩ | ⟨x, hv, -⟩ | ⟨hv, -⟩
    · exact lw_ret hx hb hr hlocks hd
    · cases hv
    · cases hv

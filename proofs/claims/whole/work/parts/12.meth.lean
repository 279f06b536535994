/-! A method of the small machine, all of whose blocks are what stands in the class file, is the machine's. -/
def zz_SB (mt : List zz_Mt) (own : String) (y : MethodName) (cc : ByteArray) (ret : Option FieldType) (nL : Nat) (pcs : List Nat) : Nat → zz_B → Prop
  | _, [] => True
  | pc, (len, i) :: r => (zz_Snd mt own y cc ret nL pcs pc len i ∧ zz_G i) ∧ zz_SB mt own y cc ret nL pcs (pc + len) r
def zz_SA (mt : List zz_Mt) (own : String) (y : MethodName) (cc : ByteArray) (ret : Option FieldType) (nL : Nat) (pcs : List Nat) : List Nat → List zz_B → Prop
  | [], [] => True
  | pc :: ps, b :: bs => zz_SB mt own y cc ret nL pcs pc b ∧ zz_SA mt own y cc ret nL pcs ps bs
  | _, _ => False
section ZR
variable {mt : List zz_Mt} {own : String} {y : MethodName} {cc : ByteArray} {ret : Option FieldType} {nL : Nat} {pcs : List Nat}
theorem zz_SA_at : ∀ {ps : List Nat} {bs : List zz_B} {t pc : Nat}, zz_SA mt own y cc ret nL pcs ps bs → ps[t]? = some pc → zz_SB mt own y cc ret nL pcs pc (bs.getD t [])
  | [], _, t, pc, _, h => by simp at h
  | _ :: _, [], _, _, hs, _ => by cases hs
  | q :: ps, b :: bs, 0, pc, hs, h => by
    simp at h
    subst h
    exact hs.1
  | q :: ps, b :: bs, t + 1, pc, hs, h => by
    rw [List.getElem?_cons_succ] at h
    have := zz_SA_at hs.2 h
    rwa [List.getD_cons_succ]
theorem zz_SB_G : ∀ {b : zz_B} {pc : Nat}, zz_SB mt own y cc ret nL pcs pc b → ∀ i ∈ b, zz_G i.2
  | [], _, _ => fun i hi => by cases hi
  | (len, j) :: r, pc, h => fun i hi => by
    rcases List.mem_cons.mp hi with rfl | hi
    · exact h.1.2
    · exact zz_SB_G h.2 i hi
theorem zz_SA_G : ∀ {ps : List Nat} {bs : List zz_B}, zz_SA mt own y cc ret nL pcs ps bs → zz_GC bs
  | [], [], _ => fun b hb => by cases hb
  | [], _ :: _, h => by cases h
  | _ :: _, [], h => by cases h
  | pc :: ps, b :: bs, h => fun c hc => by
    rcases List.mem_cons.mp hc with rfl | hc
    · exact zz_SB_G h.1
    · exact zz_SA_G h.2 c hc
theorem zz_SB_run {p : Program} {l : Launch} {e : Env} {R : Room} {s : State} {mi : MethodId} {args : Array Value} {below : List Frame} {meth : Method} {c : Code} {Q : State → Prop} {D : va_G} {cy : Nat → ClassId} {A : Nat → Prop} {g0 : (Nat → Nat) × Nat} {bc bs d : Nat} {J : zz_J} {C : zz_C} {r : zz_R}
    (hF : CallFix p mi c cc nL s args zz_TG own) (hN : meth.name = y.name) (hc1 : R.cells = bc) (hc2 : R.slots = bs) (hfr : d + 1 ≤ R.frames) (hlo : 64 * d + 64 ≤ R.locals) (hMS : zz_MS l mt d C)
    (hJ : ∀ t pc', pcs[t]? = some pc' → ∀ ls st m, J t ls st m = some r → zz_W p l e R s mi args below meth c Q D cy A g0 bc bs nL pc' ls st m) (hR : zz_Rt p l e R s mi args below meth c Q D cy A g0 bc bs cc ret r) :
    ∀ {b : zz_B} {pc : Nat}, zz_SB mt own y cc ret nL pcs pc b → ∀ ls st m, zz_run J C b ls st m = some r → zz_W p l e R s mi args below meth c Q D cy A g0 bc bs nL pc ls st m
  | [], _, _ => fun ls st m h => by cases h
  | (len, i) :: b, pc, hs => fun ls st m h => hs.1.1 p l e R s mi args below meth c Q D cy A g0 bc bs d J C (zz_run J C b) r hF hN hc1 hc2 hfr hlo hMS hJ (zz_SB_run hF hN hc1 hc2 hfr hlo hMS hJ hR hs.2) hR ls st m h
theorem zz_frame {p : Program} {l : Launch} {e : Env} {R : Room} {s : State} {mi : MethodId} {args : Array Value} {below : List Frame} {meth : Method} {c : Code} {Q : State → Prop} {D : va_G} {cy : Nat → ClassId} {A : Nat → Prop} {g0 : (Nat → Nat) × Nat} {bc bs d : Nat} {C : zz_C} {code : List zz_B} {r : zz_R}
    (hF : CallFix p mi c cc nL s args zz_TG own) (hN : meth.name = y.name) (hc1 : R.cells = bc) (hc2 : R.slots = bs) (hfr : d + 1 ≤ R.frames) (hlo : 64 * d + 64 ≤ R.locals) (hMS : zz_MS l mt d C) (hS : zz_SA mt own y cc ret nL pcs pcs code) (hR : zz_Rt p l e R s mi args below meth c Q D cy A g0 bc bs cc ret r) :
    ∀ n t pc', pcs[t]? = some pc' → ∀ ls st m, zz_E C code n t ls st m = some r → zz_W p l e R s mi args below meth c Q D cy A g0 bc bs nL pc' ls st m
  | 0, t, pc', ht, ls, st, m, h => by cases h
  | n + 1, t, pc', ht, ls, st, m, h => zz_SB_run hF hN hc1 hc2 hfr hlo hMS (zz_frame hF hN hc1 hc2 hfr hlo hMS hS hR n) hR (zz_SA_at hS ht) ls st m h
end ZR
/-- a call, d deep at most -/
noncomputable def zz_D (mt : List zz_Mt) (codes : List (List zz_B)) : Nat → zz_C
  | 0 => fun _ _ _ => none
  | d + 1 => fun k as m => zz_o mt[k]? fun q => zz_o codes[k]? fun code => zz_b (Nat.ble q.2.2.2.2.1 m.2.2.2.2.1 && Nat.ble q.2.2.2.2.2 m.2.2.2.2.2 && Nat.ble (zz_ar as).length q.2.2.1)
      (zz_o (zz_X (zz_D mt codes d) code 0 (zz_l0 as q.2.2.1) [] (m.1, m.2.1, m.2.2.1, m.2.2.2.1, q.2.2.2.2.1, q.2.2.2.2.2)) fun r => zz_b (Nat.beq r.2.2.1.length m.2.1.length || !(Nat.beq q.2.2.2.2.1 0)) (some (r.1, (m.1, r.2.2.1, r.2.2.2.1, r.2.2.2.2.1, m.2.2.2.2.1 - q.2.2.2.2.1, m.2.2.2.2.2 - q.2.2.2.2.2))))
def zz_ok (mt : List zz_Mt) (codes : List (List zz_B)) : Prop := ∀ (k : Nat) (q : zz_Mt) (code : List zz_B), mt[k]? = some q → codes[k]? = some code → plainName q.1.cls = true ∧ ∃ pcs : List Nat, pcs[0]? = some 0 ∧ zz_SA mt q.1.cls q.1 q.2.1 q.2.2.2.1 q.2.2.1 pcs pcs code
set_option maxHeartbeats 4000000 in
theorem zz_D_MS {mt : List zz_Mt} {codes : List (List zz_B)} (hok : zz_ok mt codes) (l : Launch) : ∀ d, zz_MS l mt d (zz_D mt codes d)
  | 0 => fun k as m r h => by cases h
  | d + 1 => fun k as m r h hm => by
    obtain ⟨q, hq, h1⟩ := zz_o_some h
    obtain ⟨code, hcd, h2⟩ := zz_o_some h1
    obtain ⟨hb, h3⟩ := zz_b_some h2
    obtain ⟨r1, hX, h4⟩ := zz_o_some h3
    obtain ⟨hb2, h5⟩ := zz_b_some h4
    clear h h1 h2 h3 h4
    cases h5
    simp only [Bool.and_eq_true] at hb
    obtain ⟨⟨hb1a, hb1b⟩, hb1c⟩ := hb
    have hb1a := Nat.le_of_ble_eq_true hb1a
    have hb1b := Nat.le_of_ble_eq_true hb1b
    have hb1c := Nat.le_of_ble_eq_true hb1c
    refine ⟨q, hq, hb1a, hb1b, rfl, rfl, rfl, fun h0 => ?_, fun D cy ad sz => ?_⟩
    · rw [h0] at hb2
      simp at hb2
      exact hb2
    · obtain ⟨hpl, pcs, hp0, hSA⟩ := hok k q code hq hcd
      obtain ⟨n, hE⟩ := zz_X_some hX
      refine Met.ofW (cc := q.2.1) (maxL := q.2.2.1) (ret := q.2.2.2.1) hpl rfl ?_
      intro p e s mi args below meth c s₁ B hml hv
      obtain ⟨rfl, hsz, hP, hD0, hcon⟩ := hv
      have hx := B.exec
      have hb := B.bytes
      have hr := B.returns
      have hown : s.vm.findClass q.1.cls = some mi.cls := findClass_of_methodNamed B.named
      have hlocks := B.notSynchronized
      have hin : meth.name = q.1.name := (name_of_methodNamed B.named B.method).1
      subst hsz
      have hD := hD0.self (sz := s.heap.size)
      have hl := zz_lv_entry ad as hb1c
      rw [lg_entry_eq]
      generalize (lg_sl (as.map (zz_tr ad)) ++ List.replicate (q.2.2.1 - (lg_sl (as.map (zz_tr ad))).length) Slot.unset).toArray = ls at hl ⊢
      have hfr := zz_frame (p := p) (l := l) (e := e) (R := zz_rm (d + 1) q.2.2.2.2.1 q.2.2.2.2.2) (s := s) (mi := mi) (args := (as.map (zz_tr ad)).toArray) (below := below) (meth := meth) (c := c) (Q := MQ below (zz_Qc D cy ad m (r1.1, (m.1, r1.2.2.1, r1.2.2.2.1, r1.2.2.2.2.1, m.2.2.2.2.1 - q.2.2.2.2.1, m.2.2.2.2.2 - q.2.2.2.2.2)) s.heap.size) (as.map (zz_tr ad)).toArray s q.2.2.2.2.1 q.2.2.2.2.2 (va_A (zz_cw cy ad m) s.heap.size)) (D := D) (cy := cy) (A := va_A (zz_cw cy ad m) s.heap.size) (g0 := (ad, m.2.1.length)) (bc := q.2.2.2.2.1) (bs := q.2.2.2.2.2) (d := d) (r := r1)
        ⟨hx, hb, hml, hown, hcon.2.2.2.2.hts⟩ hin rfl rfl (Nat.le_refl (d + 1)) (by show 64 * d + 64 ≤ 64 * (d + 1); omega) (zz_D_MS hok l d) hSA ?_ n 0 0 hp0 _ _ _ hE s.heap [] ls ad hcon ⟨hP, hD, va_S.rf, Nat.le_refl _, Nat.le_refl _, hm, Nat.le_refl _, fun _ _ => rfl⟩ (zz_l0_len as hb1c) hl
      · simp only [Nat.sub_self, List.map_nil] at hfr
        exact hfr
      · intro pc H locs La ad' hc' hi' hrk
        have hq : ∀ t : State, t.heap = H → zz_Qc D cy ad m (r1.1, (m.1, r1.2.2.1, r1.2.2.2.1, r1.2.2.2.2.1, m.2.2.2.2.1 - q.2.2.2.2.1, m.2.2.2.2.2 - q.2.2.2.2.2)) s.heap.size (as.map (zz_tr ad)).toArray s (.returned (r1.1.map (zz_tr ad'))) t := by
          intro t ht
          refine ⟨ad', hi'.2.2.2.2.2.2.2, rfl, ?_, ?_, hi'.2.2.1.F ht⟩
          · rw [ht]
            exact hi'.1
          · exact hi'.2.1
        refine W.widen (k := q.2.2.2.2.1) (n := q.2.2.2.2.2) (Nat.sub_le _ _) (Nat.sub_le _ _) ?_
        rcases hrk with ⟨x, hv, hd, hret⟩ | ⟨x, hv, hd, hret⟩ | ⟨hv, hd, hret⟩
        · rw [hv] at hq ⊢
          rcases hret with hret | ⟨hret, hx01⟩
          · exact W.iret hx hb (hr.trans hret) (fun t ht _ => hq t ht) hi'.2.2.1.2.2 hd
          · exact W.zret hx hb (hr.trans hret) (by rcases hx01 with rfl | rfl <;> rfl) (fun t ht _ => hq t ht) hi'.2.2.1.2.2 hd
        · rw [hv] at hq ⊢
          exact W.lret hx hb (hr.trans hret) (fun t ht _ => hq t ht) hi'.2.2.1.2.2 hd
        · rw [hv] at hq ⊢
          exact W.vret hx hb (hr.trans hret) (fun t ht _ => hq t ht) hi'.2.2.1.2.2 hd

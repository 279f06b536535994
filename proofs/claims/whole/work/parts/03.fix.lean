/-! The machine's runs without a bound on the jumps: the least fixed point. -/
/-- where a family ends, whatever it goes on to: at a value, at the next instruction, at a jump -/
def zz_T (F : zz_J → zz_K → Option zz_R) : Prop := (∃ r, ∀ J K, F J K = r) ∨ (∃ ls st m, ∀ J K, F J K = K ls st m) ∨ ∃ t ls st m, ∀ J K, F J K = J t ls st m
theorem zt_c (r : Option zz_R) : zz_T (fun _ _ => r) := Or.inl ⟨r, fun _ _ => rfl⟩
theorem zt_K (ls : zz_L) (st : List Value) (m : zz_M) : zz_T (fun _ K => K ls st m) := Or.inr (Or.inl ⟨ls, st, m, fun _ _ => rfl⟩)
theorem zt_J (t : Nat) (ls : zz_L) (st : List Value) (m : zz_M) : zz_T (fun J _ => J t ls st m) := Or.inr (Or.inr ⟨t, ls, st, m, fun _ _ => rfl⟩)
theorem zt_pI {st : List Value} {F : Int32 → List Value → zz_J → zz_K → Option zz_R} (h : ∀ x r, zz_T (F x r)) : zz_T (fun J K => zz_pI st (fun x r => F x r J K)) := by
  unfold zz_pI
  split
  · exact h _ _
  · exact zt_c none
theorem zt_pL {st : List Value} {F : Int64 → List Value → zz_J → zz_K → Option zz_R} (h : ∀ x r, zz_T (F x r)) : zz_T (fun J K => zz_pL st (fun x r => F x r J K)) := by
  unfold zz_pL
  split
  · exact h _ _
  · exact zt_c none
theorem zt_pR {st : List Value} {F : Nat → List Value → zz_J → zz_K → Option zz_R} (h : ∀ x r, zz_T (F x r)) : zz_T (fun J K => zz_pR st (fun x r => F x r J K)) := by
  unfold zz_pR
  split
  · exact h _ _
  · exact zt_c none
theorem zt_sh {m : zz_M} {a : Nat} {F : zz_S → zz_J → zz_K → Option zz_R} (h : ∀ x, zz_T (F x)) : zz_T (fun J K => zz_sh m a (fun x => F x J K)) := by
  unfold zz_sh
  split
  · exact h _
  · exact zt_c none
theorem zt_ob {m : zz_M} {a kd : Nat} {F : zz_S → zz_J → zz_K → Option zz_R} (h : ∀ x, zz_T (F x)) : zz_T (fun J K => zz_ob m a kd (fun x => F x J K)) := by
  unfold zz_ob
  refine zt_sh fun s => ?_
  split
  · exact h _
  · exact zt_c none
theorem zt_b {b : Bool} {F : zz_J → zz_K → Option zz_R} (h : zz_T F) : zz_T (fun J K => zz_b b (F J K)) := by
  cases b
  · exact zt_c none
  · exact h
theorem zt_o {α : Type} {o : Option α} {F : α → zz_J → zz_K → Option zz_R} (h : ∀ x, zz_T (F x)) : zz_T (fun J K => zz_o o (fun x => F x J K)) := by
  cases o
  · exact zt_c none
  · exact h _
theorem zt_i {c : Prop} [Decidable c] {F G : zz_J → zz_K → Option zz_R} (h : zz_T F) (g : zz_T G) : zz_T (fun J K => if c then F J K else G J K) := by
  by_cases hc : c
  · simp only [hc, if_true]; exact h
  · simp only [hc, if_false]; exact g
/-- an instruction all of whose ends are such -/
def zz_G (i : zz_I) : Prop := ∀ C ls st m, zz_T (fun J K => i J C K ls st m)
theorem zz_run_T {is : zz_B} (h : ∀ i ∈ is, zz_G i.2) (C : zz_C) : ∀ ls st m, zz_T (fun J _ => zz_run J C is ls st m) := by
  induction is with
  | nil => exact fun _ _ _ => zt_c none
  | cons i r ih =>
    intro ls st m
    rcases h i List.mem_cons_self C ls st m with ⟨v, hv⟩ | ⟨ls', st', m', hv⟩ | ⟨t, ls', st', m', hv⟩
    · exact Or.inl ⟨v, fun J K => hv J _⟩
    · rcases ih (fun j hj => h j (List.mem_cons_of_mem _ hj)) ls' st' m' with ⟨v, hw⟩ | ⟨a, b, c, hw⟩ | ⟨t, a, b, c, hw⟩
      · exact Or.inl ⟨v, fun J K => (hv J _).trans (hw J K)⟩
      · exact Or.inr (Or.inl ⟨a, b, c, fun J K => (hv J _).trans (hw J K)⟩)
      · exact Or.inr (Or.inr ⟨t, a, b, c, fun J K => (hv J _).trans (hw J K)⟩)
    · exact Or.inr (Or.inr ⟨t, ls', st', m', fun J K => hv J _⟩)
/-- the value, if some bound on the jumps gives one -/
noncomputable def zz_X (C : zz_C) (code : List zz_B) : zz_J := fun t ls st m => @dite _ (∃ n r, zz_E C code n t ls st m = some r) (Classical.propDecidable _) (fun h => zz_E C code h.choose t ls st m) (fun _ => none)
def zz_GC (code : List zz_B) : Prop := ∀ b ∈ code, ∀ i ∈ b, zz_G i.2
theorem zz_GC.at {code : List zz_B} (h : zz_GC code) (t : Nat) : ∀ i ∈ code.getD t [], zz_G i.2 := by
  intro i hi
  cases hb : code[t]? with
  | none =>
    rw [List.getD_eq_getElem?_getD, hb] at hi
    cases hi
  | some b =>
    rw [List.getD_eq_getElem?_getD, hb] at hi
    exact h b (List.mem_of_getElem? hb) i hi
theorem zz_E_mono {C : zz_C} {code : List zz_B} (hG : zz_GC code) : ∀ n t ls st m r, zz_E C code n t ls st m = some r → zz_E C code (n + 1) t ls st m = some r := by
  intro n
  induction n with
  | zero => intro t ls st m r h; cases h
  | succ n ih =>
    intro t ls st m r h
    change zz_run (zz_E C code (n + 1)) C (code.getD t []) ls st m = some r
    have h : zz_run (zz_E C code n) C (code.getD t []) ls st m = some r := h
    rcases zz_run_T (hG.at t) C ls st m with ⟨v, hv⟩ | ⟨a, b, c, hv⟩ | ⟨u, a, b, c, hv⟩
    · have e1 := hv (zz_E C code n) (fun _ _ _ => none)
      have e2 := hv (zz_E C code (n + 1)) (fun _ _ _ => none)
      dsimp only at e1 e2
      rw [e2, ← e1]; exact h
    · have e1 := hv (zz_E C code n) (fun _ _ _ => none)
      dsimp only at e1
      rw [e1] at h; cases h
    · have e1 := hv (zz_E C code n) (fun _ _ _ => none)
      have e2 := hv (zz_E C code (n + 1)) (fun _ _ _ => none)
      dsimp only at e1 e2
      rw [e1] at h
      rw [e2]
      exact ih _ _ _ _ _ h
theorem zz_E_le {C : zz_C} {code : List zz_B} (hG : zz_GC code) {n k : Nat} {t : Nat} {ls : zz_L} {st : List Value} {m : zz_M} {r : zz_R} (h : zz_E C code n t ls st m = some r) (hk : n ≤ k) : zz_E C code k t ls st m = some r := by
  induction hk with
  | refl => exact h
  | step _ ih => exact zz_E_mono hG _ _ _ _ _ _ ih
theorem zz_X_of {C : zz_C} {code : List zz_B} (hG : zz_GC code) {n t : Nat} {ls : zz_L} {st : List Value} {m : zz_M} {r : zz_R} (h : zz_E C code n t ls st m = some r) : zz_X C code t ls st m = some r := by
  have hx : ∃ n r, zz_E C code n t ls st m = some r := ⟨n, r, h⟩
  unfold zz_X
  rw [dif_pos hx]
  obtain ⟨r2, h2⟩ := hx.choose_spec
  rw [h2]
  have a := zz_E_le hG h (Nat.le_max_left n hx.choose)
  have b := zz_E_le hG h2 (Nat.le_max_right n hx.choose)
  rw [a] at b
  exact b.symm
theorem zz_X_some {C : zz_C} {code : List zz_B} {t : Nat} {ls : zz_L} {st : List Value} {m : zz_M} {r : zz_R} (h : zz_X C code t ls st m = some r) : ∃ n, zz_E C code n t ls st m = some r := by
  unfold zz_X at h
  split at h
  · exact ⟨_, h⟩
  · cases h
/-- the equation -/
theorem zz_X_eq {C : zz_C} {code : List zz_B} (hG : zz_GC code) (t : Nat) (ls : zz_L) (st : List Value) (m : zz_M) : zz_X C code t ls st m = zz_run (zz_X C code) C (code.getD t []) ls st m := by
  have key : ∀ r, zz_X C code t ls st m = some r ↔ zz_run (zz_X C code) C (code.getD t []) ls st m = some r := by
    intro r
    rcases zz_run_T (hG.at t) C ls st m with ⟨v, hv⟩ | ⟨a, b, c, hv⟩ | ⟨u, a, b, c, hv⟩
    · have e0 := hv (zz_X C code) (fun _ _ _ => none)
      dsimp only at e0
      rw [e0]
      constructor
      · intro h
        obtain ⟨n, hn⟩ := zz_X_some h
        cases n with
        | zero => cases hn
        | succ n =>
          have e1 := hv (zz_E C code n) (fun _ _ _ => none)
          dsimp only at e1
          rw [← e1]; exact hn
      · intro h
        refine zz_X_of hG (n := 1) ?_
        have e1 := hv (zz_E C code 0) (fun _ _ _ => none)
        dsimp only at e1
        exact e1.trans h
    · have e0 := hv (zz_X C code) (fun _ _ _ => none)
      dsimp only at e0
      rw [e0]
      constructor
      · intro h
        obtain ⟨n, hn⟩ := zz_X_some h
        cases n with
        | zero => cases hn
        | succ n =>
          have e1 := hv (zz_E C code n) (fun _ _ _ => none)
          dsimp only at e1
          rw [← e1]; exact hn
      · intro h; cases h
    · have e0 := hv (zz_X C code) (fun _ _ _ => none)
      dsimp only at e0
      rw [e0]
      constructor
      · intro h
        obtain ⟨n, hn⟩ := zz_X_some h
        cases n with
        | zero => cases hn
        | succ n =>
          have e1 := hv (zz_E C code n) (fun _ _ _ => none)
          dsimp only at e1
          refine zz_X_of hG (n := n) ?_
          rw [← e1]; exact hn
      · intro h
        obtain ⟨n, hn⟩ := zz_X_some h
        refine zz_X_of hG (n := n + 1) ?_
        have e1 := hv (zz_E C code n) (fun _ _ _ => none)
        dsimp only at e1
        exact e1.trans hn
  cases h1 : zz_X C code t ls st m with
  | none =>
    cases h2 : zz_run (zz_X C code) C (code.getD t []) ls st m with
    | none => rfl
    | some r => rw [(key r).mpr h2] at h1; cases h1
  | some r => exact ((key r).mp h1).symm
-- every instruction is such
theorem zg_push (v : Value) : zz_G (zi_push v) := fun _ _ _ _ => zt_K _ _ _
theorem zg_iload (i : Nat) : zz_G (zi_iload i) := fun _ _ _ _ => zt_o fun _ => zt_o fun _ => zt_pI fun _ _ => zt_K _ _ _
theorem zg_lload (i : Nat) : zz_G (zi_lload i) := fun _ _ _ _ => zt_o fun _ => zt_o fun _ => zt_pL fun _ _ => zt_K _ _ _
theorem zg_aload (i : Nat) : zz_G (zi_aload i) := fun _ _ _ _ => zt_o fun _ => zt_o fun _ => zt_pR fun _ _ => zt_K _ _ _
theorem zg_istore (i : Nat) : zz_G (zi_istore i) := fun _ _ _ _ => zt_pI fun _ _ => zt_b (zt_K _ _ _)
theorem zg_lstore (i : Nat) : zz_G (zi_lstore i) := fun _ _ _ _ => zt_pL fun _ _ => zt_b (zt_K _ _ _)
theorem zg_astore (i : Nat) : zz_G (zi_astore i) := fun _ _ _ _ => zt_pR fun _ _ => zt_b (zt_K _ _ _)
theorem zg_iinc (i : Nat) (n : Int32) : zz_G (zi_iinc i n) := fun _ _ _ _ => zt_o fun _ => zt_o fun _ => zt_pI fun _ _ => zt_b (zt_K _ _ _)
theorem zg_dup : zz_G zi_dup := fun C ls st m => by
  unfold zi_dup
  split
  · exact zt_K _ _ _
  · exact zt_K _ _ _
  · exact zt_c _
theorem zg_dup2 : zz_G zi_dup2 := fun C ls st m => by
  unfold zi_dup2
  split
  · exact zt_K _ _ _
  · exact zt_K _ _ _
  · exact zt_c _
theorem zg_pop : zz_G zi_pop := fun _ _ _ _ => zt_pI fun _ _ => zt_K _ _ _
theorem zg_ibin (f : Int32 → Int32 → Int32) : zz_G (zi_ibin f) := fun _ _ _ _ => zt_pI fun _ _ => zt_pI fun _ _ => zt_K _ _ _
theorem zg_idiv (f : Int32 → Int32 → Int32) : zz_G (zi_idiv f) := fun _ _ _ _ => zt_pI fun _ _ => zt_pI fun _ _ => zt_i (zt_c _) (zt_K _ _ _)
theorem zg_iun (f : Int32 → Int32) : zz_G (zi_iun f) := fun _ _ _ _ => zt_pI fun _ _ => zt_K _ _ _
theorem zg_lbin (f : Int64 → Int64 → Int64) : zz_G (zi_lbin f) := fun _ _ _ _ => zt_pL fun _ _ => zt_pL fun _ _ => zt_K _ _ _
theorem zg_ldiv (f : Int64 → Int64 → Int64) : zz_G (zi_ldiv f) := fun _ _ _ _ => zt_pL fun _ _ => zt_pL fun _ _ => zt_i (zt_c _) (zt_K _ _ _)
theorem zg_lsh (f : Int64 → Int32 → Int64) : zz_G (zi_lsh f) := fun _ _ _ _ => zt_pI fun _ _ => zt_pL fun _ _ => zt_K _ _ _
theorem zg_lcmp : zz_G zi_lcmp := fun _ _ _ _ => zt_pL fun _ _ => zt_pL fun _ _ => zt_K _ _ _
theorem zg_i2l : zz_G zi_i2l := fun _ _ _ _ => zt_pI fun _ _ => zt_K _ _ _
theorem zg_l2i : zz_G zi_l2i := fun _ _ _ _ => zt_pL fun _ _ => zt_K _ _ _
theorem zg_jump (t : Nat) : zz_G (zi_jump t) := fun _ _ _ _ => zt_J _ _ _ _
theorem zg_ceq (t : Nat) : zz_G (zi_ceq t) := fun _ _ _ _ => zt_pI fun _ _ => zt_pI fun _ _ => zt_i (zt_J _ _ _ _) (zt_K _ _ _)
theorem zg_cne (t : Nat) : zz_G (zi_cne t) := fun _ _ _ _ => zt_pI fun _ _ => zt_pI fun _ _ => zt_i (zt_K _ _ _) (zt_J _ _ _ _)
theorem zg_clt (t : Nat) : zz_G (zi_clt t) := fun _ _ _ _ => zt_pI fun _ _ => zt_pI fun _ _ => zt_i (zt_J _ _ _ _) (zt_K _ _ _)
theorem zg_cge (t : Nat) : zz_G (zi_cge t) := fun _ _ _ _ => zt_pI fun _ _ => zt_pI fun _ _ => zt_i (zt_J _ _ _ _) (zt_K _ _ _)
theorem zg_cgt (t : Nat) : zz_G (zi_cgt t) := fun _ _ _ _ => zt_pI fun _ _ => zt_pI fun _ _ => zt_i (zt_J _ _ _ _) (zt_K _ _ _)
theorem zg_cle (t : Nat) : zz_G (zi_cle t) := fun _ _ _ _ => zt_pI fun _ _ => zt_pI fun _ _ => zt_i (zt_J _ _ _ _) (zt_K _ _ _)
theorem zg_zeq (t : Nat) : zz_G (zi_zeq t) := fun _ _ _ _ => zt_pI fun _ _ => zt_i (zt_J _ _ _ _) (zt_K _ _ _)
theorem zg_zne (t : Nat) : zz_G (zi_zne t) := fun _ _ _ _ => zt_pI fun _ _ => zt_i (zt_K _ _ _) (zt_J _ _ _ _)
theorem zg_zlt (t : Nat) : zz_G (zi_zlt t) := fun _ _ _ _ => zt_pI fun _ _ => zt_i (zt_J _ _ _ _) (zt_K _ _ _)
theorem zg_zge (t : Nat) : zz_G (zi_zge t) := fun _ _ _ _ => zt_pI fun _ _ => zt_i (zt_J _ _ _ _) (zt_K _ _ _)
theorem zg_zgt (t : Nat) : zz_G (zi_zgt t) := fun _ _ _ _ => zt_pI fun _ _ => zt_i (zt_J _ _ _ _) (zt_K _ _ _)
theorem zg_zle (t : Nat) : zz_G (zi_zle t) := fun _ _ _ _ => zt_pI fun _ _ => zt_i (zt_J _ _ _ _) (zt_K _ _ _)
theorem zg_tab (lo : Int) (ts : List Nat) (d : Nat) : zz_G (zi_tab lo ts d) := fun _ _ _ _ => zt_pI fun _ _ => zt_i (zt_J _ _ _ _) (by
  split
  · exact zt_J _ _ _ _
  · exact zt_J _ _ _ _)
theorem zg_getI (ci k : Nat) : zz_G (zi_getI ci k) := fun _ _ _ _ => zt_pR fun _ _ => zt_ob fun _ => zt_b (zt_K _ _ _)
theorem zg_getL (ci k : Nat) : zz_G (zi_getL ci k) := fun _ _ _ _ => zt_pR fun _ _ => zt_ob fun _ => zt_b (zt_K _ _ _)
theorem zg_getR (ci k : Nat) : zz_G (zi_getR ci k) := fun _ _ _ _ => zt_pR fun _ _ => zt_ob fun _ => zt_b (zt_o fun _ => zt_o fun _ => zt_K _ _ _)
theorem zg_putI (ci k : Nat) : zz_G (zi_putI ci k) := fun _ _ _ _ => zt_pI fun _ _ => zt_pR fun _ _ => zt_ob fun _ => zt_b (zt_K _ _ _)
theorem zg_putZ (ci k : Nat) : zz_G (zi_putZ ci k) := fun _ _ _ _ => zt_pI fun _ _ => zt_pR fun _ _ => zt_ob fun _ => zt_b (zt_i (zt_K _ _ _) (zt_c _))
theorem zg_putL (ci k : Nat) : zz_G (zi_putL ci k) := fun _ _ _ _ => zt_pL fun _ _ => zt_pR fun _ _ => zt_ob fun _ => zt_b (zt_K _ _ _)
theorem zg_putR (ci k : Nat) : zz_G (zi_putR ci k) := fun _ _ _ _ => zt_pR fun _ _ => zt_pR fun _ _ => zt_ob fun _ => zt_b (zt_K _ _ _)
theorem zg_iald : zz_G zi_iald := fun _ _ _ _ => zt_pI fun _ _ => zt_pR fun _ _ => by
  split
  · exact zt_b (zt_o fun _ => zt_K _ _ _)
  · exact zt_ob fun _ => zt_o fun _ => zt_K _ _ _
theorem zg_zald : zz_G zi_zald := fun _ _ _ _ => zt_pI fun _ _ => zt_pR fun _ _ => zt_ob fun _ => zt_o fun _ => zt_K _ _ _
theorem zg_lald : zz_G zi_lald := fun _ _ _ _ => zt_pI fun _ _ => zt_pR fun _ _ => zt_ob fun _ => zt_o fun _ => zt_K _ _ _
theorem zg_aald (t : Nat) : zz_G (zi_aald t) := fun _ _ _ _ => zt_pI fun _ _ => zt_pR fun _ _ => zt_ob fun _ => zt_o fun _ => zt_o fun _ => zt_o fun _ => zt_J _ _ _ _
theorem zg_iast : zz_G zi_iast := fun _ _ _ _ => zt_pI fun _ _ => zt_pI fun _ _ => zt_pR fun _ _ => zt_ob fun _ => zt_o fun _ => zt_K _ _ _
theorem zg_zast : zz_G zi_zast := fun _ _ _ _ => zt_pI fun _ _ => zt_pI fun _ _ => zt_pR fun _ _ => zt_ob fun _ => zt_o fun _ => zt_i (zt_K _ _ _) (zt_c _)
theorem zg_last : zz_G zi_last := fun _ _ _ _ => zt_pL fun _ _ => zt_pI fun _ _ => zt_pR fun _ _ => zt_ob fun _ => zt_o fun _ => zt_K _ _ _
theorem zg_alen : zz_G zi_alen := fun _ _ _ _ => zt_pR fun _ _ => by
  split
  · exact zt_b (zt_K _ _ _)
  · exact zt_sh fun _ => zt_b (zt_K _ _ _)
theorem zg_copy : zz_G zi_copy := fun _ _ _ _ => zt_pI fun _ _ => zt_pI fun _ _ => zt_pR fun _ _ => zt_pI fun _ _ => zt_pR fun _ _ => zt_ob fun _ => zt_ob fun _ => zt_b (zt_i (zt_c _) (zt_K _ _ _))
theorem zg_callS (k n t : Nat) : zz_G (zi_callS k n t) := fun _ _ _ _ => zt_b (zt_o fun _ => zt_J _ _ _ _)
theorem zg_callV (ci k n t : Nat) : zz_G (zi_callV ci k n t) := fun _ _ _ _ => zt_b (zt_o fun _ => zt_pR fun _ _ => zt_ob fun _ => zt_o fun _ => zt_J _ _ _ _)
theorem zg_callI (k n t : Nat) : zz_G (zi_callI k n t) := fun _ _ _ _ => zt_b (zt_o fun _ => zt_pR fun _ _ => zt_o fun _ => zt_b (zt_J _ _ _ _))
theorem zg_oinit : zz_G zi_oinit := fun _ _ _ _ => zt_pR fun _ _ => zt_b (zt_K _ _ _)
theorem zg_new (ci N : Nat) : zz_G (zi_new ci N) := fun _ _ _ _ => zt_b (zt_K _ _ _)
theorem zg_newa (kd : Nat) : zz_G (zi_newa kd) := fun _ _ _ _ => zt_pI fun _ _ => zt_b (zt_K _ _ _)
theorem zg_mna : zz_G zi_mna := fun _ _ _ _ => zt_pI fun _ _ => zt_pI fun _ _ => zt_b (zt_K _ _ _)
theorem zg_iret : zz_G zi_iret := fun _ _ _ _ => zt_c _
theorem zg_zret : zz_G zi_zret := fun _ _ _ _ => zt_c _
theorem zg_lret : zz_G zi_lret := fun _ _ _ _ => zt_c _
theorem zg_vret : zz_G zi_vret := fun _ _ _ _ => zt_c _
theorem zg_fail : zz_G zi_fail := fun _ _ _ _ => zt_c _

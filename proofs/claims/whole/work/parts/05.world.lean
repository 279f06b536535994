/-! The small machine's memory as cells of the heap; its locals as the frame's. -/
def zz_tr (ad : Nat → Nat) (v : Value) : Value := match v with
  | .ref a => .ref (ad a)
  | v => v
theorem zz_tr_cat (ad : Nat → Nat) (v : Value) : (zz_tr ad v).category = v.category := by cases v <;> rfl
def zz_fv (ad : Nat → Nat) (tag : Nat) (x : Int32) (y : Int64) (r : Option Nat) : Value := match tag with
  | 1 => .long y
  | 2 => va_rf (r.map ad)
  | _ => .int x
def zz_ce (cy : Nat → ClassId) (ad : Nat → Nat) (s : zz_S) (f : Nat → Int32) (g : Nat → Int64) : va_E := match s.1 with
  | 0 => .inl (cy 0, s.2.1, .inl f)
  | 1 => .inl (cy 1, s.2.1, .inr (.inl g))
  | 2 => .inl (cy 2, s.2.1, .inl f)
  | 3 => .inl (cy 3, s.2.1, .inr (.inr (.inr (.inr (fun j => (s.2.2.getD j none).map ad)))))
  | ci + 4 => .inr (ci, (List.range s.2.1).map (fun k => zz_fv ad (zz_ft ci k) (f k) (g k) (s.2.2.getD k none)))
def zz_cw (cy : Nat → ClassId) (ad : Nat → Nat) (m : zz_M) : va_W := (List.range m.2.1.length).map (fun a => (ad a, zz_ce cy ad (m.2.1.getD a (0, 0, [])) (m.2.2.1 a) (m.2.2.2.1 a)))
theorem zz_cw_len (cy : Nat → ClassId) (ad : Nat → Nat) (m : zz_M) : (zz_cw cy ad m).length = m.2.1.length := by simp [zz_cw]
theorem zz_cw_at {cy : Nat → ClassId} {ad : Nat → Nat} {m : zz_M} {a : Nat} {s : zz_S} (h : m.2.1[a]? = some s) : (zz_cw cy ad m)[a]? = some (ad a, zz_ce cy ad s (m.2.2.1 a) (m.2.2.2.1 a)) := by
  obtain ⟨hl, he⟩ := List.getElem?_eq_some_iff.mp h
  simp [zz_cw, hl, he]
theorem zz_cw_ext {cy : Nat → ClassId} {ad ad' : Nat → Nat} {m : zz_M} {w : va_W} (hl : w.length = m.2.1.length) (h : ∀ a s, m.2.1[a]? = some s → w[a]? = some (ad a, zz_ce cy ad s (m.2.2.1 a) (m.2.2.2.1 a))) : w = zz_cw cy ad m := by
  apply List.ext_getElem?
  intro a
  by_cases ha : a < m.2.1.length
  · have e : m.2.1[a]? = some m.2.1[a] := List.getElem?_eq_getElem ha
    rw [h a _ e, zz_cw_at e]
  · rw [List.getElem?_eq_none (by omega), List.getElem?_eq_none (by rw [zz_cw_len]; omega)]
/-- one cell is another, all else stays -/
theorem zz_cw_set {cy : Nat → ClassId} {ad : Nat → Nat} {m m' : zz_M} {a : Nat} {s' : zz_S} (hl : m'.2.1.length = m.2.1.length) (ha : m'.2.1[a]? = some s') (hne : ∀ b, b ≠ a → m'.2.1[b]? = m.2.1[b]? ∧ m'.2.2.1 b = m.2.2.1 b ∧ m'.2.2.2.1 b = m.2.2.2.1 b) :
    (zz_cw cy ad m).set a (ad a, zz_ce cy ad s' (m'.2.2.1 a) (m'.2.2.2.1 a)) = zz_cw cy ad m' := by
  refine zz_cw_ext (ad' := ad) (by rw [List.length_set, zz_cw_len, hl]) (fun b s hb => ?_)
  by_cases hba : b = a
  · subst hba
    rw [ha] at hb
    cases hb
    have : b < m'.2.1.length := (List.getElem?_eq_some_iff.mp ha).1
    rw [List.getElem?_set_self (by rw [zz_cw_len]; omega)]
  · obtain ⟨e1, e2, e3⟩ := hne b hba
    rw [List.getElem?_set_ne (Ne.symm hba), zz_cw_at (by rw [← e1]; exact hb), e2, e3]
-- locals
def zz_lv (ad : Nat → Nat) : Nat → zz_L → List (Nat × Value)
  | _, [] => []
  | i, none :: r => zz_lv ad (i + 1) r
  | i, some v :: r => (i, zz_tr ad v) :: zz_lv ad (i + 1) r
theorem zz_lv_mem {ad : Nat → Nat} : ∀ {ls : zz_L} {i : Nat} {q : Nat × Value}, q ∈ zz_lv ad i ls ↔ ∃ j v, ls[j]? = some (some v) ∧ q = (i + j, zz_tr ad v)
  | [], i, q => by simp [zz_lv]
  | none :: r, i, q => by
    rw [zz_lv, zz_lv_mem]
    constructor
    · rintro ⟨j, v, h1, h2⟩
      exact ⟨j + 1, v, by simpa using h1, by rw [h2]; congr 1; omega⟩
    · rintro ⟨j, v, h1, h2⟩
      cases j with
      | zero => simp at h1
      | succ j => exact ⟨j, v, by simpa using h1, by rw [h2]; congr 1; omega⟩
  | some w :: r, i, q => by
    rw [zz_lv, List.mem_cons, zz_lv_mem]
    constructor
    · rintro (h | ⟨j, v, h1, h2⟩)
      · exact ⟨0, w, by simp, by rw [h]; rfl⟩
      · exact ⟨j + 1, v, by simpa using h1, by rw [h2]; congr 1; omega⟩
    · rintro ⟨j, v, h1, h2⟩
      cases j with
      | zero =>
        simp at h1
        subst h1
        exact Or.inl h2
      | succ j => exact Or.inr ⟨j, v, by simpa using h1, by rw [h2]; congr 1; omega⟩
theorem zz_lv_at {ad : Nat → Nat} {ls : zz_L} {La : Array Slot} {n i : Nat} {v : Value} (h : lv_has La n (zz_lv ad 0 ls)) (hi : ls[i]? = some (some v)) : La[i]? = some (.val (zz_tr ad v)) := h.2.2 (i, zz_tr ad v) (zz_lv_mem.mpr ⟨i, v, hi, by simp⟩)
theorem zz_lv_sub {La : Array Slot} {n : Nat} {l l' : List (Nat × Value)} (h : lv_has La n l) (hs : ∀ q ∈ l', q ∈ l) : lv_has La n l' := ⟨h.1, h.2.1, fun q hq => h.2.2 q (hs q hq)⟩
theorem zz_s1_len : ∀ (ls : zz_L) (i : Nat) (v : Value), (zz_s1 ls i v).length = ls.length
  | [], i, v => by simp [zz_s1]
  | _ :: r, 0, v => by simp [zz_s1]
  | o :: r, 1, v => by simp [zz_s1, zz_s1_len r 0 v]
  | o :: r, i + 2, v => by simp [zz_s1, zz_s1_len r (i + 1) v]
theorem zz_s1_get : ∀ (ls : zz_L) (i : Nat) (v : Value) (j : Nat), (zz_s1 ls i v)[j]? = if j = i then (if i < ls.length then some (some v) else none) else if j + 1 = i then (ls[j]?).map zz_kill else ls[j]?
  | [], i, v, j => by simp [zz_s1]
  | o :: r, 0, v, j => by
    cases j with
    | zero => simp [zz_s1]
    | succ j => simp [zz_s1]
  | o :: r, 1, v, j => by
    cases j with
    | zero => simp [zz_s1]
    | succ j =>
      rw [zz_s1, List.getElem?_cons_succ, zz_s1_get r 0 v j]
      simp
  | o :: r, i + 2, v, j => by
    cases j with
    | zero => simp [zz_s1]
    | succ j =>
      have e : (i + 2 < r.length + 1) ↔ (i + 1 < r.length) := by omega
      rw [zz_s1, List.getElem?_cons_succ, zz_s1_get r (i + 1) v j]
      simp [e]
theorem zz_s2_len : ∀ (ls : zz_L) (i : Nat) (v : Value), (zz_s2 ls i v).length = ls.length
  | [], i, v => by simp [zz_s2]
  | [o], i, v => by simp [zz_s2]
  | _ :: _ :: r, 0, v => by simp [zz_s2]
  | o :: p :: r, 1, v => by simp [zz_s2, zz_s2_len (p :: r) 0 v]
  | o :: p :: r, i + 2, v => by simp [zz_s2, zz_s2_len (p :: r) (i + 1) v]
theorem zz_s2_get : ∀ (ls : zz_L) (i : Nat) (v : Value) (j : Nat), i + 1 < ls.length → (zz_s2 ls i v)[j]? = if j = i then some (some v) else if j = i + 1 then some none else if j + 1 = i then (ls[j]?).map zz_kill else ls[j]?
  | [], i, v, j, h => by simp at h
  | [o], i, v, j, h => by simp at h
  | o :: p :: r, 0, v, j, h => by
    match j with
    | 0 => simp [zz_s2]
    | 1 => simp [zz_s2]
    | j + 2 => simp [zz_s2]
  | o :: p :: r, 1, v, j, h => by
    cases j with
    | zero => simp [zz_s2]
    | succ j =>
      rw [zz_s2, List.getElem?_cons_succ, zz_s2_get (p :: r) 0 v j (by simpa using h)]
      simp
  | o :: p :: r, i + 2, v, j, h => by
    cases j with
    | zero => simp [zz_s2]
    | succ j =>
      rw [zz_s2, List.getElem?_cons_succ, zz_s2_get (p :: r) (i + 1) v j (by simp at h ⊢; omega)]
      simp
theorem zz_kill_some {o : Option Value} {v : Value} (h : zz_kill o = some v) : o = some v ∧ v.category = 1 := by
  cases o with
  | none => simp [zz_kill] at h
  | some w => cases w <;> simp [zz_kill] at h <;> subst h <;> simp [Value.category]
theorem zz_lv_s1 {ad : Nat → Nat} {ls : zz_L} {i : Nat} {v : Value} : ∀ q ∈ zz_lv ad 0 (zz_s1 ls i v), q ∈ (i, zz_tr ad v) :: (zz_lv ad 0 ls).filter (fun q => !(q.1 == i) && !(q.1 + 1 == i && q.2.category == 2)) := by
  intro q hq
  obtain ⟨j, w, h1, rfl⟩ := zz_lv_mem.mp hq
  rw [zz_s1_get] at h1
  rw [Nat.zero_add]
  by_cases hj : j = i
  · subst hj
    rw [if_pos rfl] at h1
    split at h1
    · cases h1
      exact List.mem_cons_self
    · cases h1
  · rw [if_neg hj] at h1
    refine List.mem_cons_of_mem _ (List.mem_filter.mpr ?_)
    by_cases hk : j + 1 = i
    · rw [if_pos hk] at h1
      cases ho : ls[j]? with
      | none => rw [ho] at h1; cases h1
      | some o =>
        rw [ho] at h1
        obtain ⟨e1, e2⟩ := zz_kill_some (Option.some.inj h1)
        subst e1
        refine ⟨zz_lv_mem.mpr ⟨j, w, ho, by simp⟩, ?_⟩
        simp [hj, zz_tr_cat, e2]
    · rw [if_neg hk] at h1
      refine ⟨zz_lv_mem.mpr ⟨j, w, h1, by simp⟩, ?_⟩
      simp [hj, hk]
theorem zz_lv_s2 {ad : Nat → Nat} {ls : zz_L} {i : Nat} {v : Value} (hi : i + 1 < ls.length) : ∀ q ∈ zz_lv ad 0 (zz_s2 ls i v), q ∈ (i, zz_tr ad v) :: (zz_lv ad 0 ls).filter (fun q => !(q.1 == i) && (!(q.1 == i + 1) && !(q.1 + 1 == i && q.2.category == 2))) := by
  intro q hq
  obtain ⟨j, w, h1, rfl⟩ := zz_lv_mem.mp hq
  rw [zz_s2_get _ _ _ _ hi] at h1
  rw [Nat.zero_add]
  by_cases hj : j = i
  · subst hj
    rw [if_pos rfl] at h1
    cases h1
    exact List.mem_cons_self
  · rw [if_neg hj] at h1
    by_cases hj1 : j = i + 1
    · rw [if_pos hj1] at h1; cases h1
    · rw [if_neg hj1] at h1
      refine List.mem_cons_of_mem _ (List.mem_filter.mpr ?_)
      by_cases hk : j + 1 = i
      · rw [if_pos hk] at h1
        cases ho : ls[j]? with
        | none => rw [ho] at h1; cases h1
        | some o =>
          rw [ho] at h1
          obtain ⟨e1, e2⟩ := zz_kill_some (Option.some.inj h1)
          subst e1
          refine ⟨zz_lv_mem.mpr ⟨j, w, ho, by simp⟩, ?_⟩
          simp [hj, hj1, zz_tr_cat, e2]
      · rw [if_neg hk] at h1
        refine ⟨zz_lv_mem.mpr ⟨j, w, h1, by simp⟩, ?_⟩
        simp [hj, hj1, hk]
-- a method's first locals
theorem zz_ar_len (ad : Nat → Nat) : ∀ as : List Value, (lg_sl (as.map (zz_tr ad))).length = (zz_ar as).length
  | [] => rfl
  | v :: r => by
    have ih := zz_ar_len ad r
    cases v <;> simp [lg_sl, zz_ar, zz_tr, Value.category] at ih ⊢ <;> exact ih
theorem zz_lv_none (ad : Nat → Nat) : ∀ (k i : Nat), zz_lv ad i (List.replicate k none) = []
  | 0, i => rfl
  | k + 1, i => by rw [List.replicate_succ, zz_lv, zz_lv_none ad k]
theorem zz_lv_ar (ad : Nat → Nat) (k : Nat) : ∀ (as : List Value) (i : Nat), zz_lv ad i (zz_ar as ++ List.replicate k none) = lv_args i (as.map (zz_tr ad))
  | [], i => by simp [zz_ar, lv_args, zz_lv_none]
  | v :: r, i => by
    cases v <;> simp [zz_ar, lv_args, zz_tr, zz_lv, Value.category, zz_lv_ar ad k r]
theorem zz_lv_entry (ad : Nat → Nat) (as : List Value) {n : Nat} (h : (zz_ar as).length ≤ n) : lv_has ((lg_sl (as.map (zz_tr ad)) ++ List.replicate (n - (lg_sl (as.map (zz_tr ad))).length) Slot.unset).toArray) n (zz_lv ad 0 (zz_l0 as n)) := by
  rw [zz_l0, zz_lv_ar]
  exact lv_entry _ (by rw [zz_ar_len]; exact h)
theorem zz_l0_len (as : List Value) {n : Nat} (h : (zz_ar as).length ≤ n) : (zz_l0 as n).length = n := by
  simp [zz_l0]; omega

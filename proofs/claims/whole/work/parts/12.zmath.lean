/-! Math.max, Math.min of ints. -/
def zi_mm (f : Int32 → Int32 → Int32) : zz_I := fun _ _ K ls st m => zz_pI st fun y st => zz_pI st fun x st => zz_b (Nat.ble (st.map Value.category).sum 8) (K ls (.int (f x y) :: st) m)
theorem zg_mm (f : Int32 → Int32 → Int32) : zz_G (zi_mm f) := fun _ _ _ _ => zt_pI fun _ _ => zt_pI fun _ _ => zt_b (zt_K _ _ _)
section ZX
variable {mt : List zz_Mt} {own : String} {y : MethodName} {cc : ByteArray} {ret : Option FieldType} {nL : Nat} {pcs : List Nat} {pc : Nat}
theorem zs_mmax {i : Nat} (hw1 : Cond.methodLink own i Lib.Math.max.name ∈ zz_TG) (hw2 : Cond.static Lib.Math.max.name ∈ zz_TG) (hw3 : Cond.initialized "java/lang/Math" ∈ zz_TG) (hw4 : Cond.code Lib.Math.max.name Lib.Math.max.code 2 (some .int) ∈ zz_TG) (hd : decode cc pc = .ok (.invokestatic i, 3)) : zz_Snd mt own y cc ret nL pcs pc 3 (zi_mm (fun x y => if x < y then y else x)) := by
  intro p l e R s mi args below meth c Q D cy A g0 bc bs d J C K r hF hN hc1 hc2 hfr hlo hMS hJ hK hR ls st m h
  obtain ⟨y, t1, e1, h1⟩ := zz_pI_some h
  obtain ⟨x, t2, e2, h2⟩ := zz_pI_some h1
  obtain ⟨hb, h3⟩ := zz_b_some h2
  have hb := Nat.le_of_ble_eq_true hb
  clear h h1 h2
  subst e2 e1
  intro H locs La ad hc hi hn hl
  exact va_mmax hF.1 hF.2.1 (hF.2.2.1.trans hl.1.symm) hF.2.2.2.1 (hF.2.2.2.2 _ hw1) (hF.2.2.2.2 _ hw2) (hF.2.2.2.2 _ hw3) (hF.2.2.2.2 _ hw4) (by omega) (by rw [zz_catsum]; omega) (by rw [hc1]; omega) (by rw [hc2]; omega) hd (hK _ _ _ h3 H locs La ad hc hi hn hl)
theorem zs_mmin {i : Nat} (hw1 : Cond.methodLink own i Lib.Math.min.name ∈ zz_TG) (hw2 : Cond.static Lib.Math.min.name ∈ zz_TG) (hw3 : Cond.initialized "java/lang/Math" ∈ zz_TG) (hw4 : Cond.code Lib.Math.min.name Lib.Math.min.code 2 (some .int) ∈ zz_TG) (hd : decode cc pc = .ok (.invokestatic i, 3)) : zz_Snd mt own y cc ret nL pcs pc 3 (zi_mm (fun x y => if y < x then y else x)) := by
  intro p l e R s mi args below meth c Q D cy A g0 bc bs d J C K r hF hN hc1 hc2 hfr hlo hMS hJ hK hR ls st m h
  obtain ⟨y, t1, e1, h1⟩ := zz_pI_some h
  obtain ⟨x, t2, e2, h2⟩ := zz_pI_some h1
  obtain ⟨hb, h3⟩ := zz_b_some h2
  have hb := Nat.le_of_ble_eq_true hb
  clear h h1 h2
  subst e2 e1
  intro H locs La ad hc hi hn hl
  exact va_mmin hF.1 hF.2.1 (hF.2.2.1.trans hl.1.symm) hF.2.2.2.1 (hF.2.2.2.2 _ hw1) (hF.2.2.2.2 _ hw2) (hF.2.2.2.2 _ hw3) (hF.2.2.2.2 _ hw4) (by omega) (by rw [zz_catsum]; omega) (by rw [hc1]; omega) (by rw [hc2]; omega) hd (hK _ _ _ h3 H locs La ad hc hi hn hl)
end ZX

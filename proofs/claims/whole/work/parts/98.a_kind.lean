/-! what kind of value a method of the face answers: printed by program -/
def zz_A (P : Option Value → Prop) (J : zz_J) (K : zz_K) (o : Option zz_R) : Prop := ∀ r, o = some r → (∃ t ls st m, J t ls st m = some r) ∨ (∃ ls st m, K ls st m = some r) ∨ P r.1
section ZA
variable {P : Option Value → Prop} {J : zz_J} {K : zz_K}
theorem za_n : zz_A P J K none := fun r h => by cases h
theorem za_J {t : Nat} {ls : zz_L} {st : List Value} {m : zz_M} : zz_A P J K (J t ls st m) := fun r h => Or.inl ⟨t, ls, st, m, h⟩
theorem za_K {ls : zz_L} {st : List Value} {m : zz_M} : zz_A P J K (K ls st m) := fun r h => Or.inr (Or.inl ⟨ls, st, m, h⟩)
theorem za_pI {st : List Value} {f : Int32 → List Value → Option zz_R} (h : ∀ x r, zz_A P J K (f x r)) : zz_A P J K (zz_pI st f) := by
  unfold zz_pI
  split
  · exact h _ _
  · exact za_n
theorem za_pL {st : List Value} {f : Int64 → List Value → Option zz_R} (h : ∀ x r, zz_A P J K (f x r)) : zz_A P J K (zz_pL st f) := by
  unfold zz_pL
  split
  · exact h _ _
  · exact za_n
theorem za_pR {st : List Value} {f : Nat → List Value → Option zz_R} (h : ∀ x r, zz_A P J K (f x r)) : zz_A P J K (zz_pR st f) := by
  unfold zz_pR
  split
  · exact h _ _
  · exact za_n
theorem za_ob {m : zz_M} {a kd : Nat} {f : zz_S → Option zz_R} (h : ∀ s, zz_A P J K (f s)) : zz_A P J K (zz_ob m a kd f) := by
  unfold zz_ob zz_sh
  split
  · dsimp only
    split
    · exact h _
    · exact za_n
  · exact za_n
theorem za_b {b : Bool} {x : Option zz_R} (h : zz_A P J K x) : zz_A P J K (zz_b b x) := by
  cases b
  · exact za_n
  · exact h
theorem za_o {α : Type} {o : Option α} {f : α → Option zz_R} (h : ∀ x, zz_A P J K (f x)) : zz_A P J K (zz_o o f) := by
  cases o
  · exact za_n
  · exact h _
theorem za_i {c : Prop} [Decidable c] {x y : Option zz_R} (h : zz_A P J K x) (g : zz_A P J K y) : zz_A P J K (if c then x else y) := by
  by_cases hc : c
  · rw [if_pos hc]; exact h
  · rw [if_neg hc]; exact g
end ZA
def zz_H (P : Option Value → Prop) (i : zz_I) : Prop := ∀ J C K ls st m, zz_A P J K (i J C K ls st m)
def zPI (v : Option Value) : Prop := ∃ x, v = some (.int x)
def zPL (v : Option Value) : Prop := ∃ x, v = some (.long x)
section ZH
variable {P : Option Value → Prop}
theorem hh_push {v : Value} : zz_H P (zi_push v) := fun _ _ _ _ _ _ => za_K
theorem hh_iload {i : Nat} : zz_H P (zi_iload i) := fun _ _ _ _ _ _ => za_o fun _ => za_o fun _ => za_pI fun _ _ => za_K
theorem hh_lload {i : Nat} : zz_H P (zi_lload i) := fun _ _ _ _ _ _ => za_o fun _ => za_o fun _ => za_pL fun _ _ => za_K
theorem hh_aload {i : Nat} : zz_H P (zi_aload i) := fun _ _ _ _ _ _ => za_o fun _ => za_o fun _ => za_pR fun _ _ => za_K
theorem hh_istore {i : Nat} : zz_H P (zi_istore i) := fun _ _ _ _ _ _ => za_pI fun _ _ => za_b za_K
theorem hh_lstore {i : Nat} : zz_H P (zi_lstore i) := fun _ _ _ _ _ _ => za_pL fun _ _ => za_b za_K
theorem hh_iinc {i : Nat} {n : Int32} : zz_H P (zi_iinc i n) := fun _ _ _ _ _ _ => za_o fun _ => za_o fun _ => za_pI fun _ _ => za_b za_K
theorem hh_pop  : zz_H P (zi_pop ) := fun _ _ _ _ _ _ => za_pI fun _ _ => za_K
theorem hh_ibin {f : Int32 → Int32 → Int32} : zz_H P (zi_ibin f) := fun _ _ _ _ _ _ => za_pI fun _ _ => za_pI fun _ _ => za_K
theorem hh_iun {f : Int32 → Int32} : zz_H P (zi_iun f) := fun _ _ _ _ _ _ => za_pI fun _ _ => za_K
theorem hh_lbin {f : Int64 → Int64 → Int64} : zz_H P (zi_lbin f) := fun _ _ _ _ _ _ => za_pL fun _ _ => za_pL fun _ _ => za_K
theorem hh_ldiv {f : Int64 → Int64 → Int64} : zz_H P (zi_ldiv f) := fun _ _ _ _ _ _ => za_pL fun _ _ => za_pL fun _ _ => za_i za_n za_K
theorem hh_lcmp  : zz_H P (zi_lcmp ) := fun _ _ _ _ _ _ => za_pL fun _ _ => za_pL fun _ _ => za_K
theorem hh_i2l  : zz_H P (zi_i2l ) := fun _ _ _ _ _ _ => za_pI fun _ _ => za_K
theorem hh_l2i  : zz_H P (zi_l2i ) := fun _ _ _ _ _ _ => za_pL fun _ _ => za_K
theorem hh_jump {t : Nat} : zz_H P (zi_jump t) := fun _ _ _ _ _ _ => za_J
theorem hh_ceq {t : Nat} : zz_H P (zi_ceq t) := fun _ _ _ _ _ _ => za_pI fun _ _ => za_pI fun _ _ => za_i za_J za_K
theorem hh_clt {t : Nat} : zz_H P (zi_clt t) := fun _ _ _ _ _ _ => za_pI fun _ _ => za_pI fun _ _ => za_i za_J za_K
theorem hh_cge {t : Nat} : zz_H P (zi_cge t) := fun _ _ _ _ _ _ => za_pI fun _ _ => za_pI fun _ _ => za_i za_J za_K
theorem hh_cgt {t : Nat} : zz_H P (zi_cgt t) := fun _ _ _ _ _ _ => za_pI fun _ _ => za_pI fun _ _ => za_i za_J za_K
theorem hh_cle {t : Nat} : zz_H P (zi_cle t) := fun _ _ _ _ _ _ => za_pI fun _ _ => za_pI fun _ _ => za_i za_J za_K
theorem hh_cne {t : Nat} : zz_H P (zi_cne t) := fun _ _ _ _ _ _ => za_pI fun _ _ => za_pI fun _ _ => za_i za_K za_J
theorem hh_zeq {t : Nat} : zz_H P (zi_zeq t) := fun _ _ _ _ _ _ => za_pI fun _ _ => za_i za_J za_K
theorem hh_zlt {t : Nat} : zz_H P (zi_zlt t) := fun _ _ _ _ _ _ => za_pI fun _ _ => za_i za_J za_K
theorem hh_zge {t : Nat} : zz_H P (zi_zge t) := fun _ _ _ _ _ _ => za_pI fun _ _ => za_i za_J za_K
theorem hh_zgt {t : Nat} : zz_H P (zi_zgt t) := fun _ _ _ _ _ _ => za_pI fun _ _ => za_i za_J za_K
theorem hh_zle {t : Nat} : zz_H P (zi_zle t) := fun _ _ _ _ _ _ => za_pI fun _ _ => za_i za_J za_K
theorem hh_zne {t : Nat} : zz_H P (zi_zne t) := fun _ _ _ _ _ _ => za_pI fun _ _ => za_i za_K za_J
theorem hh_tab {lo : Int} {ts : List Nat} {d : Nat} : zz_H P (zi_tab lo ts d) := fun _ _ _ _ _ _ => za_pI fun _ _ => za_i za_J (by split <;> exact za_J)
theorem hh_getI {ci k : Nat} : zz_H P (zi_getI ci k) := fun _ _ _ _ _ _ => za_pR fun _ _ => za_ob fun _ => za_b za_K
theorem hh_getL {ci k : Nat} : zz_H P (zi_getL ci k) := fun _ _ _ _ _ _ => za_pR fun _ _ => za_ob fun _ => za_b za_K
theorem hh_getR {ci k : Nat} : zz_H P (zi_getR ci k) := fun _ _ _ _ _ _ => za_pR fun _ _ => za_ob fun _ => za_b (za_o fun _ => za_o fun _ => za_K)
theorem hh_putI {ci k : Nat} : zz_H P (zi_putI ci k) := fun _ _ _ _ _ _ => za_pI fun _ _ => za_pR fun _ _ => za_ob fun _ => za_b za_K
theorem hh_iald  : zz_H P (zi_iald ) := fun _ _ _ _ _ _ => za_pI fun _ _ => za_pR fun _ _ => by
  split
  · exact za_b (za_o fun _ => za_K)
  · exact za_ob fun _ => za_o fun _ => za_K
theorem hh_callS {k n t : Nat} : zz_H P (zi_callS k n t) := fun _ _ _ _ _ _ => za_b (za_o fun _ => za_J)
theorem hh_callV {ci k n t : Nat} : zz_H P (zi_callV ci k n t) := fun _ _ _ _ _ _ => za_b (za_o fun _ => za_pR fun _ _ => za_ob fun _ => za_o fun _ => za_J)
theorem hh_iret : zz_H zPI zi_iret := fun J C K ls st m => by
  unfold zi_iret
  split
  · intro r h; cases h; exact Or.inr (Or.inr ⟨_, rfl⟩)
  · exact za_n
theorem hh_lret : zz_H zPL zi_lret := fun J C K ls st m => by
  unfold zi_lret
  split
  · intro r h; cases h; exact Or.inr (Or.inr ⟨_, rfl⟩)
  · exact za_n
end ZH
def zz_HB (P : Option Value → Prop) : zz_B → Prop
  | [] => True
  | (_, i) :: r => zz_H P i ∧ zz_HB P r
def zz_HC (P : Option Value → Prop) : List zz_B → Prop
  | [] => True
  | b :: r => zz_HB P b ∧ zz_HC P r
theorem zz_HC_at {P : Option Value → Prop} : ∀ {code : List zz_B} (t : Nat), zz_HC P code → zz_HB P (code.getD t [])
  | [], _, _ => trivial
  | _ :: _, 0, h => h.1
  | b :: r, t + 1, h => by
    have e : (b :: r).getD (t + 1) [] = r.getD t [] := by simp
    rw [e]
    exact zz_HC_at t h.2
theorem zz_HB_run {P : Option Value → Prop} {J : zz_J} {C : zz_C} : ∀ {b : zz_B}, zz_HB P b → ∀ {ls st m r}, zz_run J C b ls st m = some r → (∃ t ls st m, J t ls st m = some r) ∨ P r.1
  | [], _, _, _, _, _, h => by cases h
  | (_, i) :: b, hb, ls, st, m, r, h => by
    rcases hb.1 J C (zz_run J C b) ls st m r h with h1 | ⟨a, c, e, h1⟩ | h1
    · exact Or.inl h1
    · exact zz_HB_run hb.2 h1
    · exact Or.inr h1
theorem zz_HC_E {P : Option Value → Prop} {C : zz_C} {code : List zz_B} (hc : zz_HC P code) : ∀ n {t ls st m r}, zz_E C code n t ls st m = some r → P r.1
  | 0, _, _, _, _, _, h => by cases h
  | n + 1, t, ls, st, m, r, h => by
    rcases zz_HB_run (zz_HC_at t hc) h with ⟨a, b, c, e, h1⟩ | h1
    · exact zz_HC_E hc n h1
    · exact h1
theorem zz_kd {P : Option Value → Prop} {k d : Nat} {as : List Value} {m : zz_M} {q : zz_Mt} {tb : List zz_B} {r : zz_R} (hq : zz_mt[k]? = some q) (hc : zz_codes[k]? = some tb) (hp : zz_HC P tb) (h : zz_call_ d k as m = some r) : P r.1 := by
  cases d with
  | zero => cases h
  | succ d =>
    have h : zz_D zz_mt zz_codes (d + 1) k as m = some r := h
    unfold zz_D at h
    rw [hq, o_some, hc, o_some] at h
    obtain ⟨_, h1⟩ := zz_b_some h
    obtain ⟨r1, h2, h3⟩ := zz_o_some h1
    obtain ⟨_, h4⟩ := zz_b_some h3
    cases h4
    obtain ⟨n, hn⟩ := zz_X_some h2
    have := zz_HC_E hp n hn
    exact this
set_option maxRecDepth 20000 in
theorem hc_95 : zz_HC zPI tb_95 := ⟨⟨hh_aload, hh_getR, hh_iload, hh_callV, trivial⟩, ⟨hh_zeq, hh_iload, hh_push, hh_cle, hh_jump, trivial⟩, ⟨hh_push, hh_iret, trivial⟩, ⟨hh_iload, hh_zge, hh_aload, hh_push, hh_callV, trivial⟩, ⟨hh_iret, trivial⟩, ⟨hh_aload, hh_getR, hh_iload, hh_iload, hh_push, hh_callV, trivial⟩, ⟨hh_iload, hh_iret, trivial⟩, trivial⟩
set_option maxRecDepth 20000 in
theorem hc_96 : zz_HC zPI tb_96 := ⟨⟨hh_aload, hh_aload, hh_getR, hh_iload, hh_iload, hh_callV, trivial⟩, ⟨hh_istore, hh_iload, hh_zeq, hh_iload, hh_iret, trivial⟩, ⟨hh_aload, hh_aload, hh_getR, hh_iload, hh_iload, hh_iload, hh_callV, trivial⟩, ⟨hh_putI, hh_push, hh_iret, trivial⟩, trivial⟩
set_option maxRecDepth 20000 in
theorem hc_97 : zz_HC zPI tb_97 := ⟨⟨hh_aload, hh_aload, hh_getR, hh_iload, hh_iload, hh_callV, trivial⟩, ⟨hh_istore, hh_iload, hh_zeq, hh_iload, hh_iret, trivial⟩, ⟨hh_aload, hh_aload, hh_getR, hh_iload, hh_iload, hh_callV, trivial⟩, ⟨hh_putI, hh_push, hh_iret, trivial⟩, trivial⟩
set_option maxRecDepth 20000 in
theorem hc_98 : zz_HC zPI tb_98 := ⟨⟨hh_aload, hh_aload, hh_getR, hh_iload, hh_callV, trivial⟩, ⟨hh_istore, hh_iload, hh_zeq, hh_iload, hh_iret, trivial⟩, ⟨hh_aload, hh_getR, hh_iload, hh_callV, trivial⟩, ⟨hh_push, hh_iret, trivial⟩, trivial⟩
set_option maxRecDepth 20000 in
theorem hc_99 : zz_HC zPI tb_99 := ⟨⟨hh_aload, hh_getR, hh_iload, hh_callV, trivial⟩, ⟨hh_zeq, hh_aload, hh_getR, hh_iload, hh_callV, trivial⟩, ⟨hh_zne, hh_jump, trivial⟩, ⟨hh_push, hh_iret, trivial⟩, ⟨hh_iload, hh_zge, hh_aload, hh_push, hh_callV, trivial⟩, ⟨hh_iret, trivial⟩, ⟨hh_aload, hh_getR, hh_iload, hh_callV, trivial⟩, ⟨hh_zeq, hh_aload, hh_getR, hh_iload, hh_callV, trivial⟩, ⟨hh_zne, hh_jump, trivial⟩, ⟨hh_aload, hh_push, hh_callV, trivial⟩, ⟨hh_iret, trivial⟩, ⟨hh_aload, hh_getR, hh_iload, hh_iload, hh_iload, hh_callV, trivial⟩, ⟨hh_zeq, hh_aload, hh_getR, hh_iload, hh_iload, hh_iload, hh_callV, trivial⟩, ⟨hh_zne, hh_jump, trivial⟩, ⟨hh_aload, hh_push, hh_callV, trivial⟩, ⟨hh_iret, trivial⟩, ⟨hh_aload, hh_getR, hh_iload, hh_iload, hh_iload, hh_iload, hh_iload, hh_callV, trivial⟩, ⟨hh_push, hh_iret, trivial⟩, trivial⟩
set_option maxRecDepth 20000 in
theorem hc_100 : zz_HC zPI tb_100 := ⟨⟨hh_aload, hh_aload, hh_getR, hh_iload, hh_callV, trivial⟩, ⟨hh_istore, hh_iload, hh_zeq, hh_iload, hh_iret, trivial⟩, ⟨hh_aload, hh_getR, hh_iload, hh_callV, trivial⟩, ⟨hh_istore, hh_iload, hh_zgt, hh_aload, hh_push, hh_callV, trivial⟩, ⟨hh_iret, trivial⟩, ⟨hh_aload, hh_aload, hh_getR, hh_iload, hh_callV, trivial⟩, ⟨hh_iload, hh_i2l, hh_ldiv, hh_l2i, hh_putI, hh_push, hh_iret, trivial⟩, trivial⟩
set_option maxRecDepth 20000 in
theorem hc_101 : zz_HC zPI tb_101 := ⟨⟨hh_aload, hh_getR, hh_iload, hh_callV, trivial⟩, ⟨hh_zeq, hh_iload, hh_push, hh_cle, hh_jump, trivial⟩, ⟨hh_push, hh_iret, trivial⟩, ⟨hh_iload, hh_zge, hh_aload, hh_push, hh_callV, trivial⟩, ⟨hh_iret, trivial⟩, ⟨hh_aload, hh_getR, hh_iload, hh_iload, hh_push, hh_callV, trivial⟩, ⟨hh_iload, hh_iret, trivial⟩, trivial⟩
set_option maxRecDepth 20000 in
theorem hc_102 : zz_HC zPI tb_102 := ⟨⟨hh_aload, hh_aload, hh_getR, hh_iload, hh_iload, hh_callV, trivial⟩, ⟨hh_istore, hh_iload, hh_zeq, hh_iload, hh_iret, trivial⟩, ⟨hh_aload, hh_getR, hh_iload, hh_iload, hh_iload, hh_iun, hh_callV, trivial⟩, ⟨hh_push, hh_ibin, hh_iret, trivial⟩, trivial⟩
set_option maxRecDepth 20000 in
theorem hc_103 : zz_HC zPI tb_103 := ⟨⟨hh_aload, hh_aload, hh_getR, hh_iload, hh_callV, trivial⟩, ⟨hh_istore, hh_iload, hh_zeq, hh_iload, hh_iret, trivial⟩, ⟨hh_aload, hh_getR, hh_aload, hh_getR, hh_iload, hh_callV, trivial⟩, ⟨hh_iret, trivial⟩, trivial⟩
set_option maxRecDepth 20000 in
theorem hc_104 : zz_HC zPI tb_104 := ⟨⟨hh_aload, hh_aload, hh_getR, hh_iload, hh_callV, trivial⟩, ⟨hh_istore, hh_iload, hh_zeq, hh_iload, hh_iret, trivial⟩, ⟨hh_aload, hh_getR, hh_aload, hh_getR, hh_iload, hh_callV, trivial⟩, ⟨hh_push, hh_ceq, hh_push, hh_iret, trivial⟩, ⟨hh_aload, hh_getR, hh_aload, hh_getR, hh_callV, trivial⟩, ⟨hh_aload, hh_getR, hh_getI, hh_iret, trivial⟩, trivial⟩
set_option maxRecDepth 20000 in
theorem hc_105 : zz_HC zPI tb_105 := ⟨⟨hh_aload, hh_getR, hh_iload, hh_callV, trivial⟩, ⟨hh_zeq, hh_iload, hh_zlt, hh_iload, hh_push, hh_cle, hh_jump, trivial⟩, ⟨hh_push, hh_iret, trivial⟩, ⟨hh_aload, hh_aload, hh_getR, hh_iload, hh_iload, hh_callV, trivial⟩, ⟨hh_putI, hh_push, hh_iret, trivial⟩, trivial⟩
set_option maxRecDepth 20000 in
theorem hc_106 : zz_HC zPI tb_106 := ⟨⟨hh_aload, hh_getR, hh_iload, hh_callV, trivial⟩, ⟨hh_zeq, hh_iload, hh_push, hh_clt, hh_iload, hh_push, hh_clt, hh_jump, trivial⟩, ⟨hh_push, hh_iret, trivial⟩, ⟨hh_aload, hh_getR, hh_iload, hh_iload, hh_callV, trivial⟩, ⟨hh_zne, hh_aload, hh_push, hh_callV, trivial⟩, ⟨hh_iret, trivial⟩, ⟨hh_iload, hh_tab, trivial⟩, ⟨hh_aload, hh_getR, hh_iload, hh_callV, trivial⟩, ⟨hh_iret, trivial⟩, ⟨hh_aload, hh_getR, hh_iload, hh_callV, trivial⟩, ⟨hh_iret, trivial⟩, ⟨hh_aload, hh_getR, hh_iload, hh_callV, trivial⟩, ⟨hh_iret, trivial⟩, ⟨hh_aload, hh_getR, hh_aload, hh_getR, hh_push, hh_push, hh_callV, trivial⟩, ⟨hh_aload, hh_getR, hh_iload, hh_callV, trivial⟩, ⟨hh_iret, trivial⟩, ⟨hh_aload, hh_getR, hh_iload, hh_callV, trivial⟩, ⟨hh_iret, trivial⟩, trivial⟩
set_option maxRecDepth 20000 in
theorem hc_107 : zz_HC zPI tb_107 := ⟨⟨hh_iload, hh_zlt, hh_iload, hh_push, hh_cle, hh_jump, trivial⟩, ⟨hh_push, hh_iret, trivial⟩, ⟨hh_aload, hh_getR, hh_getI, hh_zne, hh_push, hh_iret, trivial⟩, ⟨hh_aload, hh_getR, hh_iload, hh_callV, trivial⟩, ⟨hh_iret, trivial⟩, trivial⟩
set_option maxRecDepth 20000 in
theorem hc_108 : zz_HC zPI tb_108 := ⟨⟨hh_aload, hh_getR, hh_getI, hh_zne, hh_push, hh_iret, trivial⟩, ⟨hh_aload, hh_getR, hh_push, hh_callV, trivial⟩, ⟨hh_zne, hh_push, hh_iret, trivial⟩, ⟨hh_aload, hh_getR, hh_callV, trivial⟩, ⟨hh_aload, hh_callV, trivial⟩, ⟨hh_iret, trivial⟩, trivial⟩
set_option maxRecDepth 20000 in
theorem hc_109 : zz_HC zPI tb_109 := ⟨⟨hh_aload, hh_getR, hh_iload, hh_callV, trivial⟩, ⟨hh_zeq, hh_iload, hh_zeq, hh_iload, hh_push, hh_clt, hh_iload, hh_push, hh_cle, hh_jump, trivial⟩, ⟨hh_push, hh_iret, trivial⟩, ⟨hh_aload, hh_getR, hh_iload, hh_callV, trivial⟩, ⟨hh_zeq, hh_push, hh_iret, trivial⟩, ⟨hh_aload, hh_getR, hh_push, hh_callV, trivial⟩, ⟨hh_zne, hh_push, hh_iret, trivial⟩, ⟨hh_aload, hh_getR, hh_iload, hh_iload, hh_callV, trivial⟩, ⟨hh_aload, hh_getR, hh_iload, hh_push, hh_push, hh_callV, trivial⟩, ⟨hh_iret, trivial⟩, trivial⟩
set_option maxRecDepth 20000 in
theorem hc_110 : zz_HC zPI tb_110 := ⟨⟨hh_iload, hh_zlt, hh_iload, hh_aload, hh_getR, hh_getI, hh_cle, hh_jump, trivial⟩, ⟨hh_push, hh_iret, trivial⟩, ⟨hh_aload, hh_getR, hh_getI, hh_iload, hh_ibin, hh_istore, hh_aload, hh_getR, hh_iload, hh_callV, trivial⟩, ⟨hh_iload, hh_iret, trivial⟩, trivial⟩
set_option maxRecDepth 20000 in
theorem hc_111 : zz_HC zPI tb_111 := ⟨⟨hh_iload, hh_zlt, hh_iload, hh_push, hh_clt, hh_jump, trivial⟩, ⟨hh_push, hh_iret, trivial⟩, ⟨hh_aload, hh_getR, hh_getI, hh_zne, hh_push, hh_iret, trivial⟩, ⟨hh_aload, hh_getR, hh_iload, hh_callV, trivial⟩, ⟨hh_aload, hh_getR, hh_getI, hh_iret, trivial⟩, trivial⟩
set_option maxRecDepth 20000 in
theorem hc_112 : zz_HC zPI tb_112 := ⟨⟨hh_iload, hh_zlt, hh_iload, hh_push, hh_clt, hh_jump, trivial⟩, ⟨hh_push, hh_iret, trivial⟩, ⟨hh_aload, hh_getR, hh_iload, hh_callV, trivial⟩, ⟨hh_zge, hh_aload, hh_push, hh_callV, trivial⟩, ⟨hh_iret, trivial⟩, ⟨hh_aload, hh_getR, hh_iload, hh_callV, trivial⟩, ⟨hh_aload, hh_getR, hh_getI, hh_iret, trivial⟩, trivial⟩
set_option maxRecDepth 20000 in
theorem hc_113 : zz_HC zPI tb_113 := ⟨⟨hh_aload, hh_getR, hh_iload, hh_callV, trivial⟩, ⟨hh_zeq, hh_iload, hh_callS, trivial⟩, ⟨hh_zne, hh_jump, trivial⟩, ⟨hh_push, hh_iret, trivial⟩, ⟨hh_aload, hh_getR, hh_iload, hh_iload, hh_aload, hh_getR, hh_iload, hh_callV, trivial⟩, ⟨hh_callV, trivial⟩, ⟨hh_iret, trivial⟩, trivial⟩
set_option maxRecDepth 20000 in
theorem hc_114 : zz_HC zPI tb_114 := ⟨⟨hh_aload, hh_getR, hh_iload, hh_iload, hh_callV, trivial⟩, ⟨hh_zne, hh_push, hh_iret, trivial⟩, ⟨hh_push, hh_istore, hh_push, hh_istore, hh_jump, trivial⟩, ⟨hh_iload, hh_push, hh_cgt, hh_aload, hh_getR, hh_iload, hh_iload, hh_iload, hh_iload, hh_callV, trivial⟩, ⟨hh_zeq, hh_iload, hh_iret, trivial⟩, ⟨hh_iload, hh_aload, hh_getR, hh_iload, hh_callV, trivial⟩, ⟨hh_ibin, hh_istore, hh_iinc, hh_jump, trivial⟩, ⟨hh_push, hh_iret, trivial⟩, trivial⟩
set_option maxRecDepth 20000 in
theorem hc_115 : zz_HC zPI tb_115 := ⟨⟨hh_iload, hh_callS, trivial⟩, ⟨hh_zne, hh_push, hh_iret, trivial⟩, ⟨hh_aload, hh_getR, hh_aload, hh_getR, hh_iload, hh_aload, hh_getR, hh_iload, hh_callV, trivial⟩, ⟨hh_callV, trivial⟩, ⟨hh_aload, hh_aload, hh_getR, hh_callV, trivial⟩, ⟨hh_putI, hh_aload, hh_getR, hh_callV, trivial⟩, ⟨hh_iret, trivial⟩, trivial⟩
set_option maxRecDepth 20000 in
theorem hc_116 : zz_HC zPI tb_116 := ⟨⟨hh_push, hh_istore, hh_push, hh_istore, hh_jump, trivial⟩, ⟨hh_iload, hh_push, hh_cgt, hh_aload, hh_getR, hh_aload, hh_getR, hh_iload, hh_iload, hh_callV, trivial⟩, ⟨hh_aload, hh_getR, hh_callV, trivial⟩, ⟨hh_zeq, hh_aload, hh_aload, hh_getR, hh_callV, trivial⟩, ⟨hh_putI, hh_iload, hh_iret, trivial⟩, ⟨hh_iload, hh_aload, hh_getR, hh_iload, hh_callV, trivial⟩, ⟨hh_ibin, hh_istore, hh_iinc, hh_jump, trivial⟩, ⟨hh_push, hh_iret, trivial⟩, trivial⟩
set_option maxRecDepth 20000 in
theorem hc_117 : zz_HC zPI tb_117 := ⟨⟨hh_aload, hh_getR, hh_iload, hh_iload, hh_callV, trivial⟩, ⟨hh_zeq, hh_iload, hh_callS, trivial⟩, ⟨hh_zne, hh_jump, trivial⟩, ⟨hh_push, hh_iret, trivial⟩, ⟨hh_push, hh_istore, hh_push, hh_istore, hh_push, hh_istore, hh_jump, trivial⟩, ⟨hh_iload, hh_iload, hh_cgt, hh_aload, hh_getR, hh_iload, hh_iload, hh_iload, hh_iload, hh_callV, trivial⟩, ⟨hh_zeq, hh_iinc, hh_jump, trivial⟩, ⟨hh_iload, hh_aload, hh_getR, hh_iload, hh_callV, trivial⟩, ⟨hh_ibin, hh_istore, hh_iinc, hh_jump, trivial⟩, ⟨hh_iload, hh_iret, trivial⟩, trivial⟩
set_option maxRecDepth 20000 in
theorem hc_118 : zz_HC zPI tb_118 := ⟨⟨hh_iload, hh_callS, trivial⟩, ⟨hh_zne, hh_push, hh_iret, trivial⟩, ⟨hh_aload, hh_getR, hh_aload, hh_getR, hh_iload, hh_aload, hh_getR, hh_iload, hh_callV, trivial⟩, ⟨hh_callV, trivial⟩, ⟨hh_aload, hh_getR, hh_callV, trivial⟩, ⟨hh_callS, trivial⟩, ⟨hh_iret, trivial⟩, trivial⟩
set_option maxRecDepth 20000 in
theorem hc_119 : zz_HC zPI tb_119 := ⟨⟨hh_iload, hh_callS, trivial⟩, ⟨hh_zeq, hh_iload, hh_push, hh_clt, hh_iload, hh_push, hh_cle, hh_jump, trivial⟩, ⟨hh_push, hh_iret, trivial⟩, ⟨hh_aload, hh_getR, hh_aload, hh_getR, hh_iload, hh_aload, hh_getR, hh_iload, hh_callV, trivial⟩, ⟨hh_callV, trivial⟩, ⟨hh_push, hh_aload, hh_getR, hh_callV, trivial⟩, ⟨hh_push, hh_lbin, hh_lbin, hh_lstore, hh_push, hh_istore, hh_push, hh_istore, hh_push, hh_istore, hh_jump, trivial⟩, ⟨hh_iload, hh_zlt, hh_iload, hh_iload, hh_callS, trivial⟩, ⟨hh_lload, hh_push, hh_lbin, hh_lbin, hh_push, hh_lcmp, hh_zne, hh_iload, hh_istore, hh_iinc, hh_jump, trivial⟩, ⟨hh_iinc, hh_jump, trivial⟩, ⟨hh_aload, hh_iload, hh_putI, hh_iload, hh_iret, trivial⟩, trivial⟩
set_option maxRecDepth 20000 in
theorem hc_120 : zz_HC zPI tb_120 := ⟨⟨hh_aload, hh_getR, hh_iload, hh_callV, trivial⟩, ⟨hh_zeq, hh_iload, hh_callS, trivial⟩, ⟨hh_zeq, hh_iload, hh_callS, trivial⟩, ⟨hh_zne, hh_jump, trivial⟩, ⟨hh_push, hh_iret, trivial⟩, ⟨hh_push, hh_istore, hh_push, hh_istore, hh_push, hh_istore, hh_jump, trivial⟩, ⟨hh_iload, hh_iload, hh_cgt, hh_aload, hh_getR, hh_iload, hh_iload, hh_iload, hh_callV, trivial⟩, ⟨hh_iload, hh_cne, hh_iinc, hh_jump, trivial⟩, ⟨hh_iload, hh_aload, hh_getR, hh_iload, hh_callV, trivial⟩, ⟨hh_ibin, hh_istore, hh_iinc, hh_jump, trivial⟩, ⟨hh_iload, hh_iret, trivial⟩, trivial⟩
set_option maxRecDepth 20000 in
theorem hc_121 : zz_HC zPI tb_121 := ⟨⟨hh_iload, hh_zlt, hh_iload, hh_push, hh_cgt, hh_aload, hh_getR, hh_iload, hh_callV, trivial⟩, ⟨hh_zne, hh_jump, trivial⟩, ⟨hh_push, hh_iret, trivial⟩, ⟨hh_aload, hh_getR, hh_getI, hh_zne, hh_push, hh_iret, trivial⟩, ⟨hh_aload, hh_getR, hh_aload, hh_getR, hh_iload, hh_callV, trivial⟩, ⟨hh_aload, hh_getR, hh_push, hh_callV, trivial⟩, ⟨hh_zne, hh_push, hh_iret, trivial⟩, ⟨hh_aload, hh_getR, hh_iload, hh_aload, hh_getR, hh_getI, hh_push, hh_callV, trivial⟩, ⟨hh_push, hh_istore, hh_jump, trivial⟩, ⟨hh_iload, hh_aload, hh_getR, hh_getI, hh_cge, hh_aload, hh_getR, hh_iload, hh_iload, hh_aload, hh_getR, hh_iload, hh_callV, trivial⟩, ⟨hh_callV, trivial⟩, ⟨hh_pop, hh_iinc, hh_jump, trivial⟩, ⟨hh_aload, hh_getR, hh_callV, trivial⟩, ⟨hh_iret, trivial⟩, trivial⟩
set_option maxRecDepth 20000 in
theorem hc_122 : zz_HC zPI tb_122 := ⟨⟨hh_iload, hh_zlt, hh_iload, hh_push, hh_cle, hh_jump, trivial⟩, ⟨hh_push, hh_iret, trivial⟩, ⟨hh_aload, hh_getR, hh_getI, hh_zne, hh_push, hh_iret, trivial⟩, ⟨hh_aload, hh_getR, hh_aload, hh_getR, hh_iload, hh_callV, trivial⟩, ⟨hh_aload, hh_getR, hh_push, hh_callV, trivial⟩, ⟨hh_zne, hh_push, hh_iret, trivial⟩, ⟨hh_aload, hh_aload, hh_getR, hh_callV, trivial⟩, ⟨hh_putI, hh_aload, hh_getR, hh_callV, trivial⟩, ⟨hh_iret, trivial⟩, trivial⟩
set_option maxRecDepth 20000 in
theorem hc_123 : zz_HC zPI tb_123 := ⟨⟨hh_iload, hh_zlt, hh_iload, hh_push, hh_cle, hh_jump, trivial⟩, ⟨hh_push, hh_iret, trivial⟩, ⟨hh_aload, hh_getR, hh_aload, hh_getR, hh_iload, hh_callV, trivial⟩, ⟨hh_aload, hh_aload, hh_getR, hh_callV, trivial⟩, ⟨hh_putI, hh_aload, hh_getR, hh_callV, trivial⟩, ⟨hh_iret, trivial⟩, trivial⟩
set_option maxRecDepth 20000 in
theorem hc_124 : zz_HC zPI tb_124 := ⟨⟨hh_iload, hh_zlt, hh_iload, hh_push, hh_cle, hh_jump, trivial⟩, ⟨hh_push, hh_iret, trivial⟩, ⟨hh_aload, hh_getR, hh_aload, hh_getR, hh_iload, hh_callV, trivial⟩, ⟨hh_aload, hh_aload, hh_getR, hh_callV, trivial⟩, ⟨hh_putI, hh_aload, hh_getI, hh_callS, trivial⟩, ⟨hh_iret, trivial⟩, trivial⟩
set_option maxRecDepth 20000 in
theorem hc_125 : zz_HC zPI tb_125 := ⟨⟨hh_aload, hh_getR, hh_iload, hh_callV, trivial⟩, ⟨hh_zne, hh_push, hh_iret, trivial⟩, ⟨hh_aload, hh_getR, hh_getI, hh_zne, hh_push, hh_iret, trivial⟩, ⟨hh_aload, hh_getR, hh_iload, hh_callV, trivial⟩, ⟨hh_zne, hh_aload, hh_push, hh_callV, trivial⟩, ⟨hh_iret, trivial⟩, ⟨hh_aload, hh_getR, hh_iload, hh_callV, trivial⟩, ⟨hh_aload, hh_getR, hh_getI, hh_ceq, hh_aload, hh_push, hh_callV, trivial⟩, ⟨hh_iret, trivial⟩, ⟨hh_push, hh_istore, hh_jump, trivial⟩, ⟨hh_iload, hh_aload, hh_getR, hh_getI, hh_cge, hh_aload, hh_getR, hh_iload, hh_iload, hh_callV, trivial⟩, ⟨hh_callS, trivial⟩, ⟨hh_zne, hh_aload, hh_push, hh_callV, trivial⟩, ⟨hh_iret, trivial⟩, ⟨hh_iinc, hh_jump, trivial⟩, ⟨hh_aload, hh_iload, hh_callV, trivial⟩, ⟨hh_iret, trivial⟩, trivial⟩
set_option maxRecDepth 20000 in
theorem hc_126 : zz_HC zPI tb_126 := ⟨⟨hh_aload, hh_iload, hh_iload, hh_callV, trivial⟩, ⟨hh_istore, hh_iload, hh_zeq, hh_iload, hh_iret, trivial⟩, ⟨hh_push, hh_istore, hh_push, hh_istore, hh_jump, trivial⟩, ⟨hh_iload, hh_push, hh_cge, hh_aload, hh_iload, hh_aload, hh_getR, hh_iload, hh_push, hh_push, hh_callV, trivial⟩, ⟨hh_aload, hh_getR, hh_iload, hh_callV, trivial⟩, ⟨hh_iload, hh_push, hh_ibin, hh_callV, trivial⟩, ⟨hh_zeq, hh_iload, hh_push, hh_iload, hh_ibin, hh_ibin, hh_istore, hh_jump, trivial⟩, ⟨hh_iinc, hh_jump, trivial⟩, ⟨hh_iload, hh_iret, trivial⟩, trivial⟩
set_option maxRecDepth 20000 in
theorem hc_127 : zz_HC zPI tb_127 := ⟨⟨hh_aload, hh_iload, hh_iload, hh_callV, trivial⟩, ⟨hh_istore, hh_iload, hh_zeq, hh_iload, hh_iret, trivial⟩, ⟨hh_push, hh_istore, hh_push, hh_istore, hh_jump, trivial⟩, ⟨hh_iload, hh_push, hh_cge, hh_aload, hh_iload, hh_aload, hh_getR, hh_iload, hh_push, hh_push, hh_callV, trivial⟩, ⟨hh_iload, hh_aload, hh_getR, hh_iload, hh_callV, trivial⟩, ⟨hh_callV, trivial⟩, ⟨hh_zeq, hh_iload, hh_push, hh_iload, hh_ibin, hh_ibin, hh_istore, hh_jump, trivial⟩, ⟨hh_iinc, hh_jump, trivial⟩, ⟨hh_iload, hh_iret, trivial⟩, trivial⟩
set_option maxRecDepth 20000 in
theorem hc_128 : zz_HC zPI tb_128 := ⟨⟨hh_aload, hh_iload, hh_iload, hh_callV, trivial⟩, ⟨hh_istore, hh_iload, hh_zeq, hh_iload, hh_iret, trivial⟩, ⟨hh_push, hh_istore, hh_push, hh_istore, hh_push, hh_istore, hh_jump, trivial⟩, ⟨hh_iload, hh_zlt, hh_aload, hh_iload, hh_iload, hh_aload, hh_getR, hh_iload, hh_callV, trivial⟩, ⟨hh_aload, hh_getR, hh_iload, hh_callV, trivial⟩, ⟨hh_callV, trivial⟩, ⟨hh_zeq, hh_iload, hh_istore, hh_iinc, hh_jump, trivial⟩, ⟨hh_iinc, hh_jump, trivial⟩, ⟨hh_aload, hh_iload, hh_putI, hh_iload, hh_iret, trivial⟩, trivial⟩
set_option maxRecDepth 20000 in
theorem hc_129 : zz_HC zPI tb_129 := ⟨⟨hh_iload, hh_zlt, hh_iload, hh_push, hh_cle, hh_jump, trivial⟩, ⟨hh_push, hh_iret, trivial⟩, ⟨hh_aload, hh_getR, hh_getI, hh_zne, hh_push, hh_iret, trivial⟩, ⟨hh_aload, hh_getR, hh_aload, hh_getR, hh_iload, hh_callV, trivial⟩, ⟨hh_zeq, hh_push, hh_jump, trivial⟩, ⟨hh_push, hh_jump, trivial⟩, ⟨hh_iret, trivial⟩, trivial⟩
set_option maxRecDepth 20000 in
theorem hc_130 : zz_HC zPI tb_130 := ⟨⟨hh_iload, hh_push, hh_clt, hh_iload, hh_push, hh_cle, hh_jump, trivial⟩, ⟨hh_push, hh_iret, trivial⟩, ⟨hh_aload, hh_getR, hh_getI, hh_zne, hh_push, hh_iret, trivial⟩, ⟨hh_aload, hh_getR, hh_aload, hh_getR, hh_iload, hh_callV, trivial⟩, ⟨hh_iret, trivial⟩, trivial⟩
set_option maxRecDepth 20000 in
theorem hc_131 : zz_HC zPI tb_131 := ⟨⟨hh_aload, hh_getR, hh_iload, hh_iload, hh_callV, trivial⟩, ⟨hh_zeq, hh_iload, hh_zlt, hh_iload, hh_push, hh_cgt, hh_iload, hh_callS, trivial⟩, ⟨hh_zne, hh_jump, trivial⟩, ⟨hh_push, hh_iret, trivial⟩, ⟨hh_aload, hh_getR, hh_aload, hh_getR, hh_iload, hh_iload, hh_iload, hh_iload, hh_callV, trivial⟩, ⟨hh_push, hh_iret, trivial⟩, trivial⟩
set_option maxRecDepth 20000 in
theorem hc_132 : zz_HC zPI tb_132 := ⟨⟨hh_aload, hh_getR, hh_iload, hh_callV, trivial⟩, ⟨hh_zeq, hh_iload, hh_zlt, hh_iload, hh_push, hh_cgt, hh_iload, hh_callS, trivial⟩, ⟨hh_zne, hh_jump, trivial⟩, ⟨hh_push, hh_iret, trivial⟩, ⟨hh_aload, hh_getR, hh_aload, hh_getR, hh_iload, hh_callV, trivial⟩, ⟨hh_push, hh_cne, hh_push, hh_jump, trivial⟩, ⟨hh_iload, hh_i2l, hh_iload, hh_i2l, hh_lbin, hh_jump, trivial⟩, ⟨hh_push, hh_callV, trivial⟩, ⟨hh_push, hh_iret, trivial⟩, trivial⟩
set_option maxRecDepth 20000 in
theorem hc_133 : zz_HC zPI tb_133 := ⟨⟨hh_iload, hh_push, hh_clt, hh_iload, hh_push, hh_cgt, hh_iload, hh_push, hh_clt, hh_iload, hh_push, hh_cle, hh_jump, trivial⟩, ⟨hh_push, hh_iret, trivial⟩, ⟨hh_aload, hh_getR, hh_getI, hh_zne, hh_push, hh_iret, trivial⟩, ⟨hh_aload, hh_getR, hh_push, hh_iload, hh_ibin, hh_callV, trivial⟩, ⟨hh_zne, hh_push, hh_iret, trivial⟩, ⟨hh_iload, hh_i2l, hh_lstore, hh_push, hh_istore, hh_jump, trivial⟩, ⟨hh_iload, hh_iload, hh_cge, hh_lload, hh_push, hh_lbin, hh_push, hh_ldiv, hh_lstore, hh_jump, trivial⟩, ⟨hh_aload, hh_getR, hh_lload, hh_callV, trivial⟩, ⟨hh_aload, hh_getR, hh_callV, trivial⟩, ⟨hh_iinc, hh_jump, trivial⟩, ⟨hh_aload, hh_callV, trivial⟩, ⟨hh_iret, trivial⟩, trivial⟩
set_option maxRecDepth 20000 in
theorem hc_134 : zz_HC zPI tb_134 := ⟨⟨hh_aload, hh_getI, hh_iret, trivial⟩, trivial⟩
set_option maxRecDepth 20000 in
theorem hc_135 : zz_HC zPL tb_135 := ⟨⟨hh_aload, hh_getR, hh_getL, hh_lret, trivial⟩, trivial⟩
set_option maxRecDepth 20000 in
theorem hc_136 : zz_HC zPL tb_136 := ⟨⟨hh_aload, hh_getR, hh_getL, hh_lret, trivial⟩, trivial⟩
set_option maxRecDepth 20000 in
theorem hc_137 : zz_HC zPI tb_137 := ⟨⟨hh_iload, hh_zlt, hh_iload, hh_push, hh_cle, hh_jump, trivial⟩, ⟨hh_push, hh_iret, trivial⟩, ⟨hh_aload, hh_iload, hh_callV, trivial⟩, ⟨hh_iret, trivial⟩, trivial⟩
set_option maxRecDepth 20000 in
theorem hc_138 : zz_HC zPI tb_138 := ⟨⟨hh_aload, hh_getI, hh_iret, trivial⟩, trivial⟩
set_option maxRecDepth 20000 in
theorem hc_139 : zz_HC zPI tb_139 := ⟨⟨hh_iload, hh_push, hh_clt, hh_iload, hh_push, hh_cle, hh_jump, trivial⟩, ⟨hh_push, hh_iret, trivial⟩, ⟨hh_aload, hh_getR, hh_iload, hh_iald, hh_iret, trivial⟩, trivial⟩
set_option maxRecDepth 20000 in
theorem hc_140 : zz_HC zPL tb_140 := ⟨⟨hh_push, hh_lstore, hh_push, hh_istore, hh_jump, trivial⟩, ⟨hh_iload, hh_push, hh_cgt, hh_push, hh_lload, hh_lbin, hh_aload, hh_iload, hh_callV, trivial⟩, ⟨hh_i2l, hh_lbin, hh_lstore, hh_iinc, hh_jump, trivial⟩, ⟨hh_push, hh_istore, hh_jump, trivial⟩, ⟨hh_iload, hh_aload, hh_getR, hh_getI, hh_cge, hh_push, hh_istore, hh_jump, trivial⟩, ⟨hh_iload, hh_push, hh_cgt, hh_push, hh_lload, hh_lbin, hh_aload, hh_getR, hh_iload, hh_iload, hh_callV, trivial⟩, ⟨hh_i2l, hh_lbin, hh_lstore, hh_iinc, hh_jump, trivial⟩, ⟨hh_iinc, hh_jump, trivial⟩, ⟨hh_push, hh_istore, hh_jump, trivial⟩, ⟨hh_iload, hh_push, hh_cge, hh_push, hh_lload, hh_lbin, hh_aload, hh_getR, hh_iload, hh_callV, trivial⟩, ⟨hh_i2l, hh_lbin, hh_lstore, hh_iinc, hh_jump, trivial⟩, ⟨hh_aload, hh_getR, hh_aload, hh_getR, hh_lload, hh_callV, trivial⟩, ⟨hh_callV, trivial⟩, ⟨hh_lret, trivial⟩, trivial⟩

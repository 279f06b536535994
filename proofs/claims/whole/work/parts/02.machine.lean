/-! THE SMALL MACHINE: a pure machine that runs the decoded code over an abstract memory. A memory: the arrays that nobody writes (length, contents), the cells' shapes (kind, length, references), their ints, their longs, the room that is left. Kinds: 0 int[], 1 long[], 2 boolean[], 3 int[][], 4 + i an object of class i. A reference below 1000 is a cell's number, from 1000 on an array that nobody writes. -/
abbrev zz_S : Type := Nat × Nat × List (Option Nat)
abbrev zz_M : Type := (Nat → Nat × (Nat → Int32)) × List zz_S × (Nat → Nat → Int32) × (Nat → Nat → Int64) × Nat × Nat
abbrev zz_L : Type := List (Option Value)
abbrev zz_R : Type := Option Value × zz_M
abbrev zz_K : Type := zz_L → List Value → zz_M → Option zz_R
abbrev zz_C : Type := Nat → List Value → zz_M → Option zz_R
abbrev zz_J : Type := Nat → zz_K
abbrev zz_I : Type := zz_J → zz_C → zz_K → zz_K
-- memory
def zz_rI (M : Nat → Nat → Int32) (a : Nat) (f : Nat → Int32) : Nat → Nat → Int32 := fun b => if b = a then f else M b
def zz_rL (M : Nat → Nat → Int64) (a : Nat) (f : Nat → Int64) : Nat → Nat → Int64 := fun b => if b = a then f else M b
def zz_wI (M : Nat → Nat → Int32) (a k : Nat) (v : Int32) : Nat → Nat → Int32 := zz_rI M a (upd (M a) k v)
def zz_wL (M : Nat → Nat → Int64) (a k : Nat) (v : Int64) : Nat → Nat → Int64 := zz_rL M a (vp_updL (M a) k v)
/-- an index, if it is within -/
def zz_ix (i : Int32) (n : Nat) : Option Nat := if i < 0 ∨ n ≤ i.toNatClampNeg then none else some i.toNatClampNeg
-- pieces of which the instructions are made
def zz_pI (st : List Value) (f : Int32 → List Value → Option zz_R) : Option zz_R := match st with
  | .int x :: r => f x r
  | _ => none
def zz_pL (st : List Value) (f : Int64 → List Value → Option zz_R) : Option zz_R := match st with
  | .long x :: r => f x r
  | _ => none
def zz_pR (st : List Value) (f : Nat → List Value → Option zz_R) : Option zz_R := match st with
  | .ref x :: r => f x r
  | _ => none
def zz_sh (m : zz_M) (a : Nat) (f : zz_S → Option zz_R) : Option zz_R := match m.2.1[a]? with
  | some s => f s
  | none => none
def zz_ob (m : zz_M) (a kd : Nat) (f : zz_S → Option zz_R) : Option zz_R := zz_sh m a fun s => match Nat.beq s.1 kd with
  | true => f s
  | false => none
def zz_b (b : Bool) (x : Option zz_R) : Option zz_R := match b with
  | true => x
  | false => none
def zz_o {α : Type} (o : Option α) (f : α → Option zz_R) : Option zz_R := match o with
  | some a => f a
  | none => none
-- locals
def zz_kill (o : Option Value) : Option Value := match o with
  | some (.long _) => none
  | some (.double _) => none
  | o => o
def zz_s1 : zz_L → Nat → Value → zz_L
  | [], _, _ => []
  | _ :: r, 0, v => some v :: r
  | o :: r, 1, v => zz_kill o :: zz_s1 r 0 v
  | o :: r, i + 2, v => o :: zz_s1 r (i + 1) v
def zz_s2 : zz_L → Nat → Value → zz_L
  | [], _, _ => []
  | [o], _, _ => [o]
  | _ :: _ :: r, 0, v => some v :: none :: r
  | o :: p :: r, 1, v => zz_kill o :: zz_s2 (p :: r) 0 v
  | o :: p :: r, i + 2, v => o :: zz_s2 (p :: r) (i + 1) v
def zz_ar : List Value → zz_L
  | [] => []
  | .long x :: r => some (.long x) :: none :: zz_ar r
  | .double x :: r => some (.double x) :: none :: zz_ar r
  | v :: r => some v :: zz_ar r
def zz_l0 (as : List Value) (n : Nat) : zz_L := zz_ar as ++ List.replicate (n - (zz_ar as).length) none
-- the instructions
def zi_push (v : Value) : zz_I := fun _ _ K ls st m => K ls (v :: st) m
def zi_iload (i : Nat) : zz_I := fun _ _ K ls st m => zz_o ls[i]? fun o => zz_o o fun v => zz_pI [v] fun x _ => K ls (.int x :: st) m
def zi_lload (i : Nat) : zz_I := fun _ _ K ls st m => zz_o ls[i]? fun o => zz_o o fun v => zz_pL [v] fun x _ => K ls (.long x :: st) m
def zi_aload (i : Nat) : zz_I := fun _ _ K ls st m => zz_o ls[i]? fun o => zz_o o fun v => zz_pR [v] fun x _ => K ls (.ref x :: st) m
def zi_istore (i : Nat) : zz_I := fun _ _ K ls st m => zz_pI st fun x st => zz_b (Nat.blt i ls.length) (K (zz_s1 ls i (.int x)) st m)
def zi_lstore (i : Nat) : zz_I := fun _ _ K ls st m => zz_pL st fun x st => zz_b (Nat.blt (i + 1) ls.length) (K (zz_s2 ls i (.long x)) st m)
def zi_astore (i : Nat) : zz_I := fun _ _ K ls st m => zz_pR st fun x st => zz_b (Nat.blt i ls.length) (K (zz_s1 ls i (.ref x)) st m)
def zi_iinc (i : Nat) (n : Int32) : zz_I := fun _ _ K ls st m => zz_o ls[i]? fun o => zz_o o fun v => zz_pI [v] fun x _ => zz_b (Nat.blt i ls.length) (K (zz_s1 ls i (.int (x + n))) st m)
def zi_dup : zz_I := fun _ _ K ls st m => match st with
  | .int x :: r => K ls (.int x :: .int x :: r) m
  | .ref x :: r => K ls (.ref x :: .ref x :: r) m
  | _ => none
def zi_dup2 : zz_I := fun _ _ K ls st m => match st with
  | .int y :: .int x :: r => K ls (.int y :: .int x :: .int y :: .int x :: r) m
  | .int y :: .ref x :: r => K ls (.int y :: .ref x :: .int y :: .ref x :: r) m
  | _ => none
def zi_pop : zz_I := fun _ _ K ls st m => zz_pI st fun _ st => K ls st m
def zi_ibin (f : Int32 → Int32 → Int32) : zz_I := fun _ _ K ls st m => zz_pI st fun y st => zz_pI st fun x st => K ls (.int (f x y) :: st) m
def zi_idiv (f : Int32 → Int32 → Int32) : zz_I := fun _ _ K ls st m => zz_pI st fun y st => zz_pI st fun x st => if y = 0 then none else K ls (.int (f x y) :: st) m
def zi_iun (f : Int32 → Int32) : zz_I := fun _ _ K ls st m => zz_pI st fun x st => K ls (.int (f x) :: st) m
def zi_lbin (f : Int64 → Int64 → Int64) : zz_I := fun _ _ K ls st m => zz_pL st fun y st => zz_pL st fun x st => K ls (.long (f x y) :: st) m
def zi_ldiv (f : Int64 → Int64 → Int64) : zz_I := fun _ _ K ls st m => zz_pL st fun y st => zz_pL st fun x st => if y = 0 then none else K ls (.long (f x y) :: st) m
def zi_lsh (f : Int64 → Int32 → Int64) : zz_I := fun _ _ K ls st m => zz_pI st fun y st => zz_pL st fun x st => K ls (.long (f x y) :: st) m
def zi_lcmp : zz_I := fun _ _ K ls st m => zz_pL st fun y st => zz_pL st fun x st => K ls (.int (lg_cmp x y) :: st) m
def zi_i2l : zz_I := fun _ _ K ls st m => zz_pI st fun x st => K ls (.long x.toInt64 :: st) m
def zi_l2i : zz_I := fun _ _ K ls st m => zz_pL st fun x st => K ls (.int x.toInt32 :: st) m
-- jumps
def zi_jump (t : Nat) : zz_I := fun J _ _ ls st m => J t ls st m
def zi_ceq (t : Nat) : zz_I := fun J _ K ls st m => zz_pI st fun y st => zz_pI st fun x st => if x = y then J t ls st m else K ls st m
def zi_cne (t : Nat) : zz_I := fun J _ K ls st m => zz_pI st fun y st => zz_pI st fun x st => if x = y then K ls st m else J t ls st m
def zi_clt (t : Nat) : zz_I := fun J _ K ls st m => zz_pI st fun y st => zz_pI st fun x st => if x < y then J t ls st m else K ls st m
def zi_cge (t : Nat) : zz_I := fun J _ K ls st m => zz_pI st fun y st => zz_pI st fun x st => if y ≤ x then J t ls st m else K ls st m
def zi_cgt (t : Nat) : zz_I := fun J _ K ls st m => zz_pI st fun y st => zz_pI st fun x st => if y < x then J t ls st m else K ls st m
def zi_cle (t : Nat) : zz_I := fun J _ K ls st m => zz_pI st fun y st => zz_pI st fun x st => if x ≤ y then J t ls st m else K ls st m
def zi_zeq (t : Nat) : zz_I := fun J _ K ls st m => zz_pI st fun x st => if x = 0 then J t ls st m else K ls st m
def zi_zne (t : Nat) : zz_I := fun J _ K ls st m => zz_pI st fun x st => if x = 0 then K ls st m else J t ls st m
def zi_zlt (t : Nat) : zz_I := fun J _ K ls st m => zz_pI st fun x st => if x < 0 then J t ls st m else K ls st m
def zi_zge (t : Nat) : zz_I := fun J _ K ls st m => zz_pI st fun x st => if 0 ≤ x then J t ls st m else K ls st m
def zi_zgt (t : Nat) : zz_I := fun J _ K ls st m => zz_pI st fun x st => if 0 < x then J t ls st m else K ls st m
def zi_zle (t : Nat) : zz_I := fun J _ K ls st m => zz_pI st fun x st => if x ≤ 0 then J t ls st m else K ls st m
/-- a table that begins at lo: its places, and where all else goes -/
def zi_tab (lo : Int) (ts : List Nat) (d : Nat) : zz_I := fun J _ _ ls st m => zz_pI st fun x st => if x.toInt < lo then J d ls st m else match ts[(x.toInt - lo).toNat]? with
  | some t => J t ls st m
  | none => J d ls st m
-- fields
def zi_getI (ci k : Nat) : zz_I := fun _ _ K ls st m => zz_pR st fun a st => zz_ob m a (ci + 4) fun s => zz_b (Nat.blt k s.2.1) (K ls (.int (m.2.2.1 a k) :: st) m)
def zi_getL (ci k : Nat) : zz_I := fun _ _ K ls st m => zz_pR st fun a st => zz_ob m a (ci + 4) fun s => zz_b (Nat.blt k s.2.1) (K ls (.long (m.2.2.2.1 a k) :: st) m)
def zi_getR (ci k : Nat) : zz_I := fun _ _ K ls st m => zz_pR st fun a st => zz_ob m a (ci + 4) fun s => zz_b (Nat.blt k s.2.1) (zz_o s.2.2[k]? fun o => zz_o o fun r => K ls (.ref r :: st) m)
def zi_putI (ci k : Nat) : zz_I := fun _ _ K ls st m => zz_pI st fun x st => zz_pR st fun a st => zz_ob m a (ci + 4) fun s => zz_b (Nat.blt k s.2.1) (K ls st (m.1, m.2.1, zz_wI m.2.2.1 a k x, m.2.2.2))
def zi_putZ (ci k : Nat) : zz_I := fun _ _ K ls st m => zz_pI st fun x st => zz_pR st fun a st => zz_ob m a (ci + 4) fun s => zz_b (Nat.blt k s.2.1) (if x = 0 ∨ x = 1 then K ls st (m.1, m.2.1, zz_wI m.2.2.1 a k x, m.2.2.2) else none)
def zi_putL (ci k : Nat) : zz_I := fun _ _ K ls st m => zz_pL st fun x st => zz_pR st fun a st => zz_ob m a (ci + 4) fun s => zz_b (Nat.blt k s.2.1) (K ls st (m.1, m.2.1, m.2.2.1, zz_wL m.2.2.2.1 a k x, m.2.2.2.2))
def zi_putR (ci k : Nat) : zz_I := fun _ _ K ls st m => zz_pR st fun r st => zz_pR st fun a st => zz_ob m a (ci + 4) fun s => zz_b (Nat.blt k s.2.1 && Nat.blt k s.2.2.length) (K ls st (m.1, m.2.1.set a (s.1, s.2.1, s.2.2.set k (some r)), m.2.2))
-- arrays
def zi_iald : zz_I := fun _ _ K ls st m => zz_pI st fun i st => zz_pR st fun a st => match Nat.ble 1000 a with
  | true => zz_b (Nat.blt (a - 1000) 5) (zz_o (zz_ix i (m.1 (a - 1000)).1) fun j => K ls (.int ((m.1 (a - 1000)).2 j) :: st) m)
  | false => zz_ob m a 0 fun s => zz_o (zz_ix i s.2.1) fun j => K ls (.int (m.2.2.1 a j) :: st) m
def zi_zald : zz_I := fun _ _ K ls st m => zz_pI st fun i st => zz_pR st fun a st => zz_ob m a 2 fun s => zz_o (zz_ix i s.2.1) fun j => K ls (.int (m.2.2.1 a j) :: st) m
def zi_lald : zz_I := fun _ _ K ls st m => zz_pI st fun i st => zz_pR st fun a st => zz_ob m a 1 fun s => zz_o (zz_ix i s.2.1) fun j => K ls (.long (m.2.2.2.1 a j) :: st) m
def zi_aald (t : Nat) : zz_I := fun J _ _ ls st m => zz_pI st fun i st => zz_pR st fun a st => zz_ob m a 3 fun s => zz_o (zz_ix i s.2.1) fun j => zz_o s.2.2[j]? fun o => zz_o o fun r => J t ls (.ref r :: st) m
def zi_iast : zz_I := fun _ _ K ls st m => zz_pI st fun x st => zz_pI st fun i st => zz_pR st fun a st => zz_ob m a 0 fun s => zz_o (zz_ix i s.2.1) fun j => K ls st (m.1, m.2.1, zz_wI m.2.2.1 a j x, m.2.2.2)
def zi_zast : zz_I := fun _ _ K ls st m => zz_pI st fun x st => zz_pI st fun i st => zz_pR st fun a st => zz_ob m a 2 fun s => zz_o (zz_ix i s.2.1) fun j => if x = 0 ∨ x = 1 then K ls st (m.1, m.2.1, zz_wI m.2.2.1 a j x, m.2.2.2) else none
def zi_last : zz_I := fun _ _ K ls st m => zz_pL st fun x st => zz_pI st fun i st => zz_pR st fun a st => zz_ob m a 1 fun s => zz_o (zz_ix i s.2.1) fun j => K ls st (m.1, m.2.1, m.2.2.1, zz_wL m.2.2.2.1 a j x, m.2.2.2.2)
def zi_alen : zz_I := fun _ _ K ls st m => zz_pR st fun a st => match Nat.ble 1000 a with
  | true => zz_b (Nat.blt (a - 1000) 5) (K ls (.int (Int32.ofNat (m.1 (a - 1000)).1) :: st) m)
  | false => zz_sh m a fun s => zz_b (Nat.blt s.1 4) (K ls (.int (Int32.ofNat s.2.1) :: st) m)
/-- System.arraycopy, of ints; the words that the stack holds below must be few -/
def zi_copy : zz_I := fun _ _ K ls st m => zz_pI st fun n st => zz_pI st fun dp st => zz_pR st fun b st => zz_pI st fun sp st => zz_pR st fun a st => zz_ob m a 0 fun s => zz_ob m b 0 fun u => zz_b (Nat.ble (st.map Value.category).sum 8)
  (if sp < 0 ∨ dp < 0 ∨ n < 0 ∨ s.2.1 < sp.toNatClampNeg + n.toNatClampNeg ∨ u.2.1 < dp.toNatClampNeg + n.toNatClampNeg then none else K ls st (m.1, m.2.1, zz_rI m.2.2.1 b (va_cpy (m.2.2.1 a) (m.2.2.1 b) sp.toNatClampNeg dp.toNatClampNeg n.toNatClampNeg), m.2.2.2))
-- calls: the callee's number, how many values it takes (the receiver counted), where it goes on
def zi_callS (k n t : Nat) : zz_I := fun J C _ ls st m => zz_b (Nat.ble (((st.drop n).map Value.category).sum) 8 && Nat.ble n st.length) (zz_o (C k (st.take n).reverse m) fun r => J t ls (r.1.toList ++ st.drop n) r.2)
def zi_callV (ci k n t : Nat) : zz_I := fun J C _ ls st m => zz_b (Nat.ble (((st.drop n).map Value.category).sum) 8) (zz_o st[n - 1]? fun v => zz_pR [v] fun a _ => zz_ob m a (ci + 4) fun _ => zz_o (C k (st.take n).reverse m) fun r => J t ls (r.1.toList ++ st.drop n) r.2)
-- new cells: every reference that stands anywhere must be one of before
def zz_wv (n : Nat) (v : Value) : Bool := match v with
  | .ref a => Nat.blt a n || Nat.ble 1000 a
  | _ => true
def zz_wo (n : Nat) (o : Option Nat) : Bool := match o with
  | some a => Nat.blt a n
  | none => true
def zz_wl (n : Nat) (ls : zz_L) (st : List Value) : Bool := ls.all (fun o => match o with
  | some v => zz_wv n v
  | none => true) && st.all (zz_wv n)
def zz_wf (n : Nat) (ls : zz_L) (st : List Value) (sh : List zz_S) : Bool := Nat.blt n 900 && zz_wl n ls st && sh.all (fun s => s.2.2.all (zz_wo n))
def zi_new (ci N : Nat) : zz_I := fun _ _ K ls st m => zz_b (zz_wf m.2.1.length ls st m.2.1 && Nat.ble 1 m.2.2.2.2.1 && Nat.ble N m.2.2.2.2.2)
  (K ls (.ref m.2.1.length :: st) (m.1, m.2.1 ++ [(ci + 4, N, List.replicate N none)], zz_rI m.2.2.1 m.2.1.length (fun _ => 0), zz_rL m.2.2.2.1 m.2.1.length (fun _ => 0), m.2.2.2.2.1 - 1, m.2.2.2.2.2 - N))
def zi_newa (kd : Nat) : zz_I := fun _ _ K ls st m => zz_pI st fun x st => zz_b (zz_wf m.2.1.length ls st m.2.1 && decide (¬ x < 0) && Nat.ble x.toNatClampNeg 10000 && Nat.ble 1 m.2.2.2.2.1 && Nat.ble x.toNatClampNeg m.2.2.2.2.2)
  (K ls (.ref m.2.1.length :: st) (m.1, m.2.1 ++ [(kd, x.toNatClampNeg, [])], zz_rI m.2.2.1 m.2.1.length (fun _ => 0), zz_rL m.2.2.2.1 m.2.1.length (fun _ => 0), m.2.2.2.2.1 - 1, m.2.2.2.2.2 - x.toNatClampNeg))
def zi_mna : zz_I := fun _ _ K ls st m => zz_pI st fun y st => zz_pI st fun x st => zz_b (zz_wf m.2.1.length ls st m.2.1 && decide (¬ x < 0) && decide (¬ y < 0) && Nat.ble x.toNatClampNeg 50 && Nat.ble y.toNatClampNeg 10000 && Nat.ble (1 + x.toNatClampNeg) m.2.2.2.2.1 && Nat.ble (x.toNatClampNeg + x.toNatClampNeg * y.toNatClampNeg) m.2.2.2.2.2)
  (K ls (.ref m.2.1.length :: st) (m.1, m.2.1 ++ [(3, x.toNatClampNeg, (List.range x.toNatClampNeg).map (fun i => some (m.2.1.length + 1 + i)))] ++ List.replicate x.toNatClampNeg (0, y.toNatClampNeg, []), (fun b => if m.2.1.length ≤ b then (fun _ => 0) else m.2.2.1 b), (fun b => if m.2.1.length ≤ b then (fun _ => 0) else m.2.2.2.1 b), m.2.2.2.2.1 - (1 + x.toNatClampNeg), m.2.2.2.2.2 - (x.toNatClampNeg + x.toNatClampNeg * y.toNatClampNeg)))
/-- Object's constructor -/
def zi_oinit : zz_I := fun _ _ K ls st m => zz_pR st fun _ st => zz_b (Nat.ble (st.map Value.category).sum 8) (K ls st m)
/-- a constructor: it may make cells -/
def zi_callI (k n t : Nat) : zz_I := fun J C _ ls st m => zz_b (Nat.ble (((st.drop n).map Value.category).sum) 8 && Nat.ble n st.length) (zz_o st[n - 1]? fun v => zz_pR [v] fun _ _ => zz_o (C k (st.take n).reverse m) fun r => zz_b (zz_wl m.2.1.length ls (st.drop n) && Nat.ble m.2.1.length r.2.2.1.length && Nat.ble r.2.2.1.length 1000) (J t ls (r.1.toList ++ st.drop n) r.2))
-- ends
def zi_iret : zz_I := fun _ _ _ _ st m => match st with
  | [.int x] => some (some (.int x), m)
  | _ => none
def zi_zret : zz_I := fun _ _ _ _ st m => match st with
  | [.int x] => if x = 0 ∨ x = 1 then some (some (.int x), m) else none
  | _ => none
def zi_lret : zz_I := fun _ _ _ _ st m => match st with
  | [.long x] => some (some (.long x), m)
  | _ => none
def zi_vret : zz_I := fun _ _ _ _ st m => match st with
  | [] => some (none, m)
  | _ => none
def zi_fail : zz_I := fun _ _ _ _ _ _ => none
-- a block (each instruction with its length), and a method by blocks
abbrev zz_B : Type := List (Nat × zz_I)
def zz_run (J : zz_J) (C : zz_C) : zz_B → zz_K
  | [] => fun _ _ _ => none
  | (_, i) :: r => i J C (zz_run J C r)
def zz_E (C : zz_C) (code : List zz_B) : Nat → zz_J
  | 0 => fun _ _ _ _ => none
  | n + 1 => fun t => zz_run (zz_E C code n) C (code.getD t [])

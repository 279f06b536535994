/-! the first that is so; counts; first pairs. -/
theorem fx_ge (p : Nat → Prop) [DecidablePred p] : ∀ c k, k ≤ fx p c k
  | 0, k => Nat.le_refl k
  | c + 1, k => by
    unfold fx
    split
    · exact Nat.le_refl k
    · exact Nat.le_trans (Nat.le_succ k) (fx_ge p c (k + 1))
theorem fx_le (p : Nat → Prop) [DecidablePred p] : ∀ c k, fx p c k ≤ k + c
  | 0, k => Nat.le_refl k
  | c + 1, k => by
    have := fx_le p c (k + 1)
    unfold fx
    split <;> omega
theorem fx_is {p : Nat → Prop} [DecidablePred p] : ∀ c k, fx p c k < k + c → p (fx p c k)
  | 0, k, h => absurd h (Nat.lt_irrefl k)
  | c + 1, k, h => by
    unfold fx at h ⊢
    by_cases q : p k
    · rw [if_pos q]; exact q
    · rw [if_neg q] at h ⊢; exact fx_is c (k + 1) (by omega)
theorem fx_min {p : Nat → Prop} [DecidablePred p] : ∀ c k m, k ≤ m → m < fx p c k → ¬ p m
  | 0, k, m, h1, h2 => by unfold fx at h2; omega
  | c + 1, k, m, h1, h2 => by
    unfold fx at h2
    by_cases q : p k
    · rw [if_pos q] at h2; omega
    · rw [if_neg q] at h2
      by_cases e : m = k
      · rw [e]; exact q
      · exact fx_min c (k + 1) m (by omega) h2
theorem fx_at {p : Nat → Prop} [DecidablePred p] {c k m : Nat} (h1 : k ≤ m) (h2 : p m) : fx p c k ≤ m := by
  by_cases q : m < fx p c k
  · exact absurd h2 (fx_min c k m h1 q)
  · omega
theorem fx_eq {p : Nat → Prop} [DecidablePred p] {c k : Nat} (h : p k) (hk : k < c) (hn : ∀ m, m < k → ¬ p m) : fx p c 0 = k := by
  have h1 := fx_at (c := c) (Nat.zero_le k) h
  by_cases q : fx p c 0 < k
  · exact absurd (fx_is c 0 (by omega)) (hn _ q)
  · omega
theorem cZ_mono (p : Nat → Prop) [DecidablePred p] {k : Nat} : ∀ {n : Nat}, k ≤ n → cZ p k ≤ cZ p n
  | 0, h => by rw [show k = 0 by omega]; exact Nat.le_refl _
  | n + 1, h => by
    by_cases q : k = n + 1
    · rw [q]; exact Nat.le_refl _
    · exact Nat.le_trans (cZ_mono p (by omega)) (Nat.le_add_right _ _)
theorem cZ_add (p : Nat → Prop) [DecidablePred p] (m : Nat) : ∀ n, cZ p (m + n) = cZ p m + cZ (fun k => p (m + k)) n
  | 0 => rfl
  | n + 1 => by
    show cZ p (m + n) + (if p (m + n) then 1 else 0) = cZ p m + (cZ (fun k => p (m + k)) n + if p (m + n) then 1 else 0)
    rw [cZ_add p m n]
    omega
/-- found from the front: what the first is behind k -/
def fsF (p : Nat → Prop) [DecidablePred p] (n k : Nat) : Int := if cZ p k = 0 then -9 else (fx p n 0 : Nat)
theorem fsF_0 (p : Nat → Prop) [DecidablePred p] (n : Nat) : fsF p n 0 = -9 := if_pos rfl
theorem fsF_t {p : Nat → Prop} [DecidablePred p] {n k : Nat} (hk : k < n) (h : p k) : fsF p n (k + 1) = if cZ p k = 0 then (k : Int) else fsF p n k := by
  unfold fsF
  rw [cZ_t h, if_neg (by omega)]
  by_cases q : cZ p k = 0
  · rw [if_pos q, fx_eq h hk (fun m hm hp => by have := cZ_pos.2 ⟨m, hm, hp⟩; omega)]
  · rw [if_neg q, if_neg q]
theorem fsF_f {p : Nat → Prop} [DecidablePred p] {n k : Nat} (h : ¬ p k) : fsF p n (k + 1) = fsF p n k := by
  unfold fsF
  rw [cZ_f h]
/-- found from the back: what the first is of those from k on -/
def fsB (p : Nat → Prop) [DecidablePred p] (n k : Nat) : Int := if cZ p n = cZ p k then -9 else (fx p (n - k) k : Nat)
theorem fsB_n (p : Nat → Prop) [DecidablePred p] (n : Nat) : fsB p n n = -9 := if_pos rfl
theorem fsB_0 (p : Nat → Prop) [DecidablePred p] (n : Nat) : fsB p n 0 = fsF p n n := by
  unfold fsB fsF
  by_cases q : cZ p n = 0
  · rw [if_pos q]; exact if_pos q
  · rw [if_neg q]; exact if_neg q
theorem fsB_t {p : Nat → Prop} [DecidablePred p] {n k : Nat} (hk : k < n) (h : p k) : fsB p n k = k := by
  unfold fsB
  have h1 := cZ_mono p (show k + 1 ≤ n by omega)
  rw [cZ_t h] at h1
  rw [if_neg (by omega), show n - k = (n - (k + 1)) + 1 by omega]
  unfold fx
  rw [if_pos h]
theorem fsB_f {p : Nat → Prop} [DecidablePred p] {n k : Nat} (hk : k < n) (h : ¬ p k) : fsB p n k = fsB p n (k + 1) := by
  unfold fsB
  rw [cZ_f h, show n - k = (n - (k + 1)) + 1 by omega]
  by_cases q : cZ p n = cZ p k
  · rw [if_pos q, if_pos q]
  · rw [if_neg q, if_neg q]
    show ((if p k then k else fx p (n - (k + 1)) (k + 1) : Nat) : Int) = _
    rw [if_neg h]
theorem fsF_b (p : Nat → Prop) [DecidablePred p] (n k : Nat) : -9 ≤ fsF p n k ∧ fsF p n k ≤ n := by
  have := fx_le p n 0
  unfold fsF
  split <;> omega
theorem fsB_b (p : Nat → Prop) [DecidablePred p] {n k : Nat} (hk : k ≤ n) : -9 ≤ fsB p n k ∧ fsB p n k ≤ n := by
  have := fx_le p (n - k) k
  unfold fsB
  split <;> omega
theorem lin_in {p : Nat → Nat → Prop} [∀ i j, Decidable (p i j)] {i : Nat} : ∀ {c j k : Nat}, j ≤ k → k < j + c → p i k → lin p i c j ≠ none
  | 0, j, k, h1, h2, _ => by omega
  | c + 1, j, k, h1, h2, h3 => by
    unfold lin
    by_cases q : p i j
    · rw [if_pos q]; exact fun h => by cases h
    · rw [if_neg q]
      by_cases e : k = j
      · subst e; exact absurd h3 q
      · exact lin_in (by omega) (by omega) h3
theorem lout_in {p : Nat → Nat → Prop} [∀ i j, Decidable (p i j)] {n : Nat} : ∀ {c i x k : Nat}, i + c = n → i ≤ x → x < k → k < n → p x k → lout p n c i ≠ none
  | 0, i, x, k, h1, h2, h3, h4, _ => by omega
  | c + 1, i, x, k, h1, h2, h3, h4, h5 => by
    unfold lout
    by_cases e : x = i
    · subst e
      have := lin_in (p := p) (c := n - (x + 1)) (j := x + 1) (by omega) (by omega) h5
      cases q : lin p x (n - (x + 1)) (x + 1) with
      | none => exact absurd q this
      | some v => exact fun h => by cases h
    · have := lout_in (p := p) (n := n) (c := c) (i := i + 1) (by omega) (by omega) h3 h4 h5
      cases q : lin p i (n - (i + 1)) (i + 1) with
      | none => exact this
      | some v => exact fun h => by cases h
theorem lin_c2 {p q : Nat → Nat → Prop} [∀ i j, Decidable (p i j)] [∀ i j, Decidable (q i j)] {n i : Nat} (h : ∀ j, i < j → j < n → (p i j ↔ q i j)) : ∀ c j, i < j → j + c ≤ n → lin p i c j = lin q i c j
  | 0, _, _, _ => rfl
  | c + 1, j, h1, h2 => by
    unfold lin
    have hh := h j h1 (by omega)
    by_cases e : p i j
    · rw [if_pos e, if_pos (hh.1 e)]
    · rw [if_neg e, if_neg (fun x => e (hh.2 x)), lin_c2 h c (j + 1) (by omega) (by omega)]
theorem lout_c2 {p q : Nat → Nat → Prop} [∀ i j, Decidable (p i j)] [∀ i j, Decidable (q i j)] {n : Nat} (h : ∀ i j, i < j → j < n → (p i j ↔ q i j)) : ∀ c i, i + c ≤ n → lout p n c i = lout q n c i
  | 0, _, _ => rfl
  | c + 1, i, h2 => by
    unfold lout
    rw [lin_c2 (fun j => h i j) (n - (i + 1)) (i + 1) (by omega) (by omega), lout_c2 h c (i + 1) (by omega)]
/-- the least of all pairs, and the first such -/
def sst (f : Nat → Nat → Nat) (i j : Nat) (s : Nat × Nat) : Nat × Nat := if f i j < 421 ∧ f i j < s.1 then (f i j, 6 * i + j) else s
def sin (f : Nat → Nat → Nat) (i : Nat) : Nat → Nat → Nat × Nat → Nat × Nat
  | 0, _, s => s
  | c + 1, j, s => sin f i c (j + 1) (sst f i j s)
def sout (f : Nat → Nat → Nat) (n : Nat) : Nat → Nat → Nat × Nat → Nat × Nat
  | 0, _, s => s
  | c + 1, i, s => sout f n c (i + 1) (sin f i (n - (i + 1)) (i + 1) s)
theorem sst_le (f : Nat → Nat → Nat) (i j : Nat) (s : Nat × Nat) : (sst f i j s).1 ≤ s.1 := by
  unfold sst
  split
  · rename_i h; show f i j ≤ s.1; omega
  · exact Nat.le_refl _
theorem sin_le (f : Nat → Nat → Nat) (i : Nat) : ∀ c j s, (sin f i c j s).1 ≤ s.1
  | 0, _, _ => Nat.le_refl _
  | c + 1, j, s => Nat.le_trans (sin_le f i c (j + 1) _) (sst_le f i j s)
theorem sin_3 {f : Nat → Nat → Nat} {T i : Nat} (hT4 : T < 421) : ∀ (c j : Nat) (s : Nat × Nat), (∀ k, j ≤ k → k < j + c → T ≤ f i k) → (s.1 = T → sin f i c j s = s) ∧ (T < s.1 → match lin (fun i j => f i j = T) i c j with
    | some v => sin f i c j s = (T, v)
    | none => T < (sin f i c j s).1)
  | 0, j, s, _ => ⟨fun _ => rfl, fun h => h⟩
  | c + 1, j, s, hT => by
    have ih := sin_3 hT4 c (j + 1) (sst f i j s) (fun k h1 h2 => hT k (by omega) (by omega))
    have hj := hT j (by omega) (by omega)
    have e : sin f i (c + 1) j s = sin f i c (j + 1) (sst f i j s) := rfl
    rw [e]
    constructor
    · intro h
      have es : sst f i j s = s := if_neg (by omega)
      rw [es] at ih ⊢
      exact ih.1 h
    · intro h
      unfold lin
      by_cases q : f i j = T
      · rw [if_pos q]
        have es : sst f i j s = (T, 6 * i + j) := by unfold sst; rw [if_pos (by omega), q]
        rw [es] at ih ⊢
        exact ih.1 rfl
      · rw [if_neg q]
        refine ih.2 ?_
        unfold sst
        split
        · show T < f i j; omega
        · exact h
theorem sout_3 {f : Nat → Nat → Nat} {T n : Nat} (hT4 : T < 421) (hT : ∀ i j, i < j → j < n → T ≤ f i j) : ∀ (c i : Nat) (s : Nat × Nat), i + c ≤ n → (s.1 = T → sout f n c i s = s) ∧ (T < s.1 → match lout (fun i j => f i j = T) n c i with
    | some v => sout f n c i s = (T, v)
    | none => T < (sout f n c i s).1)
  | 0, i, s, _ => ⟨fun _ => rfl, fun h => h⟩
  | c + 1, i, s, hc => by
    have h3 := sin_3 (f := f) (i := i) hT4 (n - (i + 1)) (i + 1) s (fun k h1 h2 => hT i k (by omega) (by omega))
    have ih := sout_3 hT4 hT c (i + 1) (sin f i (n - (i + 1)) (i + 1) s) (by omega)
    have e : sout f n (c + 1) i s = sout f n c (i + 1) (sin f i (n - (i + 1)) (i + 1) s) := rfl
    rw [e]
    constructor
    · intro h
      rw [h3.1 h] at ih ⊢
      exact ih.1 h
    · intro h
      have h4 := h3.2 h
      unfold lout
      cases q : lin (fun i j => f i j = T) i (n - (i + 1)) (i + 1) with
      | some v =>
        rw [q] at h4
        rw [h4] at ih ⊢
        exact ih.1 rfl
      | none =>
        rw [q] at h4
        exact ih.2 h4
theorem sin_no {f : Nat → Nat → Nat} {i : Nat} : ∀ (c j : Nat) (s : Nat × Nat), (∀ k, j ≤ k → k < j + c → ¬ f i k < 421) → sin f i c j s = s
  | 0, _, _, _ => rfl
  | c + 1, j, s, h => by
    show sin f i c (j + 1) (sst f i j s) = s
    have es : sst f i j s = s := if_neg (fun q => h j (by omega) (by omega) q.1)
    rw [es]
    exact sin_no c (j + 1) s (fun k h1 h2 => h k (by omega) (by omega))
theorem sout_no {f : Nat → Nat → Nat} {n : Nat} (h : ∀ i j, i < j → j < n → ¬ f i j < 421) : ∀ (c i : Nat) (s : Nat × Nat), i + c ≤ n → sout f n c i s = s
  | 0, _, _, _ => rfl
  | c + 1, i, s, hc => by
    show sout f n c (i + 1) (sin f i (n - (i + 1)) (i + 1) s) = s
    rw [sin_no _ _ _ (fun k h1 h2 => h i k (by omega) (by omega))]
    exact sout_no h c (i + 1) s (by omega)
theorem eqs.col {M M' : Nat → Nat → Int32} {p : Nat → Nat → Prop} (h : eqs M M' p) (c : Nat) (hp : ∀ k, p c k) : M' c = M c := funext fun k => h c k (hp k)

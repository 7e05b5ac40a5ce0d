/-! numbers of ones; the first place; sums -/
def bc (x0 : Int32) : Int32 := ((((((((x0 - (((x0 : Int32).toUInt32 >>> ((1 : Int32).toUInt32 &&& Int32.toUInt32 31)).toInt32 &&& 1431655765)) &&& 858993459) + ((((x0 - (((x0 : Int32).toUInt32 >>> ((1 : Int32).toUInt32 &&& Int32.toUInt32 31)).toInt32 &&& 1431655765)) : Int32).toUInt32 >>> ((2 : Int32).toUInt32 &&& Int32.toUInt32 31)).toInt32 &&& 858993459)) + (((((x0 - (((x0 : Int32).toUInt32 >>> ((1 : Int32).toUInt32 &&& Int32.toUInt32 31)).toInt32 &&& 1431655765)) &&& 858993459) + ((((x0 - (((x0 : Int32).toUInt32 >>> ((1 : Int32).toUInt32 &&& Int32.toUInt32 31)).toInt32 &&& 1431655765)) : Int32).toUInt32 >>> ((2 : Int32).toUInt32 &&& Int32.toUInt32 31)).toInt32 &&& 858993459)) : Int32).toUInt32 >>> ((4 : Int32).toUInt32 &&& Int32.toUInt32 31)).toInt32) &&& 252645135) + (((((((x0 - (((x0 : Int32).toUInt32 >>> ((1 : Int32).toUInt32 &&& Int32.toUInt32 31)).toInt32 &&& 1431655765)) &&& 858993459) + ((((x0 - (((x0 : Int32).toUInt32 >>> ((1 : Int32).toUInt32 &&& Int32.toUInt32 31)).toInt32 &&& 1431655765)) : Int32).toUInt32 >>> ((2 : Int32).toUInt32 &&& Int32.toUInt32 31)).toInt32 &&& 858993459)) + (((((x0 - (((x0 : Int32).toUInt32 >>> ((1 : Int32).toUInt32 &&& Int32.toUInt32 31)).toInt32 &&& 1431655765)) &&& 858993459) + ((((x0 - (((x0 : Int32).toUInt32 >>> ((1 : Int32).toUInt32 &&& Int32.toUInt32 31)).toInt32 &&& 1431655765)) : Int32).toUInt32 >>> ((2 : Int32).toUInt32 &&& Int32.toUInt32 31)).toInt32 &&& 858993459)) : Int32).toUInt32 >>> ((4 : Int32).toUInt32 &&& Int32.toUInt32 31)).toInt32) &&& 252645135) : Int32).toUInt32 >>> ((8 : Int32).toUInt32 &&& Int32.toUInt32 31)).toInt32) + ((((((((x0 - (((x0 : Int32).toUInt32 >>> ((1 : Int32).toUInt32 &&& Int32.toUInt32 31)).toInt32 &&& 1431655765)) &&& 858993459) + ((((x0 - (((x0 : Int32).toUInt32 >>> ((1 : Int32).toUInt32 &&& Int32.toUInt32 31)).toInt32 &&& 1431655765)) : Int32).toUInt32 >>> ((2 : Int32).toUInt32 &&& Int32.toUInt32 31)).toInt32 &&& 858993459)) + (((((x0 - (((x0 : Int32).toUInt32 >>> ((1 : Int32).toUInt32 &&& Int32.toUInt32 31)).toInt32 &&& 1431655765)) &&& 858993459) + ((((x0 - (((x0 : Int32).toUInt32 >>> ((1 : Int32).toUInt32 &&& Int32.toUInt32 31)).toInt32 &&& 1431655765)) : Int32).toUInt32 >>> ((2 : Int32).toUInt32 &&& Int32.toUInt32 31)).toInt32 &&& 858993459)) : Int32).toUInt32 >>> ((4 : Int32).toUInt32 &&& Int32.toUInt32 31)).toInt32) &&& 252645135) + (((((((x0 - (((x0 : Int32).toUInt32 >>> ((1 : Int32).toUInt32 &&& Int32.toUInt32 31)).toInt32 &&& 1431655765)) &&& 858993459) + ((((x0 - (((x0 : Int32).toUInt32 >>> ((1 : Int32).toUInt32 &&& Int32.toUInt32 31)).toInt32 &&& 1431655765)) : Int32).toUInt32 >>> ((2 : Int32).toUInt32 &&& Int32.toUInt32 31)).toInt32 &&& 858993459)) + (((((x0 - (((x0 : Int32).toUInt32 >>> ((1 : Int32).toUInt32 &&& Int32.toUInt32 31)).toInt32 &&& 1431655765)) &&& 858993459) + ((((x0 - (((x0 : Int32).toUInt32 >>> ((1 : Int32).toUInt32 &&& Int32.toUInt32 31)).toInt32 &&& 1431655765)) : Int32).toUInt32 >>> ((2 : Int32).toUInt32 &&& Int32.toUInt32 31)).toInt32 &&& 858993459)) : Int32).toUInt32 >>> ((4 : Int32).toUInt32 &&& Int32.toUInt32 31)).toInt32) &&& 252645135) : Int32).toUInt32 >>> ((8 : Int32).toUInt32 &&& Int32.toUInt32 31)).toInt32) : Int32).toUInt32 >>> ((16 : Int32).toUInt32 &&& Int32.toUInt32 31)).toInt32) &&& 63)
theorem bc_cnt (x : Int32) : bc x = nI (cnt x 32) := by
  sorry
/-- the first of f places from s on with p -/
def fstp (p : Nat → Bool) : Nat → Nat → Option Nat
  | _, 0 => none
  | s, f + 1 => if p s then some s else fstp p (s + 1) f
theorem fstp_some {p : Nat → Bool} : ∀ {f s k : Nat}, s ≤ k → k < s + f → p k = true → (∀ j, s ≤ j → j < k → p j = false) → fstp p s f = some k
  | 0, s, k, h1, h2, _, _ => by omega
  | f + 1, s, k, h1, h2, h3, h4 => by
    unfold fstp
    by_cases e : s = k
    · subst e
      rw [if_pos h3]
    · rw [if_neg (by rw [h4 s (Nat.le_refl _) (by omega)]; decide)]
      exact fstp_some (by omega) (by omega) h3 (fun j a b => h4 j (by omega) b)
theorem fstp_none {p : Nat → Bool} : ∀ {f s : Nat}, (∀ j, s ≤ j → j < s + f → p j = false) → fstp p s f = none
  | 0, s, _ => rfl
  | f + 1, s, h => by
    unfold fstp
    rw [if_neg (by rw [h s (Nat.le_refl _) (by omega)]; decide)]
    exact fstp_none (fun j a b => h j (by omega) (by omega))
theorem fstp_spec {p : Nat → Bool} : ∀ {f s k : Nat}, fstp p s f = some k → s ≤ k ∧ k < s + f ∧ p k = true ∧ ∀ j, s ≤ j → j < k → p j = false
  | 0, s, k, h => by cases h
  | f + 1, s, k, h => by
    unfold fstp at h
    split at h
    next hp =>
      cases h
      exact ⟨Nat.le_refl _, by omega, hp, fun j a b => by omega⟩
    next hp =>
      obtain ⟨h1, h2, h3, h4⟩ := fstp_spec h
      refine ⟨by omega, by omega, h3, fun j a b => ?_⟩
      by_cases e : j = s
      · subst e
        simpa using hp
      · exact h4 j (by omega) b
theorem fstp_spec0 {p : Nat → Bool} : ∀ {f s : Nat}, fstp p s f = none → ∀ j, s ≤ j → j < s + f → p j = false
  | 0, s, _, j, a, b => by omega
  | f + 1, s, h, j, a, b => by
    unfold fstp at h
    split at h
    next => cases h
    next hp =>
      by_cases e : j = s
      · subst e
        simpa using hp
      · exact fstp_spec0 h j (by omega) (by omega)
/-- sums of the first n -/
def sm (f : Nat → Nat) : Nat → Nat
  | 0 => 0
  | n + 1 => sm f n + f n
theorem sm_cong {f g : Nat → Nat} : ∀ {n : Nat}, (∀ i, i < n → f i = g i) → sm f n = sm g n
  | 0, _ => rfl
  | n + 1, h => by
    show sm f n + f n = sm g n + g n
    rw [sm_cong (n := n) (fun i hi => h i (by omega)), h n (by omega)]
theorem sm_add {f g : Nat → Nat} : ∀ {n : Nat}, sm (fun i => f i + g i) n = sm f n + sm g n
  | 0 => rfl
  | n + 1 => by
    show sm (fun i => f i + g i) n + (f n + g n) = sm f n + f n + (sm g n + g n)
    rw [sm_add (n := n)]
    omega
theorem sm_mul {f : Nat → Nat} {c : Nat} : ∀ {n : Nat}, sm (fun i => c * f i) n = c * sm f n
  | 0 => rfl
  | n + 1 => by
    show sm (fun i => c * f i) n + c * f n = c * (sm f n + f n)
    rw [sm_mul (n := n), Nat.mul_add]
theorem sm_le {f : Nat → Nat} {c : Nat} : ∀ {n : Nat}, (∀ i, i < n → f i ≤ c) → sm f n ≤ n * c
  | 0, _ => Nat.zero_le _
  | n + 1, h => by
    have := sm_le (n := n) (fun i hi => h i (by omega))
    have h2 := h n (by omega)
    show sm f n + f n ≤ (n + 1) * c
    rw [Nat.add_mul]
    omega
theorem cnt_sm {x : Int32} : ∀ {n : Nat}, cnt x n = sm (fun i => if tb x i then 1 else 0) n
  | 0 => rfl
  | n + 1 => by
    show cnt x n + _ = _
    rw [cnt_sm (n := n)]
    rfl
theorem cnt_ge {x : Int32} {n : Nat} (h : ∀ j, tb x j = true → j < n) : ∀ d, cnt x (n + d) = cnt x n
  | 0 => rfl
  | d + 1 => by
    show cnt x (n + d) + (if tb x (n + d) then 1 else 0) = _
    rw [cnt_ge h d, if_neg (fun z => by have := h _ z; omega)]
    rfl
theorem cnt_32 {x : Int32} {n : Nat} (hn : n ≤ 32) (h : ∀ j, tb x j = true → j < n) : cnt x 32 = cnt x n := by
  have := cnt_ge h (32 - n)
  rwa [show n + (32 - n) = 32 by omega] at this

/-! nets: who is around, who is come to in so many steps -/
def arnd (K : Nat → Int32) (s : Int32) : Nat → Int32
  | 0 => 0
  | n + 1 => if tb s n then arnd K s n ||| K n else arnd K s n
theorem tb_arnd {K : Nat → Int32} {s : Int32} {j : Nat} : ∀ {n : Nat}, tb (arnd K s n) j = true ↔ ∃ i, i < n ∧ tb s i = true ∧ tb (K i) j = true
  | 0 => by simp [arnd, tb_0]
  | n + 1 => by
    have ih := tb_arnd (K := K) (s := s) (j := j) (n := n)
    unfold arnd
    constructor
    · intro h
      by_cases hs : tb s n = true
      · rw [if_pos hs, tb_or, Bool.or_eq_true] at h
        rcases h with h | h
        · obtain ⟨i, h1, h2⟩ := ih.mp h
          exact ⟨i, by omega, h2⟩
        · exact ⟨n, by omega, hs, h⟩
      · rw [if_neg hs] at h
        obtain ⟨i, h1, h2⟩ := ih.mp h
        exact ⟨i, by omega, h2⟩
    · rintro ⟨i, h1, h2, h3⟩
      by_cases e : i = n
      · subst e
        rw [if_pos h2, tb_or, h3, Bool.or_true]
      · have := ih.mpr ⟨i, by omega, h2, h3⟩
        split
        · rw [tb_or, this, Bool.true_or]
        · exact this
/-- come to in k steps at most, over those of m -/
def bl (K : Nat → Int32) (n : Nat) (m f : Int32) : Nat → Int32
  | 0 => f
  | k + 1 => bl K n m f k ||| (arnd K (bl K n m f k) n &&& m)
theorem tb_bl_succ {K : Nat → Int32} {n : Nat} {m f : Int32} {k j : Nat} : tb (bl K n m f (k + 1)) j = true ↔ tb (bl K n m f k) j = true ∨ (tb m j = true ∧ ∃ i, i < n ∧ tb (bl K n m f k) i = true ∧ tb (K i) j = true) := by
  show tb (bl K n m f k ||| (arnd K (bl K n m f k) n &&& m)) j = true ↔ _
  rw [tb_or, tb_and, Bool.or_eq_true, Bool.and_eq_true, tb_arnd]
  constructor
  · rintro (h | ⟨h1, h2⟩)
    · exact Or.inl h
    · exact Or.inr ⟨h2, h1⟩
  · rintro (h | ⟨h1, h2⟩)
    · exact Or.inl h
    · exact Or.inr ⟨h2, h1⟩
theorem bl_mono1 {K : Nat → Int32} {n : Nat} {m f : Int32} {k j : Nat} (h : tb (bl K n m f k) j = true) : tb (bl K n m f (k + 1)) j = true := tb_bl_succ.mpr (Or.inl h)
theorem bl_mono {K : Nat → Int32} {n : Nat} {m f : Int32} {j : Nat} {a b : Nat} (hab : a ≤ b) (h : tb (bl K n m f a) j = true) : tb (bl K n m f b) j = true := by
  induction hab with
  | refl => exact h
  | step _ ih => exact bl_mono1 ih
theorem bl_stop {K : Nat → Int32} {n : Nat} {m f : Int32} {k : Nat} (h : bl K n m f (k + 1) = bl K n m f k) : ∀ d, bl K n m f (k + d) = bl K n m f k
  | 0 => rfl
  | d + 1 => by
    have ih := bl_stop h d
    show bl K n m f (k + d) ||| (arnd K (bl K n m f (k + d)) n &&& m) = _
    rw [ih]
    exact h
/-- the front: who is come to in just so many steps -/
def fro (K : Nat → Int32) (n : Nat) (m f : Int32) : Nat → Int32
  | 0 => f
  | k + 1 => arnd K (fro K n m f k) n &&& (m &&& (bl K n m f k ^^^ (-1)))
theorem tb_fro {K : Nat → Int32} {n : Nat} {m f : Int32} : ∀ (k j : Nat), tb (fro K n m f k) j = true ↔ tb (bl K n m f k) j = true ∧ ∀ k', k = k' + 1 → tb (bl K n m f k') j = false
  | 0, j => by
    constructor
    · intro h
      exact ⟨h, fun k' e => by omega⟩
    · intro h
      exact h.1
  | k + 1, j => by
    have hb : ∀ i, tb (fro K n m f k) i = true ↔ _ := tb_fro k
    show tb (arnd K (fro K n m f k) n &&& (m &&& (bl K n m f k ^^^ (-1)))) j = true ↔ _
    constructor
    · intro h
      have hj : j < 32 := by
        rcases Nat.lt_or_ge j 32 with q | q
        · exact q
        · rw [tb_32 q] at h
          cases h
      rw [tb_and, tb_and, tb_not hj, Bool.and_eq_true, Bool.and_eq_true, tb_arnd] at h
      obtain ⟨⟨i, h1, h2, h3⟩, h4, h5⟩ := h
      have h5 : tb (bl K n m f k) j = false := by simpa using h5
      refine ⟨tb_bl_succ.mpr (Or.inr ⟨h4, i, h1, ((hb i).mp h2).1, h3⟩), fun k' e => ?_⟩
      have : k' = k := by omega
      subst this
      exact h5
    · rintro ⟨h1, h2⟩
      have h2 := h2 k rfl
      have hj : j < 32 := by
        rcases Nat.lt_or_ge j 32 with q | q
        · exact q
        · rw [tb_32 q] at h1
          cases h1
      rcases tb_bl_succ.mp h1 with h | ⟨h4, i, hi, h5, h6⟩
      · rw [h] at h2
        cases h2
      · rw [tb_and, tb_and, tb_not hj, h2, h4, Bool.and_eq_true, tb_arnd]
        refine ⟨⟨i, hi, (hb i).mpr ⟨h5, fun k' e => ?_⟩, h6⟩, rfl⟩
        cases hq : tb (bl K n m f k') i with
        | false => rfl
        | true =>
          subst e
          have := tb_bl_succ.mpr (Or.inr ⟨h4, i, hi, hq, h6⟩ : tb (bl K n m f k') j = true ∨ _)
          rw [this] at h2
          cases h2
theorem bl_fro {K : Nat → Int32} {n : Nat} {m f : Int32} {k : Nat} : bl K n m f k ||| fro K n m f (k + 1) = bl K n m f (k + 1) := by
  apply tb_ext
  intro j _
  rw [tb_or, Bool.eq_iff_iff, Bool.or_eq_true, tb_fro]
  constructor
  · rintro (h | h)
    · exact bl_mono1 h
    · exact h.1
  · intro h
    cases hk : tb (bl K n m f k) j with
    | true => exact Or.inl rfl
    | false =>
      refine Or.inr ⟨h, fun k' e => ?_⟩
      have : k' = k := by omega
      subst this
      exact hk
theorem fro_zero {K : Nat → Int32} {n : Nat} {m f : Int32} {k : Nat} : fro K n m f (k + 1) = 0 ↔ bl K n m f (k + 1) = bl K n m f k := by
  constructor
  · intro h
    rw [← bl_fro, h]
    apply tb_ext
    intro j _
    rw [tb_or, tb_0, Bool.or_false]
  · intro h
    apply tb_ext
    intro j _
    rw [tb_0]
    cases hq : tb (fro K n m f (k + 1)) j with
    | false => rfl
    | true =>
      obtain ⟨h1, h2⟩ := (tb_fro _ _).mp hq
      rw [h, h2 k rfl] at h1
      cases h1
/-- how many of the first n -/
def cnt (x : Int32) : Nat → Nat
  | 0 => 0
  | n + 1 => cnt x n + (if tb x n then 1 else 0)
theorem cnt_le {x : Int32} : ∀ {n : Nat}, cnt x n ≤ n
  | 0 => Nat.le_refl _
  | n + 1 => by
    have := cnt_le (x := x) (n := n)
    unfold cnt
    split <;> omega
theorem cnt_mono {x y : Int32} : ∀ {n : Nat}, (∀ i, i < n → tb x i = true → tb y i = true) → cnt x n ≤ cnt y n
  | 0, _ => Nat.le_refl _
  | n + 1, h => by
    have := cnt_mono (n := n) (fun i hi => h i (by omega))
    unfold cnt
    by_cases hx : tb x n = true
    · rw [if_pos hx, if_pos (h n (by omega) hx)]
      omega
    · rw [if_neg hx]
      omega
theorem cnt_lt {x y : Int32} {i : Nat} : ∀ {n : Nat}, (∀ i, i < n → tb x i = true → tb y i = true) → i < n → tb x i = false → tb y i = true → cnt x n < cnt y n
  | 0, _, hi, _, _ => by omega
  | n + 1, h, hi, h1, h2 => by
    unfold cnt
    by_cases e : i = n
    · subst e
      have := cnt_mono (n := i) (fun j hj => h j (by omega))
      rw [h1, h2]
      simp only [Bool.false_eq_true, if_false, if_true]
      omega
    · have := cnt_lt (n := n) (fun j hj => h j (by omega)) (by omega) h1 h2
      by_cases hx : tb x n = true
      · rw [if_pos hx, if_pos (h n (by omega) hx)]
        omega
      · rw [if_neg hx]
        omega
/-- rows lead only to the first n -/
def KB (K : Nat → Int32) (n : Nat) : Prop := ∀ i, i < n → ∀ j, tb (K i) j = true → j < n
theorem bl_in {K : Nat → Int32} {n : Nat} {m f : Int32} (hK : KB K n) (hf : ∀ j, tb f j = true → j < n) : ∀ (k j : Nat), tb (bl K n m f k) j = true → j < n
  | 0, j, h => hf j h
  | k + 1, j, h => by
    rcases tb_bl_succ.mp h with h | ⟨-, i, hi, -, h6⟩
    · exact bl_in hK hf k j h
    · exact hK i hi j h6
theorem ne_bit {x y : Int32} (h : x ≠ y) : ∃ i, i < 32 ∧ tb x i ≠ tb y i := by
  refine Classical.byContradiction fun hn => h (tb_ext fun i hi => ?_)
  exact Classical.byContradiction fun hne => hn ⟨i, hi, hne⟩
theorem bl_grow {K : Nat → Int32} {n : Nat} {m f : Int32} (hK : KB K n) (hf : ∀ j, tb f j = true → j < n) (hf0 : f ≠ 0) : ∀ k : Nat, (∀ j, j < k → bl K n m f (j + 1) ≠ bl K n m f j) → k + 1 ≤ cnt (bl K n m f k) n
  | 0, _ => by
    obtain ⟨i, hi, hne⟩ := ne_bit hf0
    rw [tb_0] at hne
    have h1 : tb f i = true := by simpa using hne
    have := cnt_lt (x := 0) (y := f) (i := i) (n := n) (fun j _ h => by rw [tb_0] at h; cases h) (hf i h1) (tb_0 i) h1
    show 1 ≤ cnt f n
    omega
  | k + 1, h => by
    have ih := bl_grow hK hf hf0 k (fun j hj => h j (by omega))
    obtain ⟨i, hi, hne⟩ := ne_bit (h k (by omega))
    have h0 : tb (bl K n m f k) i = false := by
      cases hq : tb (bl K n m f k) i with
      | false => rfl
      | true => exact absurd ((bl_mono1 hq).trans hq.symm) hne
    have h1 : tb (bl K n m f (k + 1)) i = true := by
      cases hq : tb (bl K n m f (k + 1)) i with
      | true => rfl
      | false => exact absurd (hq.trans h0.symm) hne
    have := cnt_lt (n := n) (fun j _ hj => bl_mono1 (K := K) (n := n) (m := m) (f := f) hj) (bl_in hK hf _ _ h1) h0 h1
    omega
/-- behind n - 1 steps nothing comes more -/
theorem bl_end {K : Nat → Int32} {n : Nat} {m f : Int32} (hK : KB K n) (hf : ∀ j, tb f j = true → j < n) : bl K n m f (n - 1 + 1) = bl K n m f (n - 1) := by
  by_cases hf0 : f = 0
  · have : ∀ k, bl K n m f k = 0 := by
      intro k
      induction k with
      | zero => exact hf0
      | succ k ih =>
        show bl K n m f k ||| (arnd K (bl K n m f k) n &&& m) = 0
        rw [ih]
        apply tb_ext
        intro j _
        rw [tb_or, tb_0, tb_and, Bool.false_or]
        cases hq : tb (arnd K 0 n) j with
        | false => rfl
        | true =>
          obtain ⟨i, -, h2, -⟩ := tb_arnd.mp hq
          rw [tb_0] at h2
          cases h2
    rw [this, this]
  · refine Classical.byContradiction fun hne => ?_
    have h : ∀ j, j < n - 1 + 1 → bl K n m f (j + 1) ≠ bl K n m f j := by
      intro j hj e
      refine hne ?_
      have h1 := bl_stop e (n - 1 - j)
      have h2 := bl_stop e (n - 1 + 1 - j)
      rw [show j + (n - 1 - j) = n - 1 by omega] at h1
      rw [show j + (n - 1 + 1 - j) = n - 1 + 1 by omega] at h2
      rw [h1, h2]
    have h1 := bl_grow hK hf hf0 _ h
    have h2 := cnt_le (x := bl K n m f (n - 1 + 1)) (n := n)
    omega
theorem bl_all {K : Nat → Int32} {n : Nat} {m f : Int32} (hK : KB K n) (hf : ∀ j, tb f j = true → j < n) {k : Nat} (hk : n - 1 ≤ k) : bl K n m f k = bl K n m f (n - 1) := by
  have := bl_stop (bl_end (m := m) hK hf) (k - (n - 1))
  rwa [show n - 1 + (k - (n - 1)) = k by omega] at this

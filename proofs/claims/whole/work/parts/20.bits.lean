/-! numbers and bits -/
theorem down_ind {P : Nat → Prop} {N : Nat} (hend : P N) (hstep : ∀ i, i < N → P (i + 1) → P i) : P 0 := by
  have : ∀ k, k ≤ N → P (N - k) := by
    intro k
    induction k with
    | zero => intro _; exact hend
    | succ k ih =>
      intro hk
      refine hstep _ (by omega) ?_
      rw [show N - (k + 1) + 1 = N - k by omega]
      exact ih (by omega)
  have h := this N (Nat.le_refl _)
  rwa [Nat.sub_self] at h
/-- bit i -/
def tb (x : Int32) (i : Nat) : Bool := x.toBitVec.getLsbD i
def bt (i : Nat) : Int32 := 1 <<< (nI i &&& 31)
theorem tb_ext {x y : Int32} (h : ∀ i, i < 32 → tb x i = tb y i) : x = y := by
  apply Int32.toBitVec_inj.mp
  apply BitVec.eq_of_getLsbD_eq
  intro i hi
  exact h i hi
theorem tb_32 {x : Int32} {i : Nat} (h : 32 ≤ i) : tb x i = false := BitVec.getLsbD_of_ge _ _ h
theorem tb_and (x y : Int32) (i : Nat) : tb (x &&& y) i = (tb x i && tb y i) := by simp [tb]
theorem tb_or (x y : Int32) (i : Nat) : tb (x ||| y) i = (tb x i || tb y i) := by simp [tb]
theorem tb_xor (x y : Int32) (i : Nat) : tb (x ^^^ y) i = (tb x i ^^ tb y i) := by simp [tb]
theorem tb_0 (i : Nat) : tb 0 i = false := by simp [tb]
theorem tb_m1 {i : Nat} (h : i < 32) : tb (-1) i = true := by
  have : ∀ j, j < 32 → tb (-1) j = true := by decide
  exact this i h
theorem tb_not {x : Int32} {i : Nat} (h : i < 32) : tb (x ^^^ (-1)) i = !tb x i := by rw [tb_xor, tb_m1 h]; simp
theorem sh_amt {i : Nat} (h : i < 32) : ((nI i &&& 31).toBitVec.smod 32).toNat = i := by
  have : ∀ j, j < 32 → ((nI j &&& 31).toBitVec.smod 32).toNat = j := by decide
  exact this i h
theorem tb_shr {x : Int32} {i : Nat} (h : i < 32) : ((x >>> (nI i &&& 31)) &&& 1) = if tb x i then 1 else 0 := by
  apply Int32.toBitVec_inj.mp
  have e : (x >>> (nI i &&& 31)).toBitVec = x.toBitVec.sshiftRight i := by
    show x.toBitVec.sshiftRight ((nI i &&& 31).toBitVec.smod 32).toNat = _
    rw [sh_amt h]
  rw [Int32.toBitVec_and, e]
  apply BitVec.eq_of_getLsbD_eq
  intro j hj
  have e1 : (1 : Int32).toBitVec = 1#32 := by decide
  rw [BitVec.getLsbD_and, e1, BitVec.getLsbD_sshiftRight]
  by_cases h0 : j = 0
  · subst h0
    have : i + 0 < 32 := by omega
    simp only [Nat.add_zero] at this ⊢
    unfold tb
    cases hb : x.toBitVec.getLsbD i <;> simp [h]
  · have e2 : (1#32).getLsbD j = false := by simp [h0]
    rw [e2]
    cases tb x i <;> simp [h0]
theorem shr_eq0 {x : Int32} {i : Nat} (h : i < 32) : ((x >>> (nI i &&& 31)) &&& 1) = 0 ↔ tb x i = false := by
  rw [tb_shr h]
  cases tb x i <;> simp
theorem shr_eq1 {x : Int32} {i : Nat} (h : i < 32) : ((x >>> (nI i &&& 31)) &&& 1) = 1 ↔ tb x i = true := by
  rw [tb_shr h]
  cases tb x i <;> simp
theorem tb_bt {i j : Nat} (hi : i < 32) : tb (bt i) j = decide (i = j) := by
  by_cases hj : j < 32
  · have : ∀ a, a < 32 → ∀ b, b < 32 → tb (bt a) b = decide (a = b) := by decide +kernel
    exact this i hi j hj
  · rw [tb_32 (by omega)]
    have : i ≠ j := by omega
    simp [this]
theorem bt_toInt32 {i : Nat} : (1 : Int32) <<< (nI i &&& 31) = bt i := rfl
/-- all of 0 .. n-1 -/
def full (n : Nat) : Int32 := bt n - 1
theorem tb_full {n i : Nat} (hn : n ≤ 31) : tb (full n) i = decide (i < n) := by
  by_cases hi : i < 32
  · have : ∀ a, a < 32 → ∀ b, b < 32 → tb (full a) b = decide (b < a) := by decide +kernel
    exact this n (by omega) i hi
  · rw [tb_32 (by omega)]
    have : ¬ i < n := by omega
    simp [this]

/-! numbers of ones; the first place; sums -/
def bc (x0 : Int32) : Int32 := ((((((((x0 - (((x0 : Int32).toUInt32 >>> ((1 : Int32).toUInt32 &&& Int32.toUInt32 31)).toInt32 &&& 1431655765)) &&& 858993459) + ((((x0 - (((x0 : Int32).toUInt32 >>> ((1 : Int32).toUInt32 &&& Int32.toUInt32 31)).toInt32 &&& 1431655765)) : Int32).toUInt32 >>> ((2 : Int32).toUInt32 &&& Int32.toUInt32 31)).toInt32 &&& 858993459)) + (((((x0 - (((x0 : Int32).toUInt32 >>> ((1 : Int32).toUInt32 &&& Int32.toUInt32 31)).toInt32 &&& 1431655765)) &&& 858993459) + ((((x0 - (((x0 : Int32).toUInt32 >>> ((1 : Int32).toUInt32 &&& Int32.toUInt32 31)).toInt32 &&& 1431655765)) : Int32).toUInt32 >>> ((2 : Int32).toUInt32 &&& Int32.toUInt32 31)).toInt32 &&& 858993459)) : Int32).toUInt32 >>> ((4 : Int32).toUInt32 &&& Int32.toUInt32 31)).toInt32) &&& 252645135) + (((((((x0 - (((x0 : Int32).toUInt32 >>> ((1 : Int32).toUInt32 &&& Int32.toUInt32 31)).toInt32 &&& 1431655765)) &&& 858993459) + ((((x0 - (((x0 : Int32).toUInt32 >>> ((1 : Int32).toUInt32 &&& Int32.toUInt32 31)).toInt32 &&& 1431655765)) : Int32).toUInt32 >>> ((2 : Int32).toUInt32 &&& Int32.toUInt32 31)).toInt32 &&& 858993459)) + (((((x0 - (((x0 : Int32).toUInt32 >>> ((1 : Int32).toUInt32 &&& Int32.toUInt32 31)).toInt32 &&& 1431655765)) &&& 858993459) + ((((x0 - (((x0 : Int32).toUInt32 >>> ((1 : Int32).toUInt32 &&& Int32.toUInt32 31)).toInt32 &&& 1431655765)) : Int32).toUInt32 >>> ((2 : Int32).toUInt32 &&& Int32.toUInt32 31)).toInt32 &&& 858993459)) : Int32).toUInt32 >>> ((4 : Int32).toUInt32 &&& Int32.toUInt32 31)).toInt32) &&& 252645135) : Int32).toUInt32 >>> ((8 : Int32).toUInt32 &&& Int32.toUInt32 31)).toInt32) + ((((((((x0 - (((x0 : Int32).toUInt32 >>> ((1 : Int32).toUInt32 &&& Int32.toUInt32 31)).toInt32 &&& 1431655765)) &&& 858993459) + ((((x0 - (((x0 : Int32).toUInt32 >>> ((1 : Int32).toUInt32 &&& Int32.toUInt32 31)).toInt32 &&& 1431655765)) : Int32).toUInt32 >>> ((2 : Int32).toUInt32 &&& Int32.toUInt32 31)).toInt32 &&& 858993459)) + (((((x0 - (((x0 : Int32).toUInt32 >>> ((1 : Int32).toUInt32 &&& Int32.toUInt32 31)).toInt32 &&& 1431655765)) &&& 858993459) + ((((x0 - (((x0 : Int32).toUInt32 >>> ((1 : Int32).toUInt32 &&& Int32.toUInt32 31)).toInt32 &&& 1431655765)) : Int32).toUInt32 >>> ((2 : Int32).toUInt32 &&& Int32.toUInt32 31)).toInt32 &&& 858993459)) : Int32).toUInt32 >>> ((4 : Int32).toUInt32 &&& Int32.toUInt32 31)).toInt32) &&& 252645135) + (((((((x0 - (((x0 : Int32).toUInt32 >>> ((1 : Int32).toUInt32 &&& Int32.toUInt32 31)).toInt32 &&& 1431655765)) &&& 858993459) + ((((x0 - (((x0 : Int32).toUInt32 >>> ((1 : Int32).toUInt32 &&& Int32.toUInt32 31)).toInt32 &&& 1431655765)) : Int32).toUInt32 >>> ((2 : Int32).toUInt32 &&& Int32.toUInt32 31)).toInt32 &&& 858993459)) + (((((x0 - (((x0 : Int32).toUInt32 >>> ((1 : Int32).toUInt32 &&& Int32.toUInt32 31)).toInt32 &&& 1431655765)) &&& 858993459) + ((((x0 - (((x0 : Int32).toUInt32 >>> ((1 : Int32).toUInt32 &&& Int32.toUInt32 31)).toInt32 &&& 1431655765)) : Int32).toUInt32 >>> ((2 : Int32).toUInt32 &&& Int32.toUInt32 31)).toInt32 &&& 858993459)) : Int32).toUInt32 >>> ((4 : Int32).toUInt32 &&& Int32.toUInt32 31)).toInt32) &&& 252645135) : Int32).toUInt32 >>> ((8 : Int32).toUInt32 &&& Int32.toUInt32 31)).toInt32) : Int32).toUInt32 >>> ((16 : Int32).toUInt32 &&& Int32.toUInt32 31)).toInt32) &&& 63)
def u (x : Int32) : Nat := x.toUInt32.toNat
theorem u_lt (x : Int32) : u x < 4294967296 := x.toUInt32.toNat_lt
theorem u_and (x y : Int32) : u (x &&& y) = u x &&& u y := by simp [u]
theorem u_add (x y : Int32) : u (x + y) = (u x + u y) % 4294967296 := by simp [u]
theorem u_sub (x y : Int32) (h : u y ≤ u x) : u (x - y) = u x - u y := by
  have : x.toUInt32 - y.toUInt32 = (x - y).toUInt32 := by simp
  unfold u at *
  rw [← this, UInt32.toNat_sub_of_le]
  exact UInt32.le_iff_toNat_le.mpr h
theorem u_sh1 (x : Int32) : u ((x.toUInt32 >>> ((1 : Int32).toUInt32 &&& Int32.toUInt32 31)).toInt32) = u x / 2 := by
  have : ((1 : Int32).toUInt32 &&& Int32.toUInt32 31) = 1 := by decide
  rw [this]
  simp [u, UInt32.toNat_shiftRight, Nat.shiftRight_eq_div_pow]
theorem u_sh2 (x : Int32) : u ((x.toUInt32 >>> ((2 : Int32).toUInt32 &&& Int32.toUInt32 31)).toInt32) = u x / 4 := by
  have : ((2 : Int32).toUInt32 &&& Int32.toUInt32 31) = 2 := by decide
  rw [this]
  simp [u, UInt32.toNat_shiftRight, Nat.shiftRight_eq_div_pow]
theorem u_sh4 (x : Int32) : u ((x.toUInt32 >>> ((4 : Int32).toUInt32 &&& Int32.toUInt32 31)).toInt32) = u x / 16 := by
  have : ((4 : Int32).toUInt32 &&& Int32.toUInt32 31) = 4 := by decide
  rw [this]
  simp [u, UInt32.toNat_shiftRight, Nat.shiftRight_eq_div_pow]
theorem u_sh8 (x : Int32) : u ((x.toUInt32 >>> ((8 : Int32).toUInt32 &&& Int32.toUInt32 31)).toInt32) = u x / 256 := by
  have : ((8 : Int32).toUInt32 &&& Int32.toUInt32 31) = 8 := by decide
  rw [this]
  simp [u, UInt32.toNat_shiftRight, Nat.shiftRight_eq_div_pow]
theorem u_sh16 (x : Int32) : u ((x.toUInt32 >>> ((16 : Int32).toUInt32 &&& Int32.toUInt32 31)).toInt32) = u x / 65536 := by
  have : ((16 : Int32).toUInt32 &&& Int32.toUInt32 31) = 16 := by decide
  rw [this]
  simp [u, UInt32.toNat_shiftRight, Nat.shiftRight_eq_div_pow]
def bc1 (x : Int32) : Int32 := x - ((x.toUInt32 >>> ((1 : Int32).toUInt32 &&& Int32.toUInt32 31)).toInt32 &&& 1431655765)
def bc2 (x : Int32) : Int32 := (x &&& 858993459) + ((x.toUInt32 >>> ((2 : Int32).toUInt32 &&& Int32.toUInt32 31)).toInt32 &&& 858993459)
def bc3 (x : Int32) : Int32 := (x + (x.toUInt32 >>> ((4 : Int32).toUInt32 &&& Int32.toUInt32 31)).toInt32) &&& 252645135
def bc4 (x : Int32) : Int32 := x + (x.toUInt32 >>> ((8 : Int32).toUInt32 &&& Int32.toUInt32 31)).toInt32
def bc5 (x : Int32) : Int32 := (x + (x.toUInt32 >>> ((16 : Int32).toUInt32 &&& Int32.toUInt32 31)).toInt32) &&& 63
theorem bc_steps (x : Int32) : bc x = bc5 (bc4 (bc3 (bc2 (bc1 x)))) := rfl
/-- masks of k bytes -/
def msk (b : Nat) : Nat → Nat
  | 0 => 0
  | k + 1 => b + 256 * msk b k
theorem and_msk {A b k : Nat} (hb : b < 256) : A &&& msk b (k + 1) = (A % 256 &&& b) + 256 * (A / 256 &&& msk b k) := by
  show A &&& (b + 256 * msk b k) = _
  apply Nat.eq_of_testBit_eq
  intro i
  have hA : A % 256 &&& b < 256 := Nat.lt_of_le_of_lt Nat.and_le_right hb
  have e1 : (A % 256 &&& b) + 256 * (A / 256 &&& msk b k) = 2 ^ 8 * (A / 256 &&& msk b k) + (A % 256 &&& b) := by omega
  have e2 : b + 256 * msk b k = 2 ^ 8 * msk b k + b := by omega
  have e3 : A = 2 ^ 8 * (A / 256) + A % 256 := by omega
  rw [e1, Nat.testBit_two_pow_mul_add _ hA, Nat.testBit_and, e2, Nat.testBit_two_pow_mul_add _ hb]
  by_cases hi : i < 8
  · simp only [hi, if_true]
    rw [Nat.testBit_and]
    congr 1
    rw [show (256 : Nat) = 2 ^ 8 from rfl, Nat.testBit_mod_two_pow]
    simp [hi]
  · simp only [hi, if_false]
    rw [Nat.testBit_and]
    congr 1
    rw [show (256 : Nat) = 2 ^ 8 from rfl, Nat.testBit_div_two_pow]
    congr 1
    omega
def w1 (k N : Nat) : Nat := N - (N / 2 &&& msk 85 k)
def w2 (k N : Nat) : Nat := (N &&& msk 51 k) + (N / 4 &&& msk 51 k)
def w3 (k N : Nat) : Nat := (N + N / 16) &&& msk 15 k
def q1 (b : Nat) : Nat := b - (b / 2 &&& 85)
def q2 (b : Nat) : Nat := (b &&& 51) + (b / 4 &&& 51)
def q3 (b : Nat) : Nat := (b + b / 16) % 16
theorem msk_kill1 {b r : Nat} (hb : b < 128) (hr : r < 2) : (b + 128 * r) &&& 85 = b &&& 85 := by
  have : ∀ b, b < 128 → ∀ r, r < 2 → (b + 128 * r) &&& 85 = b &&& 85 := by decide
  exact this b hb r hr
theorem msk_kill2 {b r : Nat} (hb : b < 64) (hr : r < 4) : (b + 64 * r) &&& 51 = b &&& 51 := by
  have : ∀ b, b < 64 → ∀ r, r < 4 → (b + 64 * r) &&& 51 = b &&& 51 := by decide
  exact this b hb r hr
theorem w1_step (k N : Nat) : w1 (k + 1) N = q1 (N % 256) + 256 * w1 k (N / 256) := by
  unfold w1 q1
  rw [and_msk (by decide)]
  have e1 : N / 2 % 256 = (N % 256) / 2 + 128 * (N / 256 % 2) := by omega
  have e2 : N / 2 / 256 = N / 256 / 2 := by omega
  rw [e1, e2, msk_kill1 (by omega) (by omega)]
  have h1 : (N / 256 / 2 &&& msk 85 k) ≤ N / 256 / 2 := Nat.and_le_left
  have h2 : ((N % 256) / 2 &&& 85) ≤ (N % 256) / 2 := Nat.and_le_left
  omega
theorem w2_step (k N : Nat) : w2 (k + 1) N = q2 (N % 256) + 256 * w2 k (N / 256) := by
  unfold w2 q2
  rw [and_msk (by decide), and_msk (by decide)]
  have e1 : N / 4 % 256 = (N % 256) / 4 + 64 * (N / 256 % 4) := by omega
  have e2 : N / 4 / 256 = N / 256 / 4 := by omega
  rw [e1, e2, msk_kill2 (by omega) (by omega)]
  omega
theorem q12 {b : Nat} (hb : b < 256) : q1 b < 256 ∧ q2 (q1 b) ≤ 68 ∧ q2 (q1 b) % 16 ≤ 4 := by
  have : ∀ b, b < 256 → q1 b < 256 ∧ q2 (q1 b) ≤ 68 ∧ q2 (q1 b) % 16 ≤ 4 := by decide +kernel
  exact this b hb
theorem w12_step (k N : Nat) : w2 (k + 1) (w1 (k + 1) N) = q2 (q1 (N % 256)) + 256 * w2 k (w1 k (N / 256)) := by
  have h := (q12 (b := N % 256) (by omega)).1
  rw [w2_step, w1_step]
  have e1 : (q1 (N % 256) + 256 * w1 k (N / 256)) % 256 = q1 (N % 256) := by omega
  have e2 : (q1 (N % 256) + 256 * w1 k (N / 256)) / 256 = w1 k (N / 256) := by omega
  rw [e1, e2]
theorem w12_low : ∀ (k N : Nat), w2 k (w1 k N) % 16 ≤ 4
  | 0, N => by simp [w2, msk]
  | k + 1, N => by
    have h := (q12 (b := N % 256) (by omega)).2.2
    rw [w12_step]
    omega
theorem and_15 {a : Nat} : a % 256 &&& 15 = a % 16 := by
  rw [show (15 : Nat) = 2 ^ 4 - 1 from rfl, Nat.and_two_pow_sub_one_eq_mod]
  omega
theorem w3_step (k N : Nat) : w3 (k + 1) (w2 (k + 1) (w1 (k + 1) N)) = q3 (q2 (q1 (N % 256))) + 256 * w3 k (w2 k (w1 k (N / 256))) := by
  have h := (q12 (b := N % 256) (by omega)).2.1
  have hl := w12_low k (N / 256)
  rw [w12_step]
  generalize q2 (q1 (N % 256)) = e at *
  generalize w2 k (w1 k (N / 256)) = E at *
  unfold w3 q3
  rw [and_msk (by decide), and_15]
  have e1 : (e + 256 * E + (e + 256 * E) / 16) % 16 = (e + e / 16) % 16 := by omega
  have e2 : (e + 256 * E + (e + 256 * E) / 16) / 256 = E + E / 16 := by omega
  rw [e1, e2]
/-- ones of the first k bytes -/
def cN (N : Nat) : Nat → Nat
  | 0 => 0
  | n + 1 => cN N n + (if N.testBit n then 1 else 0)
theorem cN_8 {b : Nat} (hb : b < 256) : q3 (q2 (q1 b)) = cN b 8 := by
  have : ∀ b, b < 256 → q3 (q2 (q1 b)) = cN b 8 := by decide +kernel
  exact this b hb
theorem cN_byte (N : Nat) (m : Nat) : ∀ k, k ≤ 8 → cN N (8 * m + k) = cN N (8 * m) + cN (N / 256 ^ m % 256) k
  | 0, _ => rfl
  | k + 1, hk => by
    show cN N (8 * m + k) + (if N.testBit (8 * m + k) = true then 1 else 0) = cN N (8 * m) + (cN (N / 256 ^ m % 256) k + _)
    rw [cN_byte N m k (by omega)]
    have : (N / 256 ^ m % 256).testBit k = N.testBit (8 * m + k) := by
      rw [show (256 : Nat) = 2 ^ 8 from rfl, Nat.testBit_mod_two_pow, ← Nat.pow_mul, Nat.testBit_div_two_pow]
      have hk : k < 8 := by omega
      simp only [hk, decide_true, Bool.true_and]
      congr 1
      omega
    rw [this]
    omega
theorem cN_cnt (x : Int32) : ∀ n, cN (u x) n = cnt x n
  | 0 => rfl
  | n + 1 => by
    show cN (u x) n + _ = cnt x n + _
    rw [cN_cnt x n]
    rfl
theorem cN_le8 (b : Nat) : cN b 8 ≤ 8 := by
  have : ∀ n, cN b n ≤ n := by
    intro n
    induction n with
    | zero => exact Nat.le_refl _
    | succ n ih =>
      show cN b n + _ ≤ _
      split <;> omega
  exact this 8
theorem bc_cnt (x : Int32) : bc x = nI (cnt x 32) := by
  have hN := u_lt x
  have m1 : msk 85 4 = u 1431655765 := by decide
  have m2 : msk 51 4 = u 858993459 := by decide
  have m3 : msk 15 4 = u 252645135 := by decide
  have s1 : u (bc1 x) = w1 4 (u x) := by
    unfold bc1 w1
    have hle : u ((x.toUInt32 >>> ((1 : Int32).toUInt32 &&& Int32.toUInt32 31)).toInt32 &&& 1431655765) ≤ u x := by
      rw [u_and, u_sh1]
      exact Nat.le_trans Nat.and_le_left (Nat.div_le_self _ _)
    rw [u_sub _ _ hle, u_and, u_sh1, m1]
  have b0 : ∀ N, w2 0 (w1 0 N) = 0 := fun N => by simp [w2, msk]
  have b1 : ∀ k N, N < 256 ^ (k + 1) → w2 (k + 1) (w1 (k + 1) N) ≤ 68 + 256 * w2 k (w1 k (N / 256)) := fun k N _ => by
    have h := (q12 (b := N % 256) (by omega)).2.1
    rw [w12_step]
    omega
  have s2 : u (bc2 (bc1 x)) = w2 4 (w1 4 (u x)) := by
    have hb : w2 4 (w1 4 (u x)) < 4294967296 := by
      have a1 : w2 4 (w1 4 (u x)) ≤ 68 + 256 * w2 3 (w1 3 (u x / 256)) := b1 3 (u x) (by omega)
      have a2 : w2 3 (w1 3 (u x / 256)) ≤ 68 + 256 * w2 2 (w1 2 (u x / 256 / 256)) := b1 2 (u x / 256) (by omega)
      have a3 : w2 2 (w1 2 (u x / 256 / 256)) ≤ 68 + 256 * w2 1 (w1 1 (u x / 256 / 256 / 256)) := b1 1 (u x / 256 / 256) (by omega)
      have a4 : w2 1 (w1 1 (u x / 256 / 256 / 256)) ≤ 68 + 256 * w2 0 (w1 0 (u x / 256 / 256 / 256 / 256)) := b1 0 (u x / 256 / 256 / 256) (by omega)
      rw [b0] at a4
      omega
    unfold bc2
    rw [u_add, u_and, u_and, u_sh2, s1, ← m2]
    exact Nat.mod_eq_of_lt hb
  have s3 : u (bc3 (bc2 (bc1 x))) = w3 4 (w2 4 (w1 4 (u x))) := by
    unfold bc3 w3
    have hb : w2 4 (w1 4 (u x)) + w2 4 (w1 4 (u x)) / 16 < 4294967296 := by
      have a1 : w2 4 (w1 4 (u x)) ≤ 68 + 256 * w2 3 (w1 3 (u x / 256)) := b1 3 (u x) (by omega)
      have a2 : w2 3 (w1 3 (u x / 256)) ≤ 68 + 256 * w2 2 (w1 2 (u x / 256 / 256)) := b1 2 (u x / 256) (by omega)
      have a3 : w2 2 (w1 2 (u x / 256 / 256)) ≤ 68 + 256 * w2 1 (w1 1 (u x / 256 / 256 / 256)) := b1 1 (u x / 256 / 256) (by omega)
      have a4 : w2 1 (w1 1 (u x / 256 / 256 / 256)) ≤ 68 + 256 * w2 0 (w1 0 (u x / 256 / 256 / 256 / 256)) := b1 0 (u x / 256 / 256 / 256) (by omega)
      rw [b0] at a4
      omega
    rw [u_and, u_add, u_sh4, s2, ← m3, Nat.mod_eq_of_lt hb]
  have z0 : ∀ N, w3 0 N = 0 := fun N => by simp [w3, msk]
  have s4 : w3 4 (w2 4 (w1 4 (u x))) = cN (u x % 256) 8 + 256 * (cN (u x / 256 % 256) 8 + 256 * (cN (u x / 65536 % 256) 8 + 256 * cN (u x / 16777216 % 256) 8)) := by
    rw [w3_step, w3_step, w3_step, w3_step, z0, cN_8 (by omega), cN_8 (by omega), cN_8 (by omega), cN_8 (by omega)]
    have e1 : u x / 256 / 256 = u x / 65536 := by omega
    have e2 : u x / 65536 / 256 = u x / 16777216 := by omega
    rw [e1, e2]
    omega
  have s5 : cnt x 32 = cN (u x % 256) 8 + cN (u x / 256 % 256) 8 + cN (u x / 65536 % 256) 8 + cN (u x / 16777216 % 256) 8 := by
    rw [← cN_cnt]
    have c1 := cN_byte (u x) 0 8 (by omega)
    have c2 := cN_byte (u x) 1 8 (by omega)
    have c3 := cN_byte (u x) 2 8 (by omega)
    have c4 := cN_byte (u x) 3 8 (by omega)
    simp at c1 c2 c3 c4
    have : cN (u x) 0 = 0 := rfl
    omega
  have l1 := cN_le8 (u x % 256)
  have l2 := cN_le8 (u x / 256 % 256)
  have l3 := cN_le8 (u x / 65536 % 256)
  have l4 := cN_le8 (u x / 16777216 % 256)
  have m63 : u 63 = 2 ^ 6 - 1 := by decide
  have s6 : u (bc x) = cnt x 32 := by
    rw [bc_steps]
    unfold bc5 bc4
    rw [u_and, u_add, u_sh16, u_add, u_sh8, s3, s4, s5, m63, Nat.and_two_pow_sub_one_eq_mod]
    generalize cN (u x % 256) 8 = a at *
    generalize cN (u x / 256 % 256) 8 = b at *
    generalize cN (u x / 65536 % 256) 8 = c at *
    generalize cN (u x / 16777216 % 256) 8 = e at *
    have d1 : (a + 256 * (b + 256 * (c + 256 * e))) / 256 = b + 256 * (c + 256 * e) := by omega
    have d2 : (a + 256 * (b + 256 * (c + 256 * e)) + (b + 256 * (c + 256 * e))) % 4294967296 = a + b + 256 * (b + c + 256 * (c + e + 256 * e)) := by omega
    have d3 : (a + b + 256 * (b + c + 256 * (c + e + 256 * e))) / 65536 = c + e + 256 * e := by omega
    have d4 : (a + b + 256 * (b + c + 256 * (c + e + 256 * e)) + (c + e + 256 * e)) % 4294967296 = a + b + c + e + 256 * (b + c + e + 256 * (c + e + 256 * e)) := by omega
    rw [d1, d2, d3, d4]
    omega
  have hc := cnt_le (x := x) (n := 32)
  have : u (nI (cnt x 32)) = cnt x 32 := by
    have : ∀ c, c < 33 → u (nI c) = c := by decide
    exact this _ (by omega)
  have e : (bc x).toUInt32 = (nI (cnt x 32)).toUInt32 := UInt32.toNat_inj.mp (s6.trans this.symm)
  exact Int32.toBitVec_inj.mp (congrArg UInt32.toBitVec e)
/-- the first of f places from s on with p -/
def fstp (p : Nat → Bool) : Nat → Nat → Option Nat
  | _, 0 => none
  | s, f + 1 => if p s then some s else fstp p (s + 1) f
theorem fstp_some {p : Nat → Bool} : ∀ {f s k : Nat}, s ≤ k → k < s + f → p k = true → (∀ j, s ≤ j → j < k → p j = false) → fstp p s f = some k
  | 0, s, k, h1, h2, _, _ => by omega
  | f + 1, s, k, h1, h2, h3, h4 => by
    unfold fstp
    by_cases e : s = k
    · subst e
      rw [if_pos h3]
    · rw [if_neg (by rw [h4 s (Nat.le_refl _) (by omega)]; decide)]
      exact fstp_some (by omega) (by omega) h3 (fun j a b => h4 j (by omega) b)
theorem fstp_none {p : Nat → Bool} : ∀ {f s : Nat}, (∀ j, s ≤ j → j < s + f → p j = false) → fstp p s f = none
  | 0, s, _ => rfl
  | f + 1, s, h => by
    unfold fstp
    rw [if_neg (by rw [h s (Nat.le_refl _) (by omega)]; decide)]
    exact fstp_none (fun j a b => h j (by omega) (by omega))
theorem fstp_spec {p : Nat → Bool} : ∀ {f s k : Nat}, fstp p s f = some k → s ≤ k ∧ k < s + f ∧ p k = true ∧ ∀ j, s ≤ j → j < k → p j = false
  | 0, s, k, h => by cases h
  | f + 1, s, k, h => by
    unfold fstp at h
    split at h
    next hp =>
      cases h
      exact ⟨Nat.le_refl _, by omega, hp, fun j a b => by omega⟩
    next hp =>
      obtain ⟨h1, h2, h3, h4⟩ := fstp_spec h
      refine ⟨by omega, by omega, h3, fun j a b => ?_⟩
      by_cases e : j = s
      · subst e
        simpa using hp
      · exact h4 j (by omega) b
theorem fstp_spec0 {p : Nat → Bool} : ∀ {f s : Nat}, fstp p s f = none → ∀ j, s ≤ j → j < s + f → p j = false
  | 0, s, _, j, a, b => by omega
  | f + 1, s, h, j, a, b => by
    unfold fstp at h
    split at h
    next => cases h
    next hp =>
      by_cases e : j = s
      · subst e
        simpa using hp
      · exact fstp_spec0 h j (by omega) (by omega)
/-- sums of the first n -/
def sm (f : Nat → Nat) : Nat → Nat
  | 0 => 0
  | n + 1 => sm f n + f n
theorem sm_cong {f g : Nat → Nat} : ∀ {n : Nat}, (∀ i, i < n → f i = g i) → sm f n = sm g n
  | 0, _ => rfl
  | n + 1, h => by
    show sm f n + f n = sm g n + g n
    rw [sm_cong (n := n) (fun i hi => h i (by omega)), h n (by omega)]
theorem sm_add {f g : Nat → Nat} : ∀ {n : Nat}, sm (fun i => f i + g i) n = sm f n + sm g n
  | 0 => rfl
  | n + 1 => by
    show sm (fun i => f i + g i) n + (f n + g n) = sm f n + f n + (sm g n + g n)
    rw [sm_add (n := n)]
    omega
theorem sm_mul {f : Nat → Nat} {c : Nat} : ∀ {n : Nat}, sm (fun i => c * f i) n = c * sm f n
  | 0 => rfl
  | n + 1 => by
    show sm (fun i => c * f i) n + c * f n = c * (sm f n + f n)
    rw [sm_mul (n := n), Nat.mul_add]
theorem sm_le {f : Nat → Nat} {c : Nat} : ∀ {n : Nat}, (∀ i, i < n → f i ≤ c) → sm f n ≤ n * c
  | 0, _ => Nat.zero_le _
  | n + 1, h => by
    have := sm_le (n := n) (fun i hi => h i (by omega))
    have h2 := h n (by omega)
    show sm f n + f n ≤ (n + 1) * c
    rw [Nat.add_mul]
    omega
theorem cnt_sm {x : Int32} : ∀ {n : Nat}, cnt x n = sm (fun i => if tb x i then 1 else 0) n
  | 0 => rfl
  | n + 1 => by
    show cnt x n + _ = _
    rw [cnt_sm (n := n)]
    rfl
theorem cnt_ge {x : Int32} {n : Nat} (h : ∀ j, tb x j = true → j < n) : ∀ d, cnt x (n + d) = cnt x n
  | 0 => rfl
  | d + 1 => by
    show cnt x (n + d) + (if tb x (n + d) then 1 else 0) = _
    rw [cnt_ge h d, if_neg (fun z => by have := h _ z; omega)]
    rfl
theorem cnt_32 {x : Int32} {n : Nat} (hn : n ≤ 32) (h : ∀ j, tb x j = true → j < n) : cnt x 32 = cnt x n := by
  have := cnt_ge h (32 - n)
  rwa [show n + (32 - n) = 32 by omega] at this

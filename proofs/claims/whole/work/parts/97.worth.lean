/-! what a rule is worth, both sides -/
section WO
theorem w_and {w : Nat} (h : w < 2 ^ 20) : nI w &&& 15 = nI (w % 16) := by
  rw [pk_and (nI w) 4 (by decide)]
  have : (nI w).toBitVec.toNat = w := u_nI (by omega)
  rw [this]
theorem w_shr {w : Nat} (h : w < 2 ^ 20) : nI w >>> ((4 : Int32) &&& 31) = nI (w / 16) := by
  apply tb_ext
  intro i hi
  rw [tb_nI (by omega), show (16 : Nat) = 2 ^ 4 from rfl, Nat.testBit_div_two_pow]
  show ((nI w).toBitVec.sshiftRight ((nI 4 &&& 31).toBitVec.smod 32).toNat).getLsbD i = _
  rw [sh_amt (by omega), BitVec.getLsbD_sshiftRight]
  have e1 : ∀ j, (nI w).toBitVec.getLsbD j = w.testBit j := fun j => tb_nI (by omega)
  by_cases q : 4 + i < 32
  · rw [if_pos q, e1, Nat.add_comm 4 i, decide_eq_false (by omega)]
    rfl
  · have m : (nI w).toBitVec.msb = false := by
      rw [BitVec.msb_eq_getLsbD_last, e1]
      exact Nat.testBit_lt_two_pow (by omega)
    rw [if_neg q, m, Nat.testBit_lt_two_pow (x := w) (i := i + 4) (Nat.lt_of_lt_of_le h (Nat.pow_le_pow_right (by decide) (by omega)))]
    rw [Bool.and_false]
end WO
section OPS
variable {X : CX} {d D nx sz : Nat} {h h0 : AH} {T : Nat → Nat} {p : Nat → Int32} {rt b0 ln a k q : Nat} {c : List Nat}
theorem bdL_in {j : Int64} (h1 : j ≤ 1000000) (h2 : -1000000 ≤ j) : bdL j = j.toInt32 := by
  unfold bdL
  by_cases c : j < 1000000
  · rw [if_pos c, if_neg (Int64.not_lt.mpr h2)]
  · have e : j = 1000000 := Int64.le_antisymm h1 (Int64.not_lt.mp c)
    rw [if_neg c, if_neg (by decide : ¬ (1000000 : Int64) < -1000000), e]
theorem bdL_low {j : Int64} (h2 : ¬ -1000000 ≤ j) : bdL j = -1000000 := by
  have c : j < -1000000 := Int64.not_le.mp h2
  have e : (-1000000 : Int64).toInt32 = -1000000 := by decide
  unfold bdL
  rw [if_pos (Int64.lt_trans c (by decide) : j < 1000000), if_pos c, e]
theorem bdL_high {j : Int64} (h1 : ¬ j ≤ 1000000) : bdL j = 1000000 := by
  have e : (1000000 : Int64).toInt32 = 1000000 := by decide
  unfold bdL
  rw [if_neg (fun z => h1 (Int64.le_of_lt z)), if_neg (by decide : ¬ (1000000 : Int64) < -1000000), e]
theorem s_bounded {j : Int64} : Mk X (d + 1) m_X8_bounded [.long j] h nx sz (RE (bdL j) h) := by
  refine Mk.re fun Q hq => e_X8_bounded (c_X8_bounded_0 (fun z z2 => ?_) (fun z z2 => ?_) (fun z => ?_))
  · rw [bdL_in ((lg_cmp_le _ _).mp z) ((lg_cmp_ge _ _).mp z2)] at hq
    exact hq
  · rw [bdL_low (fun y => z2 ((lg_cmp_ge _ _).mpr y))] at hq
    exact hq
  · rw [bdL_high (fun y => z ((lg_cmp_le _ _).mpr y))] at hq
    exact hq
theorem jn_f : ∀ s, s < 16 → ((nI s).toInt = s) := by decide
theorem s_joined {s : Nat} {l r : Int32} (h2 : 2 ≤ s) (h10 : s ≤ 16) (hs : s < 16) : Mk X (d + 2) m_X8_joined [.int (nI s), .int l, .int r] h nx sz (RE (opV s l r) h) := by
  have e := jn_f s hs
  refine Mk.re fun Q hq => e_X8_joined (c_X8_joined_0 (d := d + 1) (P53 := fun y g => y = bdL (l.toInt64 + r.toInt64) ∧ h = g) (P62 := fun y g => y = bdL (l.toInt64 - r.toInt64) ∧ h = g) (P71 := fun y g => y = bdL (l.toInt64 * r.toInt64) ∧ h = g) (P88 := fun y g => y = bdL (l.toInt64 / r.toInt64) ∧ h = g) RO_rm hcs0 (fun z => ?_) (fun z => s_bounded) (fun z => ?_) (fun z => s_bounded) (fun z => ?_) (fun z => s_bounded) (fun z => ?_) (fun _ z y => z (l64_0.mp y)) (fun z z2 => s_bounded) (fun z z2 => ?_) (fun z z2 => ?_) (fun z z2 => ?_) (fun z z2 => ?_) (fun z z2 => ?_) (fun z z2 => ?_) (fun z z2 => ?_) (fun z z2 => ?_) (fun z => ?_)) <;> rw [e] at z <;> unfold opV at hq
  · rw [if_neg (by omega), if_neg (by omega), if_neg (by omega), if_neg (by omega), if_neg (by omega), if_neg (by omega), if_neg (by omega), if_neg (by omega)] at hq
    exact hq
  · rintro _ g ⟨rfl, rfl⟩
    rw [if_pos (by omega)] at hq
    exact c_X8_joined_56 hq
  · rintro _ g ⟨rfl, rfl⟩
    rw [if_neg (by omega), if_pos (by omega)] at hq
    exact c_X8_joined_65 hq
  · rintro _ g ⟨rfl, rfl⟩
    rw [if_neg (by omega), if_neg (by omega), if_pos (by omega)] at hq
    exact c_X8_joined_74 hq
  · rintro _ g ⟨rfl, rfl⟩
    rw [if_neg (by omega), if_neg (by omega), if_neg (by omega), if_pos (by omega), if_neg z2] at hq
    exact c_X8_joined_91 hq
  · rw [if_neg (by omega), if_neg (by omega), if_neg (by omega), if_pos (by omega), if_pos z2] at hq
    exact c_X8_joined_91 hq
  · rw [if_neg (by omega), if_neg (by omega), if_neg (by omega), if_neg (by omega), if_pos (by omega), if_neg z2] at hq
    exact hq
  · rw [if_neg (by omega), if_neg (by omega), if_neg (by omega), if_neg (by omega), if_pos (by omega), if_pos z2] at hq
    exact hq
  · rw [if_neg (by omega), if_neg (by omega), if_neg (by omega), if_neg (by omega), if_neg (by omega), if_pos (by omega), if_neg (Int32.not_lt.mpr z2)] at hq
    exact hq
  · rw [if_neg (by omega), if_neg (by omega), if_neg (by omega), if_neg (by omega), if_neg (by omega), if_pos (by omega), if_pos (Int32.not_le.mp z2)] at hq
    exact hq
  · rw [if_neg (by omega), if_neg (by omega), if_neg (by omega), if_neg (by omega), if_neg (by omega), if_neg (by omega), if_pos (by omega), if_neg (Int32.not_lt.mpr z2)] at hq
    exact hq
  · rw [if_neg (by omega), if_neg (by omega), if_neg (by omega), if_neg (by omega), if_neg (by omega), if_neg (by omega), if_pos (by omega), if_pos (Int32.not_le.mp z2)] at hq
    exact hq
  · rw [if_neg (by omega), if_neg (by omega), if_neg (by omega), if_neg (by omega), if_neg (by omega), if_neg (by omega), if_neg (by omega), if_pos (by omega)] at hq
    exact hq
/-- the class's letters, by place; 0 behind them -/
def LetS (h : AH) (p : Nat → Int32) : Prop := (∀ k, k < 9 → h.1 39 k = p k) ∧ ∀ k, 9 ≤ k → p k = 0
theorem s_told {w : Nat} (hA0 : 91 ≤ nx) (hF : Fx h) (L : LetS h p) (hw : w < 2 ^ 20) (h1 : w % 16 ≤ 1) : Mk X d m_X8_told [.ref 29, .int (nI (w % 16)), .int (nI (w / 16))] h nx sz (RE (toV p w) h) := by
  have e0 : nI (w % 16) = 0 ↔ w % 16 = 0 := nI_eq (b := 0) (by omega) (by decide)
  have e9 : (9 : Int32) ≤ nI (w / 16) ↔ 9 ≤ w / 16 := le_nI (a := 9) (by decide) (by omega)
  refine Mk.re fun Q hq => e_X8_told (c_X8_told_0 hA0 hF (fun _ z => absurd z (nI_pos (by omega))) (fun z _ z2 => ?_) (fun _ _ z => ?_) (fun z _ z2 => ?_) (fun z => ?_))
  · rw [e0] at z
    unfold toV at hq
    rw [if_neg z, L.2 _ (e9.mp z2)] at hq
    exact hq
  · rw [e9] at z
    exact vin (by omega) (by decide)
  · rw [e0] at z
    rw [e9] at z2
    unfold toV at hq
    rw [if_neg z, ← L.1 _ (by omega)] at hq
    rw [tN (by omega)]
    exact hq
  · rw [e0] at z
    unfold toV at hq
    rw [if_pos z] at hq
    exact hq
/-- rule a's code -/
def CodA (h : AH) (r : Nat) (c : List Nat) : Prop := c.length ≤ 200 ∧ h.1 37 r = nI c.length ∧ (∀ i, i < c.length → h.1 (31 + r) i = nI (c.getD i 0)) ∧ ∀ w, w ∈ c → w < 2 ^ 20
def StkA (h : AH) (st : List Int32) : Prop := st.length ≤ 48 ∧ ∀ i, i < st.length → h.1 38 (st.length - 1 - i) = st.getD i 0
def F38 (h g : AH) : Prop := g.2 = h.2 ∧ ∀ c j, c ≠ 38 → g.1 c j = h.1 c j
theorem drop_cons {i : Nat} : ∀ (c : List Nat), i < c.length → c.drop i = c.getD i 0 :: c.drop (i + 1)
  | [], h => by cases h
  | x :: c, h => by
    cases i with
    | zero => rfl
    | succ i => exact drop_cons c (Nat.lt_of_succ_lt_succ h)
theorem getD_mem {i : Nat} : ∀ (c : List Nat), i < c.length → c.getD i 0 ∈ c
  | [], h => by cases h
  | x :: c, h => by
    cases i with
    | zero => exact List.mem_cons_self ..
    | succ i => exact List.mem_cons_of_mem _ (getD_mem c (Nat.lt_of_succ_lt_succ h))
end OPS

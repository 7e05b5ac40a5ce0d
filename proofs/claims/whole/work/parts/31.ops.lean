/-! end, most, tie, drop, far, common, count, cost -/
theorem bt3 {P : Prop} [Decidable P] (h : (if P then (1 : Int32) else 0) = 0) : ¬ P := fun z => by rw [if_pos z] at h; cases h
theorem bt4 {P : Prop} [Decidable P] (h : ¬ (if P then (1 : Int32) else 0) = 0) : P := Decidable.byContradiction fun z => h (if_neg z)
theorem hasI_ne {n : Nat} {x : Int32} (hn : n < 2 ^ 31) (h : ¬ hasI n x = 0) : ∃ i, i < n ∧ x = nI i := (hasI_1 hn).mp (hasI_0.resolve_left h)
theorem hasI_no {n : Nat} {x : Int32} (hn : n < 2 ^ 31) (h : hasI n x = 0) : ¬ ∃ i, i < n ∧ x = nI i := fun z => by rw [(hasI_1 hn).mpr z] at h; cases h
theorem twoI_ne {n : Nat} {x y : Int32} (hn : n < 2 ^ 31) (h : ¬ twoI n x y = 0) : ∃ i j, i < n ∧ j < n ∧ i ≠ j ∧ x = nI i ∧ y = nI j := by
  unfold twoI at h
  obtain ⟨h1, h2, h3⟩ := bt4 h
  obtain ⟨i, hi, rfl⟩ := (hasI_1 hn).mp h1
  obtain ⟨j, hj, rfl⟩ := (hasI_1 hn).mp h2
  exact ⟨i, j, hi, hj, fun z => h3 (by rw [z]), rfl, rfl⟩
theorem twoI_01 {n : Nat} {x y : Int32} : twoI n x y = 0 ∨ twoI n x y = 1 := by
  unfold twoI
  split
  · exact Or.inr rfl
  · exact Or.inl rfl
theorem tieI_nI {n i j : Nat} {K : Nat → Int32} (hn : n ≤ 20) (hi : i < n) (hj : j < n) : tieI n K (nI i) (nI j) = if tb (K i) j then 1 else 0 := by
  unfold tieI
  rw [hasI_nI (by omega) hi, hasI_nI (by omega) hj, tN (by omega), tN (by omega)]
  cases tb (K i) j <;> simp
theorem tieI_ne {n : Nat} {K : Nat → Int32} {x y : Int32} (hn : n < 2 ^ 31) (h : ¬ tieI n K x y = 0) : ∃ i j, i < n ∧ j < n ∧ tb (K i) j = true ∧ x = nI i ∧ y = nI j := by
  unfold tieI at h
  obtain ⟨h1, h2, h3⟩ := bt4 h
  obtain ⟨i, hi, rfl⟩ := (hasI_1 hn).mp h1
  obtain ⟨j, hj, rfl⟩ := (hasI_1 hn).mp h2
  rw [tN (by omega), tN (by omega)] at h3
  exact ⟨i, j, hi, hj, h3, rfl, rfl⟩
section OPS
variable {X : CX} {d nx sz : Nat} {h : AH} {n : Nat}
theorem net1 : IsNet 1 := Or.inl rfl
-- end
theorem s_end {x : Int32} (hA0 : 91 ≤ nx) (hF : Fx h) : Mk X d m_X11_end [.ref 0, .int x] h nx sz (RE (if ¬ x < 0 ∧ x ≤ h.1 23 1 then 1 else 0) (if ¬ x < 0 ∧ x ≤ h.1 23 1 then setI h 23 1 x else h)) :=
  Mk.re fun Q hq => e_X11_end (c_X11_end_0 hA0 hF (fun c => by rwa [if_neg (fun z => z.1 c), if_neg (fun z => z.1 c)] at hq) (fun c c1 => by rwa [if_pos ⟨c, c1⟩, if_pos ⟨c, c1⟩] at hq) (fun c c1 => by rwa [if_neg (fun z => c1 z.2), if_neg (fun z => c1 z.2)] at hq))
theorem t_end {x : Int32} (hA0 : 91 ≤ nx) : Mk X d m_X12_end [.ref 68, .int x] h nx sz (RE (if ¬ x < 0 ∧ x ≤ h.1 68 7 then 1 else 0) (if ¬ x < 0 ∧ x ≤ h.1 68 7 then setI (setI h 68 0 0) 68 7 x else setI h 68 0 0)) :=
  Mk.re fun Q hq => e_X12_end (c_X12_end_0 hA0 (fun c => by rwa [if_neg (fun z => z.1 c), if_neg (fun z => z.1 c)] at hq) (fun c c1 => by rwa [if_pos ⟨c, c1⟩, if_pos ⟨c, c1⟩] at hq) (fun c c1 => by rwa [if_neg (fun z => c1 z.2), if_neg (fun z => c1 z.2)] at hq))
-- most
/-- may it be so many -/
def mostOk (n : Nat) (K : Nat → Int32) (x v : Int32) : Prop := hasI n x = 1 ∧ ¬ v < 0 ∧ ¬ 9 < v ∧ bc (K x.toNatClampNeg) ≤ v
theorem s_most {x v : Int32} (hA0 : 91 ≤ nx) (hF : Fx h) (hp : InvP h n) (D : Decidable (mostOk n (h.1 2) x v)) : Mk X (d + 2) m_X11_most [.ref 0, .int x, .int v] h nx sz (RE (if mostOk n (h.1 2) x v then 1 else 0) (if mostOk n (h.1 2) x v then setI h 3 x.toNatClampNeg v else h)) := by
  refine Mk.re fun Q hq => e_X11_most (c_X11_most_0 hA0 hF RO_rm hcs0 (s_has (d := d + 1) hA0 (hp.np net1)) ?_)
  rintro y g ⟨rfl, rfl⟩
  have no : ¬ mostOk n (h.1 2) x v → Q (some (.int 0)) h := fun z => by rwa [if_neg z, if_neg z] at hq
  by_cases c : hasI n x = 0
  · exact c_X11_most_8 (P27 := fun _ _ => False) hA0 hF RO_rm hcs0 (fun _ => no (fun z => by rw [z.1] at c; cases c)) (fun c1 => absurd c c1) (fun c1 => absurd c c1) (fun c1 => absurd c c1) (fun c1 => absurd c c1)
  obtain ⟨i, hi, rfl⟩ := hasI_ne (by have := hp.2.1; omega) c
  have hi20 : i < 20 := by have := hp.2.1; omega
  refine c_X11_most_8 hA0 hF RO_rm hcs0 (fun c1 => absurd c1 c) (fun _ c1 => no (fun z => z.2.1 c1)) (fun _ _ c1 => no (fun z => z.2.2.1 c1)) (fun _ _ _ => s_degree (d := d) hA0 hF net1 hi20) ?_
  rintro _ c1 c2 y g ⟨rfl, rfl⟩
  refine c_X11_most_30 hA0 hF (fun _ => vin hi20 (by decide)) (fun c3 => ?_) (fun c3 => no (fun z => c3 (by have := z.2.2.2; rwa [tN (by omega)] at this)))
  have hk : mostOk n (h.1 2) (nI i) v := ⟨hasI_nI (by have := hp.2.1; omega) hi, c1, c2, by rw [tN (by omega)]; exact c3⟩
  rwa [if_pos hk, if_pos hk] at hq
theorem t_most {x v : Int32} (hA0 : 91 ≤ nx) (hF : Fx h) (hp : InvP h n) (D : Decidable (mostOk n (h.1 73) x v)) : Mk X (d + 2) m_X12_most [.ref 68, .int x, .int v] h nx sz (RE (if mostOk n (h.1 73) x v then 1 else 0) (if mostOk n (h.1 73) x v then setI (setI h 68 0 0) 75 x.toNatClampNeg v else setI h 68 0 0)) := by
  have hp1 : MP (setI h 68 0 0) n := hp.mp
  refine Mk.re fun Q hq => e_X12_most (c_X12_most_0 hA0 RO_rm hcs0 (t_isOne (d := d + 1) hA0 hp1) ?_)
  rintro y g ⟨rfl, rfl⟩
  have no : ¬ mostOk n (h.1 73) x v → Q (some (.int 0)) (setI h 68 0 0) := fun z => by rwa [if_neg z, if_neg z] at hq
  by_cases c : hasI n x = 0
  · exact c_X12_most_10 (P17 := fun _ _ => False) RO_rm hcs0 (fun _ => no (fun z => by rw [z.1] at c; cases c)) (fun c1 => absurd c c1) (fun c1 => absurd c c1)
  obtain ⟨i, hi, rfl⟩ := hasI_ne (by have := hp.2.1; omega) c
  have hi20 : i < 20 := by have := hp.2.1; omega
  refine c_X12_most_10 RO_rm hcs0 (fun c1 => absurd c1 c) (fun _ => t_isIn (d := d + 1)) ?_
  rintro _ y g ⟨rfl, rfl⟩
  refine c_X12_most_20 hA0 RO_rm hcs0 (fun c1 => no (fun z => bt3 c1 ⟨z.2.1, z.2.2.1⟩)) (fun _ => t_many (d := d) hA0 (h := setI h 68 0 0) hF hi20) ?_
  rintro c1 y g ⟨rfl, rfl⟩
  obtain ⟨c1, c2⟩ := bt4 c1
  have e : (setI h 68 0 0).1 73 i = h.1 73 i := rfl
  refine c_X12_most_29 hA0 hF (fun _ => vin hi20 (by decide)) (fun c3 => ?_) (fun c3 => no (fun z => c3 (by have := z.2.2.2; rwa [tN (by omega)] at this)))
  have hk : mostOk n (h.1 73) (nI i) v := ⟨hasI_nI (by have := hp.2.1; omega) hi, c1, c2, by rw [tN (by omega)]; exact c3⟩
  rwa [if_pos hk, if_pos hk] at hq
-- far
def farI (n : Nat) (K : Nat → Int32) (x y : Int32) : Int32 := if hasI n x = 1 ∧ hasI n y = 1 then dstI K n (full n) x.toNatClampNeg y.toNatClampNeg else -1
theorem s_far {x y : Int32} (hA0 : 91 ≤ nx) (hF : Fx h) (hp : InvP h n) : Mk X (d + 2) m_X11_far [.ref 0, .int x, .int y] h nx sz (RE (farI n (h.1 2) x y) h) := by
  have h20 := hp.2.1
  refine Mk.re fun Q hq => e_X11_far (c_X11_far_0 hA0 hF RO_rm hcs0 (s_has (d := d + 1) hA0 (hp.np net1)) ?_)
  rintro y0 g ⟨rfl, rfl⟩
  by_cases c : hasI n x = 0
  · refine c_X11_far_8 (P16 := fun _ _ => False) hA0 hF RO_rm hcs0 (fun _ => ?_) (fun c1 => absurd c c1) (fun c1 => absurd c c1)
    unfold farI at hq
    rwa [if_neg (fun z => by rw [z.1] at c; cases c)] at hq
  refine c_X11_far_8 hA0 hF RO_rm hcs0 (fun c1 => absurd c1 c) (fun _ => s_has (d := d + 1) hA0 (hp.np net1)) ?_
  rintro _ y0 g ⟨rfl, rfl⟩
  by_cases c2 : hasI n y = 0
  · refine c_X11_far_19 (P35 := fun _ _ => False) hA0 hF RO_rm hcs0 (fun _ => ?_) (fun c1 => absurd c2 c1) (fun c1 => absurd c2 c1)
    unfold farI at hq
    rwa [if_neg (fun z => by rw [z.2] at c2; cases c2)] at hq
  obtain ⟨i, hi, rfl⟩ := hasI_ne (by omega) c
  obtain ⟨j, hj, rfl⟩ := hasI_ne (by omega) c2
  have e : farI n (h.1 2) (nI i) (nI j) = dstI (h.1 2) n (full n) i j := by
    unfold farI
    rw [if_pos ⟨hasI_nI (by omega) hi, hasI_nI (by omega) hj⟩, tN (by omega), tN (by omega)]
  rw [e] at hq
  refine c_X11_far_19 (P35 := fun y g => y = dstI (h.1 2) n (full n) i j ∧ h = g) hA0 hF RO_rm hcs0 (fun c1 => absurd c1 c2) (fun _ => ?_) ?_
  · rw [(hp.np net1).2.2.1]
    exact s_distance (d := d) hA0 hF (hp.np net1) hi hj
  · rintro _ y0 g ⟨rfl, rfl⟩
    exact c_X11_far_38 hq
theorem t_far {x y : Int32} (hA0 : 91 ≤ nx) (hF : Fx h) (hp : InvP h n) (hK : KB (h.1 73) n) : Mk X (d + 3) m_X12_far [.ref 68, .int x, .int y] h nx sz (RE (farI n (h.1 73) x y) (setI h 68 0 0)) := by
  have h20 := hp.2.1
  have hp1 : MP (setI h 68 0 0) n := hp.mp
  refine Mk.re fun Q hq => e_X12_far (c_X12_far_0 hA0 RO_rm hcs0 (t_isOne (d := d + 2) hA0 hp1) ?_)
  rintro y0 g ⟨rfl, rfl⟩
  by_cases c : hasI n x = 0
  · refine c_X12_far_10 (P15 := fun _ _ => False) hA0 RO_rm hcs0 (fun _ => ?_) (fun c1 => absurd c c1) (fun c1 => absurd c c1)
    unfold farI at hq
    rwa [if_neg (fun z => by rw [z.1] at c; cases c)] at hq
  refine c_X12_far_10 hA0 RO_rm hcs0 (fun c1 => absurd c1 c) (fun _ => t_isOne (d := d + 2) hA0 hp1) ?_
  rintro _ y0 g ⟨rfl, rfl⟩
  by_cases c2 : hasI n y = 0
  · refine c_X12_far_18 (P24 := fun _ _ => False) hA0 RO_rm hcs0 (fun _ => ?_) (fun c1 => absurd c2 c1) (fun c1 => absurd c2 c1)
    unfold farI at hq
    rwa [if_neg (fun z => by rw [z.2] at c2; cases c2)] at hq
  obtain ⟨i, hi, rfl⟩ := hasI_ne (by omega) c
  obtain ⟨j, hj, rfl⟩ := hasI_ne (by omega) c2
  have e : farI n (h.1 73) (nI i) (nI j) = dstI (h.1 73) n (-1) i j := by
    unfold farI
    rw [if_pos ⟨hasI_nI (by omega) hi, hasI_nI (by omega) hj⟩, tN (by omega), tN (by omega)]
    exact (dstI_mask hK (fun j hj => tb_m1f (by omega) hj) i j).symm
  rw [e] at hq
  refine c_X12_far_18 hA0 RO_rm hcs0 (fun c1 => absurd c1 c2) (fun _ => t_farOf (d := d) hA0 (h := setI h 68 0 0) hF hp1 hi hj) ?_
  rintro _ y0 g ⟨rfl, rfl⟩
  exact c_X12_far_27 hq
-- common
def comI (n : Nat) (K : Nat → Int32) (x y : Int32) : Int32 := if twoI n x y = 1 then bc (K x.toNatClampNeg &&& K y.toNatClampNeg) else -1
theorem s_common {x y : Int32} (hA0 : 91 ≤ nx) (hF : Fx h) (hp : InvP h n) : Mk X (d + 2) m_X11_common [.ref 0, .int x, .int y] h nx sz (RE (comI n (h.1 2) x y) h) := by
  have h20 := hp.2.1
  refine Mk.re fun Q hq => e_X11_common (c_X11_common_0 hA0 hF RO_rm hcs0 (s_hasTwo (d := d) hA0 (hp.np net1)) ?_)
  rintro y0 g ⟨rfl, rfl⟩
  by_cases c : twoI n x y = 0
  · refine c_X11_common_9 (P18 := fun _ _ => False) hA0 hF RO_rm hcs0 (fun _ => ?_) (fun c1 => absurd c c1) (fun c1 => absurd c c1)
    unfold comI at hq
    rwa [if_neg (fun z => by rw [z] at c; cases c)] at hq
  have c9 := twoI_01.resolve_left c
  obtain ⟨i, j, hi, hj, -, rfl, rfl⟩ := twoI_ne (by omega) c
  refine c_X11_common_9 hA0 hF RO_rm hcs0 (fun c1 => absurd c1 c) (fun _ => s_inCommon (d := d) hA0 hF net1 (by omega) (by omega)) ?_
  rintro _ y0 g ⟨rfl, rfl⟩
  refine c_X11_common_21 ?_
  unfold comI at hq
  rwa [if_pos c9, tN (by omega), tN (by omega)] at hq
theorem t_commonOf {i j : Nat} (hA0 : 91 ≤ nx) (hF : Fx h) (hi : i < 20) (hj : j < 20) : Mk X (d + 1) m_X12_commonOf [.ref 68, .int (nI i), .int (nI j)] h nx sz (RE (bc (h.1 73 i &&& h.1 73 j)) h) := by
  refine e_X12_commonOf (c_X12_commonOf_0 hA0 hF RO_rm hcs0 (vin hi (by decide)) (vin hj (by decide)) (s_bitCount (d := d)) ?_)
  rintro y g ⟨rfl, rfl⟩
  refine c_X12_commonOf_16 ⟨_, rfl, ?_, rfl⟩
  rw [tN (by omega), tN (by omega)]
theorem t_common {x y : Int32} (hA0 : 91 ≤ nx) (hF : Fx h) (hp : InvP h n) : Mk X (d + 2) m_X12_common [.ref 68, .int x, .int y] h nx sz (RE (comI n (h.1 73) x y) (setI h 68 0 0)) := by
  have h20 := hp.2.1
  have hp1 : MP (setI h 68 0 0) n := hp.mp
  refine Mk.re fun Q hq => e_X12_common (c_X12_common_0 hA0 RO_rm hcs0 (t_areTwo (d := d) hA0 hp1) ?_)
  rintro y0 g ⟨rfl, rfl⟩
  by_cases c : twoI n x y = 0
  · refine c_X12_common_11 (P17 := fun _ _ => False) hA0 RO_rm hcs0 (fun _ => ?_) (fun c1 => absurd c c1) (fun c1 => absurd c c1)
    unfold comI at hq
    rwa [if_neg (fun z => by rw [z] at c; cases c)] at hq
  have c9 := twoI_01.resolve_left c
  obtain ⟨i, j, hi, hj, -, rfl, rfl⟩ := twoI_ne (by omega) c
  refine c_X12_common_11 hA0 RO_rm hcs0 (fun c1 => absurd c1 c) (fun _ => t_commonOf (d := d) hA0 (h := setI h 68 0 0) hF (by omega) (by omega)) ?_
  rintro _ y0 g ⟨rfl, rfl⟩
  refine c_X12_common_20 ?_
  unfold comI at hq
  rwa [if_pos c9, tN (by omega), tN (by omega)] at hq
-- cost
theorem s_cost {x : Int32} (hA0 : 91 ≤ nx) (hF : Fx h) : Mk X d m_X11_cost [.ref 0, .int x] h nx sz (RE (if ¬ x < 0 ∧ ¬ 99 < x then 1 else 0) (if ¬ x < 0 ∧ ¬ 99 < x then setI h 40 4 x else h)) :=
  Mk.re fun Q hq => e_X11_cost (c_X11_cost_0 hA0 hF (fun c => by rwa [if_neg (fun z => z.1 c), if_neg (fun z => z.1 c)] at hq) (fun c c1 => by
    have c1 : ¬ 99 < x := fun z => absurd c1 (Int32.not_le.mpr z)
    rwa [if_pos ⟨c, c1⟩, if_pos ⟨c, c1⟩] at hq) (fun c c1 => by
    have c1 : 99 < x := Int32.not_le.mp c1
    rwa [if_neg (fun z => z.2 c1), if_neg (fun z => z.2 c1)] at hq))
theorem t_cost {x : Int32} (hA0 : 91 ≤ nx) : Mk X (d + 1) m_X12_cost [.ref 68, .int x] h nx sz (RE (if ¬ x < 0 ∧ ¬ 99 < x then 1 else 0) (if ¬ x < 0 ∧ ¬ 99 < x then setI (setI h 68 0 0) 68 31 x else setI h 68 0 0)) := by
  refine Mk.re fun Q hq => e_X12_cost (c_X12_cost_0 hA0 RO_rm hcs0 (t_isIn (d := d)) ?_)
  rintro y g ⟨rfl, rfl⟩
  refine c_X12_cost_12 hA0 (fun c => ?_) (fun c => ?_)
  · have c := bt4 c
    rwa [if_pos c, if_pos c] at hq
  · have c := bt3 c
    rwa [if_neg c, if_neg c] at hq
end OPS

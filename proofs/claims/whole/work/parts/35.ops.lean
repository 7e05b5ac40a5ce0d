/-! need, bound -/
section OPS
variable {X : CX} {d nx sz : Nat} {h : AH} {n : Nat}
theorem setI_b {a b i k : Nat} {x : Int32} (e : b ≠ a) : (setI h a i x).1 b k = h.1 b k := if_neg (fun z => e z.1)
theorem nI_le0 {v : Nat} (hv : v < 2 ^ 31) : nI v ≤ 0 ↔ v = 0 := by
  rw [show (0 : Int32) = nI 0 from rfl, le_nI hv (by decide)]
  omega
def putH (h : AH) (i j v m : Nat) : AH := setI (setI (setI h 40 3 (h.1 40 3 + ((if 0 < v then 1 else 0) - (if 0 < m then 1 else 0)))) (42 + i) j (nI v)) 62 i (if 0 < v then h.1 62 i ||| bt j else h.1 62 i &&& (bt j ^^^ (-1)))
theorem s_put_no {i j v : Nat} (hA0 : 91 ≤ nx) (hF : Fx h) (hi : i < 20) (hj : j < 20) (hv : v ≤ 99) (hm : h.1 (42 + i) j = nI 0) (c1 : 0 < v) (c2 : ¬ h.1 40 3 < 60) : Mk X d m_X2_putNeed [.ref 40, .int (nI i), .int (nI j), .int (nI v)] h nx sz (RE 0 h) := by
  obtain ⟨hk1, hk2⟩ := kd_much (X := X) hi
  refine Mk.re fun Q hq => e_X2_putNeed (c_X2_putNeed_0 hA0 hF hk1 (by omega) (vin hi (by decide)) ?_ (vin hj (by decide)) (fun _ c => ?_) (fun _ _ c => absurd c c2) (fun _ _ _ => hq) (fun c => ?_))
  · rw [tN (by omega)]
    exact hF 41 i _ hk2
  · rw [nI_le0 (by omega)] at c
    omega
  · rw [tN (by omega), hm] at c
    exact absurd (Int32.le_refl _) c
theorem s_put {i j v m : Nat} (hA0 : 91 ≤ nx) (hF : Fx h) (hi : i < 20) (hj : j < 20) (hv : v ≤ 99) (hm9 : m ≤ 99) (hm : h.1 (42 + i) j = nI m) (c : 0 < m ∨ v = 0 ∨ h.1 40 3 < 60) : Mk X d m_X2_putNeed [.ref 40, .int (nI i), .int (nI j), .int (nI v)] h nx sz (RE 1 (putH h i j v m)) := by
  obtain ⟨hk1, hk2⟩ := kd_much (X := X) hi
  have hr : h.2.2 41 (nI i).toNatClampNeg = some (42 + i) := by
    rw [tN (by omega)]
    exact hF 41 i _ hk2
  refine Mk.re fun Q hq => ?_
  have hw : ∀ a x y, (setI (setI h 40 3 x) (42 + i) j y).1 62 a = h.1 62 a := fun a x y => by rw [setI_b (by omega), setI_b (by omega)]
  have step : VM X m_X2_putNeed d nx sz Q 38 [some (.ref 40), some (.int (nI i)), some (.int (nI j)), some (.int (nI v)), some (.int (if 0 < m then 1 else 0))] [] h := by
    have z10 : ¬ (1 : Int32) = 0 := by decide
    by_cases hv0 : v = 0
    · subst hv0
      have hv1 : nI 0 ≤ 0 := Int32.le_refl _
      by_cases hm0 : 0 < m
      · rw [if_pos hm0]
        unfold putH at hq
        rw [if_pos hm0, if_neg (by omega), if_neg (by omega)] at hq
        refine c_X2_putNeed_38 hA0 hF hk1 (by omega) ?_ ?_ ?_ ?_ ?_ ?_ ?_ ?_ ?_ ?_ ?_ ?_ ?_ ?_ ?_ ?_ ?_ ?_ ?_ ?_ ?_ ?_ ?_ ?_ ?_ ?_ ?_ ?_ ?_ ?_ ?_ ?_ ?_ ?_ ?_ ?_ <;> intros <;> first | exact vin hi (by decide) | exact vin hj (by decide) | exact hr | contradiction | (rw [tN (i := i) (by omega), tN (i := j) (by omega), hw, bt_toInt32]; exact hq)
      · rw [if_neg hm0]
        unfold putH at hq
        rw [if_neg hm0, if_neg (by omega), if_neg (by omega)] at hq
        refine c_X2_putNeed_38 hA0 hF hk1 (by omega) ?_ ?_ ?_ ?_ ?_ ?_ ?_ ?_ ?_ ?_ ?_ ?_ ?_ ?_ ?_ ?_ ?_ ?_ ?_ ?_ ?_ ?_ ?_ ?_ ?_ ?_ ?_ ?_ ?_ ?_ ?_ ?_ ?_ ?_ ?_ ?_ <;> intros <;> first | exact vin hi (by decide) | exact vin hj (by decide) | exact hr | contradiction | (rw [tN (i := i) (by omega), tN (i := j) (by omega), hw, bt_toInt32]; exact hq)
    · have hv1 : ¬ nI v ≤ 0 := by
        rw [nI_le0 (by omega)]
        exact hv0
      by_cases hm0 : 0 < m
      · rw [if_pos hm0]
        unfold putH at hq
        rw [if_pos hm0, if_pos (by omega), if_pos (by omega)] at hq
        refine c_X2_putNeed_38 hA0 hF hk1 (by omega) ?_ ?_ ?_ ?_ ?_ ?_ ?_ ?_ ?_ ?_ ?_ ?_ ?_ ?_ ?_ ?_ ?_ ?_ ?_ ?_ ?_ ?_ ?_ ?_ ?_ ?_ ?_ ?_ ?_ ?_ ?_ ?_ ?_ ?_ ?_ ?_ <;> intros <;> first | exact vin hi (by decide) | exact vin hj (by decide) | exact hr | contradiction | (rw [tN (i := i) (by omega), tN (i := j) (by omega), hw, bt_toInt32]; exact hq)
      · rw [if_neg hm0]
        unfold putH at hq
        rw [if_neg hm0, if_pos (by omega), if_pos (by omega)] at hq
        refine c_X2_putNeed_38 hA0 hF hk1 (by omega) ?_ ?_ ?_ ?_ ?_ ?_ ?_ ?_ ?_ ?_ ?_ ?_ ?_ ?_ ?_ ?_ ?_ ?_ ?_ ?_ ?_ ?_ ?_ ?_ ?_ ?_ ?_ ?_ ?_ ?_ ?_ ?_ ?_ ?_ ?_ ?_ <;> intros <;> first | exact vin hi (by decide) | exact vin hj (by decide) | exact hr | contradiction | (rw [tN (i := i) (by omega), tN (i := j) (by omega), hw, bt_toInt32]; exact hq)
  refine e_X2_putNeed (c_X2_putNeed_0 hA0 hF hk1 (by omega) (vin hi (by decide)) hr (vin hj (by decide)) (fun c1 c2 => ?_) (fun c1 c2 c3 => ?_) (fun c1 c2 c3 => ?_) (fun c1 => ?_))
  · rw [tN (by omega), hm, nI_le0 (by omega)] at c1
    rw [if_neg (by omega)] at step
    exact step
  · rw [tN (by omega), hm, nI_le0 (by omega)] at c1
    rw [if_neg (by omega)] at step
    exact step
  · rw [tN (by omega), hm, nI_le0 (by omega)] at c1
    rw [nI_le0 (by omega)] at c2
    rcases c with c | c | c
    · omega
    · omega
    · exact absurd c c3
  · rw [tN (by omega), hm, nI_le0 (by omega)] at c1
    rw [if_pos (by omega)] at step
    exact step
theorem s_need_bad {x y z : Int32} (hA0 : 91 ≤ nx) (hF : Fx h) (hp : InvP h n) (c : twoI n x y = 0 ∨ z < 0 ∨ ¬ z ≤ 99) : Mk X (d + 2) m_X11_need [.ref 0, .int x, .int y, .int z] h nx sz (RE 0 h) := by
  refine Mk.re fun Q hq => e_X11_need (c_X11_need_0 hA0 hF RO_rm hcs0 (s_hasTwo (d := d) hA0 (hp.np net1)) ?_)
  rintro y0 g ⟨rfl, rfl⟩
  have no : ¬ twoI n x y = 0 → ¬ z < 0 → z ≤ 99 → False := fun c1 c2 c3 => by
    rcases c with c | c | c
    · exact c1 c
    · exact c2 c
    · exact c c3
  exact c_X11_need_9 (P31 := fun _ _ => False) hA0 hF RO_rm hcs0 (fun _ => hq) (fun _ _ => hq) (fun c1 c2 c3 => (no c1 c2 c3).elim) (fun c1 c2 c3 => (no c1 c2 c3).elim) (fun _ _ _ => hq)
theorem nI99 {v : Nat} (hv : v ≤ 99) : ¬ nI v < 0 ∧ nI v ≤ 99 ∧ ¬ 99 < nI v := by
  have : ∀ v, v < 100 → ¬ nI v < 0 ∧ nI v ≤ 99 ∧ ¬ 99 < nI v := by decide
  exact this v (by omega)
theorem s_need {i j v : Nat} {y : Int32} {g0 : AH} (hA0 : 91 ≤ nx) (hF : Fx h) (hp : InvP h n) (hi : i < n) (hj : j < n) (hij : i ≠ j) (hv : v ≤ 99) (hb : narrow .boolean (.int y) = .int y) (k : ∀ d, Mk X d m_X2_putNeed [.ref 40, .int (nI i), .int (nI j), .int (nI v)] h nx sz (RE y g0)) : Mk X (d + 2) m_X11_need [.ref 0, .int (nI i), .int (nI j), .int (nI v)] h nx sz (RE y g0) := by
  have h20 := hp.2.1
  refine Mk.re fun Q hq => e_X11_need (c_X11_need_0 hA0 hF RO_rm hcs0 (s_hasTwo (d := d) hA0 (hp.np net1)) ?_)
  rintro y0 g ⟨rfl, rfl⟩
  rw [twoI_nI (by omega) hi hj hij]
  obtain ⟨b1, b2, b3⟩ := nI99 hv
  refine c_X11_need_9 hA0 hF RO_rm hcs0 (fun z => by cases z) (fun _ z => absurd z b1) (fun _ _ _ => k (d + 1)) ?_ (fun _ _ z => absurd b2 z)
  rintro _ _ _ y0 g ⟨rfl, rfl⟩
  exact c_X11_need_34 hq hb
theorem t_need_bad {x y z : Int32} (hA0 : 91 ≤ nx) (hF : Fx h) (hp : InvP h n) (c : twoI n x y = 0 ∨ z < 0 ∨ ¬ z ≤ 99) : Mk X (d + 2) m_X12_need [.ref 68, .int x, .int y, .int z] h nx sz (RE 0 (setI h 68 0 0)) := by
  have hF0 : Fx (setI h 68 0 0) := hF
  refine Mk.re fun Q hq => e_X12_need (c_X12_need_0 hA0 RO_rm hcs0 (t_areTwo (d := d) (h := setI h 68 0 0) hA0 hp.mp) ?_)
  rintro y0 g ⟨rfl, rfl⟩
  refine c_X12_need_11 RO_rm hcs0 (fun _ => hq) (fun _ => t_isIn (d := d + 1)) ?_
  rintro c1 y0 g ⟨rfl, rfl⟩
  have e : (if ¬ z < 0 ∧ ¬ 99 < z then (1 : Int32) else 0) = 0 := is0 fun q => by
    rcases c with c | c | c
    · exact c1 c
    · exact q.1 c
    · exact c (Int32.not_lt.mp q.2)
  rw [e]
  refine c_X12_need_21 hA0 hF0 ?_ ?_ ?_ ?_ ?_ ?_ ?_ ?_ ?_ ?_ ?_ ?_ ?_ ?_ ?_ ?_ ?_ ?_ ?_ ?_ ?_ ?_ ?_ ?_ ?_ ?_ ?_ ?_ ?_ ?_ ?_ ?_ ?_ <;> first | exact fun _ => hq | exact fun z => absurd rfl z
def putT (h : AH) (i j v m : Nat) : AH := setI (setI h 68 30 (h.1 68 30 + ((if 0 < v then 1 else 0) - (if 0 < m then 1 else 0)))) 83 (20 * i + j) (nI v)
theorem e20j {i j : Nat} : (20 * nI i) + nI j = nI (20 * i + j) := by rw [show (20 : Int32) = nI 20 from rfl, pk_mul, nI_add]
theorem t_need {i j v m : Nat} (hA0 : 91 ≤ nx) (hF : Fx h) (hp : InvP h n) (hi : i < n) (hj : j < n) (hij : i ≠ j) (hv : v ≤ 99) (hm9 : m ≤ 99) (hm : h.1 83 (20 * i + j) = nI m) (c : 0 < m ∨ v = 0 ∨ ¬ h.1 68 30 = 60) : Mk X (d + 2) m_X12_need [.ref 68, .int (nI i), .int (nI j), .int (nI v)] h nx sz (RE 1 (putT (setI h 68 0 0) i j v m)) := by
  have h20 := hp.2.1
  have hF0 : Fx (setI h 68 0 0) := hF
  refine Mk.re fun Q hq => e_X12_need (c_X12_need_0 hA0 RO_rm hcs0 (t_areTwo (d := d) (h := setI h 68 0 0) hA0 hp.mp) ?_)
  rintro y0 g ⟨rfl, rfl⟩
  rw [twoI_nI (by omega) hi hj hij]
  refine c_X12_need_11 RO_rm hcs0 (fun z => by cases z) (fun _ => t_isIn (d := d + 1)) ?_
  rintro c1 y0 g ⟨rfl, rfl⟩
  obtain ⟨b1, b2, b3⟩ := nI99 hv
  rw [if_pos ⟨b1, b3⟩]
  have hm' : (setI h 68 0 0).1 83 (20 * i + j) = nI m := hm
  unfold putT at hq
  have v4 : vp_in (nI (20 * i + j)) 400 := vin (by omega) (by decide)
  have hc : ¬ (m = 0 ∧ 0 < v ∧ (setI h 68 0 0).1 68 30 = 60) := fun q => by
    rcases c with c | c | c
    · omega
    · omega
    · exact c q.2.2
  have e1 : nI m = 0 ↔ m = 0 := nI_eq (b := 0) (by omega) (by decide)
  have e2 : nI m ≤ 0 ↔ m = 0 := nI_le0 (by omega)
  have e3 : nI v ≤ 0 ↔ v = 0 := nI_le0 (by omega)
  have z10 : ¬ (1 : Int32) = 0 := by decide
  refine c_X12_need_21 hA0 hF0 ?_ ?_ ?_ ?_ ?_ ?_ ?_ ?_ ?_ ?_ ?_ ?_ ?_ ?_ ?_ ?_ ?_ ?_ ?_ ?_ ?_ ?_ ?_ ?_ ?_ ?_ ?_ ?_ ?_ ?_ ?_ ?_ ?_ <;> (try simp only [e20j, tN (show 20 * i + j < 2 ^ 31 by omega), hm', e1, e2, e3]) <;> intros <;> first | exact v4 | contradiction | (exfalso; omega) | (exact absurd ⟨‹m = 0›, by omega, ‹(setI h 68 0 0).1 68 30 = 60›⟩ hc) | skip
  all_goals (first | rw [if_pos (by omega : 0 < v), if_pos (by omega : 0 < m)] at hq | rw [if_pos (by omega : 0 < v), if_neg (by omega : ¬ 0 < m)] at hq | rw [if_neg (by omega : ¬ 0 < v), if_pos (by omega : 0 < m)] at hq | rw [if_neg (by omega : ¬ 0 < v), if_neg (by omega : ¬ 0 < m)] at hq)
  all_goals exact hq
theorem t_need_no {i j v : Nat} (hA0 : 91 ≤ nx) (hF : Fx h) (hp : InvP h n) (hi : i < n) (hj : j < n) (hij : i ≠ j) (hv : v ≤ 99) (hm : h.1 83 (20 * i + j) = nI 0) (c1 : 0 < v) (c2 : h.1 68 30 = 60) : Mk X (d + 2) m_X12_need [.ref 68, .int (nI i), .int (nI j), .int (nI v)] h nx sz (RE 0 (setI h 68 0 0)) := by
  have h20 := hp.2.1
  have hF0 : Fx (setI h 68 0 0) := hF
  refine Mk.re fun Q hq => e_X12_need (c_X12_need_0 hA0 RO_rm hcs0 (t_areTwo (d := d) (h := setI h 68 0 0) hA0 hp.mp) ?_)
  rintro y0 g ⟨rfl, rfl⟩
  rw [twoI_nI (by omega) hi hj hij]
  refine c_X12_need_11 RO_rm hcs0 (fun z => by cases z) (fun _ => t_isIn (d := d + 1)) ?_
  rintro c0 y0 g ⟨rfl, rfl⟩
  obtain ⟨b1, b2, b3⟩ := nI99 hv
  rw [if_pos ⟨b1, b3⟩]
  have hm' : (setI h 68 0 0).1 83 (20 * i + j) = nI 0 := hm
  have v4 : vp_in (nI (20 * i + j)) 400 := vin (by omega) (by decide)
  have hc : (setI h 68 0 0).1 68 30 = 60 := c2
  have e1 : nI 0 = 0 ↔ True := iff_true_intro rfl
  have e2 : nI 0 ≤ 0 ↔ True := by simp [nI_le0]
  have e3 : nI v ≤ 0 ↔ v = 0 := nI_le0 (by omega)
  have z10 : ¬ (1 : Int32) = 0 := by decide
  refine c_X12_need_21 hA0 hF0 ?_ ?_ ?_ ?_ ?_ ?_ ?_ ?_ ?_ ?_ ?_ ?_ ?_ ?_ ?_ ?_ ?_ ?_ ?_ ?_ ?_ ?_ ?_ ?_ ?_ ?_ ?_ ?_ ?_ ?_ ?_ ?_ ?_ <;> (try simp only [e20j, tN (show 20 * i + j < 2 ^ 31 by omega), hm', e1, e2, e3]) <;> intros <;> first | exact v4 | contradiction | (exfalso; omega) | exact hq | skip
end OPS

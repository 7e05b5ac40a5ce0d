/-! bound -/
section OPS
variable {X : CX} {d nx sz : Nat} {h : AH} {n : Nat}
/-- left, now, sum behind k steps -/
def bdS (n t : Nat) : Nat → Nat × Nat × Nat
  | 0 => (n - 1, t, 0)
  | k + 1 => let s := bdS n t k; (s.1 - min s.1 s.2.1, min 20 (s.2.1 * (t - 1)), s.2.2 + (k + 1) * min s.1 s.2.1)
def bdT (n t : Nat) : Nat → Nat × Nat × Nat
  | 0 => (n - 1, t, 0)
  | k + 1 => let s := bdT n t k; (s.1 - min s.1 s.2.1, s.2.1 * (t - 1), s.2.2 + (k + 1) * min s.1 s.2.1)
def bdV (n t : Nat) : Nat := (bdS n t (n - 1)).2.2 + n * (bdS n t (n - 1)).1
def bdC (n t k : Nat) : Bool := decide ((bdS n t k).1 ≤ 19) && decide ((bdS n t k).2.1 ≤ 20) && (decide (0 < (bdS n t k).1) || decide ((bdS n t k).2.2 = bdV n t)) && (decide ((bdT n t k).1 = 0) || decide ((bdT n t k).2.1 < 100)) && decide ((bdT n t k).1 ≤ 19) && (decide (0 < (bdT n t k).1 ∧ 0 < (bdT n t k).2.1) || decide ((bdT n t k).2.2 + (bdT n t k).1 * n = bdV n t))
theorem bd_ok {t : Nat} (h2 : 2 ≤ n) (hn : n ≤ 20) (h1 : 1 ≤ t) (ht : t ≤ 9) : (∀ k, k < n → (bdS n t k).1 ≤ 19 ∧ (bdS n t k).2.1 ≤ 20 ∧ ((bdS n t k).1 = 0 → (bdS n t k).2.2 = bdV n t)) ∧ (∀ k, k < n → 0 < (bdT n t k).1 → (bdT n t k).2.1 < 100) ∧ (∀ k, k < n → (bdT n t k).1 ≤ 19 ∧ ((bdT n t k).1 = 0 ∨ (bdT n t k).2.1 = 0 → (bdT n t k).2.2 + (bdT n t k).1 * n = bdV n t)) ∧ ((bdT n t (n - 1)).1 = 0 ∨ (bdT n t (n - 1)).2.1 = 0) := by
  have a0 : ∀ n, n < 21 → ∀ t, t < 10 → (n < 2 || t < 1 || (List.range n).all (bdC n t)) = true := by decide +kernel
  have a5 := a0 n (by omega) t (by omega)
  have e1 : decide (n < 2) = false := by simp; omega
  have e2 : decide (t < 1) = false := by simp; omega
  rw [e1, e2, Bool.false_or, Bool.false_or, List.all_eq_true] at a5
  have a6 : ∀ k, k < n → bdC n t k = true := fun k hk => a5 k (List.mem_range.mpr hk)
  simp only [bdC, Bool.and_eq_true, Bool.or_eq_true, decide_eq_true_eq] at a6
  have a4 : ∀ n, n < 21 → 2 ≤ n → ∀ t, t < 10 → 1 ≤ t → ((bdT n t (n - 1)).1 = 0 ∨ (bdT n t (n - 1)).2.1 = 0) := by decide +kernel
  refine ⟨fun k hk => ?_, fun k hk => ?_, fun k hk => ?_, ?_⟩
  · obtain ⟨⟨⟨⟨⟨b1, b2⟩, b3⟩, b4⟩, b5⟩, b6⟩ := a6 k hk
    exact ⟨b1, b2, by omega⟩
  · obtain ⟨⟨⟨⟨⟨b1, b2⟩, b3⟩, b4⟩, b5⟩, b6⟩ := a6 k hk
    omega
  · obtain ⟨⟨⟨⟨⟨b1, b2⟩, b3⟩, b4⟩, b5⟩, b6⟩ := a6 k hk
    exact ⟨b5, fun z => b6.resolve_left (by omega)⟩
  exact a4 n (by omega) h2 t (by omega) h1
theorem nI_min {a b : Nat} (ha : a < 2 ^ 31) (hb : b < 2 ^ 31) : (if nI a < nI b then nI a else nI b) = nI (min b a) := by
  by_cases c : a < b
  · rw [if_pos ((nI_ltI ha hb).mpr c), show min b a = a by omega]
  · rw [if_neg (fun z => c ((nI_ltI ha hb).mp z)), show min b a = b by omega]
theorem nI_min2 {a b : Nat} (ha : a < 2 ^ 31) (hb : b < 2 ^ 31) : (if nI a < nI b then nI a else nI b) = nI (min a b) := by
  rw [nI_min ha hb, Nat.min_comm]
theorem nI_subN {a b : Nat} (h : b ≤ a) : nI a - nI b = nI (a - b) := by
  have : nI a = nI (a - b) + nI b := by rw [nI_add, show a - b + b = a by omega]
  rw [this]
  exact Int32.add_sub_cancel _ _
theorem nI_19 {t : Nat} (h1 : 1 ≤ t) (ht : t ≤ 9) : ¬ nI t < 1 ∧ nI t ≤ 9 ∧ ¬ 9 < nI t := by
  have : ∀ t, t < 10 → 1 ≤ t → ¬ nI t < 1 ∧ nI t ≤ 9 ∧ ¬ 9 < nI t := by decide
  exact this t (by omega) h1
theorem s_bound_bad {x : Int32} (hA0 : 91 ≤ nx) (c : x < 1 ∨ ¬ x ≤ 9) : Mk X (d + 1) m_X11_bound [.ref 0, .int x] h nx sz (RE (-1) h) :=
  Mk.re fun Q hq => e_X11_bound (c_X11_bound_0 hA0 (fun _ => hq) (fun c1 c2 => absurd c (by rintro (z | z); exact c1 z; exact z c2)) (fun _ _ => hq))
theorem s_bound {t : Nat} (hA0 : 91 ≤ nx) (hp : InvP h n) (h1 : 1 ≤ t) (ht : t ≤ 9) : Mk X (d + 1) m_X11_bound [.ref 0, .int (nI t)] h nx sz (RE (nI (bdV n t)) h) := by
  obtain ⟨h2, h20, h0, -, -⟩ := hp
  obtain ⟨b1, b2, b3⟩ := nI_19 h1 ht
  obtain ⟨o1, -, -, -⟩ := bd_ok h2 h20 h1 ht
  refine Mk.re fun Q hq => e_X11_bound (c_X11_bound_0 hA0 (fun z => absurd z b1) (fun _ _ => ?_) (fun _ z => absurd b2 z))
  have key : VM X m_X11_bound (d + 1) nx sz Q 28 [some (.ref 0), some (.int (nI t)), some (.int (nI (bdS n t 0).1)), some (.int (nI (bdS n t 0).2.1)), some (.int (nI (bdS n t 0).2.2)), some (.int (nI (0 + 1))), none] [] h := by
    refine down_ind (N := n - 1) (P := fun k => VM X m_X11_bound (d + 1) nx sz Q 28 [some (.ref 0), some (.int (nI t)), some (.int (nI (bdS n t k).1)), some (.int (nI (bdS n t k).2.1)), some (.int (nI (bdS n t k).2.2)), some (.int (nI (k + 1))), none] [] h) ?_ (fun k hk q => ?_)
    · have ex : h.1 0 0 ≤ nI (n - 1 + 1) := by rw [h0, show n - 1 + 1 = n by omega]; exact Int32.le_refl _
      refine c_X11_bound_28 (d := d) hA0 RO_rm hcs0 (fun _ => ?_) (fun c => absurd ex c) (fun c => absurd ex c)
      rw [h0, pk_mul, nI_add]
      exact hq
    · obtain ⟨p1, p2, p3⟩ := o1 k (by omega)
      refine c_X11_bound_28 (d := d) hA0 RO_rm hcs0 (fun c => ?_) (fun _ c => ?_) (fun _ c => ?_)
      · rw [h0, le_nI (by omega) (by omega)] at c
        omega
      · rw [nI_le0 (by omega)] at c
        rw [h0, pk_mul, nI_add, p3 c, c]
        exact hq
      · have e1 : nI t - 1 = nI (t - 1) := nI_subN (b := 1) h1
        have hm : min (bdS n t k).1 (bdS n t k).2.1 ≤ (bdS n t k).1 := Nat.min_le_left _ _
        have hx : (bdS n t k).2.1 * (t - 1) ≤ 20 * 8 := Nat.mul_le_mul p2 (by omega)
        rw [nI_min (by omega) (by omega), e1, pk_mul, show (20 : Int32) = nI 20 from rfl, nI_min2 (by omega) (by omega), nI_subN hm, pk_mul, nI_add, nI_1, Nat.min_comm ((bdS n t k).2.1 * (t - 1)) 20]
        exact q
  have e0 : nI (n - 1) = h.1 0 0 - 1 := by rw [h0]; exact (nI_subN (b := 1) (by omega)).symm
  rw [← e0]
  exact key
theorem t_bound_bad {x : Int32} (hA0 : 91 ≤ nx) (c : x < 1 ∨ ¬ x ≤ 9) : Mk X (d + 1) m_X12_bound [.ref 68, .int x] h nx sz (RE (-1) (setI h 68 0 0)) := by
  refine Mk.re fun Q hq => e_X12_bound (c_X12_bound_0 hA0 RO_rm hcs0 (t_isIn (d := d)) ?_)
  rintro y0 g ⟨rfl, rfl⟩
  refine c_X12_bound_12 hA0 (fun z => absurd (bt4 z) fun q => ?_) (fun _ => hq)
  rcases c with c | c
  · exact q.1 c
  · exact c (Int32.not_lt.mp q.2)
theorem t_bound {t : Nat} (hA0 : 91 ≤ nx) (hp : InvP h n) (h1 : 1 ≤ t) (ht : t ≤ 9) : Mk X (d + 1) m_X12_bound [.ref 68, .int (nI t)] h nx sz (RE (nI (bdV n t)) (setI h 68 0 0)) := by
  obtain ⟨h0, h2, h20⟩ := hp.mp
  obtain ⟨b1, b2, b3⟩ := nI_19 h1 ht
  obtain ⟨-, o1, o2, o3⟩ := bd_ok h2 h20 h1 ht
  refine Mk.re fun Q hq => e_X12_bound (c_X12_bound_0 hA0 RO_rm hcs0 (t_isIn (d := d)) ?_)
  rintro y0 g ⟨rfl, rfl⟩
  refine c_X12_bound_12 hA0 (fun _ => ?_) (fun z => absurd z (ne0 ⟨b1, b3⟩))
  have h0' : (setI h 68 0 0).1 68 1 = nI n := h0
  have key : VM X m_X12_bound (d + 1) nx sz Q 32 [some (.ref 68), some (.int (nI t)), some (.int (nI (bdT n t 0).1)), some (.int (nI (bdT n t 0).2.2)), some (.int (nI (bdT n t 0).2.1)), some (.int (nI (0 + 1))), none] [] (setI h 68 0 0) := by
    refine down_ind (N := n - 1) (P := fun k => VM X m_X12_bound (d + 1) nx sz Q 32 [some (.ref 68), some (.int (nI t)), some (.int (nI (bdT n t k).1)), some (.int (nI (bdT n t k).2.2)), some (.int (nI (bdT n t k).2.1)), some (.int (nI (k + 1))), none] [] (setI h 68 0 0)) ?_ (fun k hk q => ?_)
    · obtain ⟨p1, p2⟩ := o2 (n - 1) (by omega)
      have p3 := o1 (n - 1) (by omega)
      refine c_X12_bound_32 (d := d) hA0 RO_rm hcs0 (fun _ => ?_) (fun _ _ => ?_) (fun c c1 => ?_)
      · rw [h0', pk_mul, nI_add, p2 o3]
        exact hq
      · rw [h0', pk_mul, nI_add, p2 o3]
        exact hq
      · rw [nI_le0 (by omega)] at c
        have p3 := p3 (by omega)
        rw [nI_le0 (by omega)] at c1
        omega
    · obtain ⟨p1, p2⟩ := o2 k (by omega)
      have p3 := o1 k (by omega)
      refine c_X12_bound_32 (d := d) hA0 RO_rm hcs0 (fun c => ?_) (fun c c1 => ?_) (fun c _ => ?_)
      · rw [nI_le0 (by omega)] at c
        rw [h0', pk_mul, nI_add, p2 (Or.inl c)]
        exact hq
      · rw [nI_le0 (by omega)] at c
        have p3 := p3 (by omega)
        rw [nI_le0 (by omega)] at c1
        rw [h0', pk_mul, nI_add, p2 (Or.inr c1)]
        exact hq
      · rw [nI_le0 (by omega)] at c
        have p3 := p3 (by omega)
        have e1 : nI t - 1 = nI (t - 1) := nI_subN (b := 1) h1
        have hm : min (bdT n t k).1 (bdT n t k).2.1 ≤ (bdT n t k).1 := Nat.min_le_left _ _
        rw [nI_min (by omega) (by omega), e1, pk_mul, nI_subN hm, pk_mul, nI_add, nI_1, Nat.mul_comm (min _ _) (k + 1)]
        exact q
  have e0 : nI (n - 1) = (setI h 68 0 0).1 68 1 - 1 := by rw [h0']; exact (nI_subN (b := 1) (by omega)).symm
  rw [← e0]
  exact key
end OPS

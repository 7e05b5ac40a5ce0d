/-! gain, change, best, stable -/
section OPS
variable {X : CX} {d nx sz : Nat} {h : AH} {n : Nat} {K L : Nat → Int32} {M : Nat → Nat → Nat} {c : Nat}
def bdX (n : Nat) (x : Int32) : Prop := x ≠ -1 ∧ hasI n x = 0
theorem x_ov {x : Int32} (hn : n < 2 ^ 31) (h : ¬ bdX n x) : ∃ o, (∀ j, o = some j → j < n) ∧ x = ovI o := by
  by_cases c : x = -1
  · exact ⟨none, fun j hj => (by cases hj), c⟩
  · obtain ⟨i, hi, e⟩ := hasI_ne hn (fun z => h ⟨c, z⟩)
    exact ⟨some i, fun j hj => (by cases hj; exact hi), e⟩
theorem tieI_bd {x y : Int32} (h : hasI n y = 0) : tieI n K x y = 0 := by
  unfold tieI
  rw [if_neg (fun z => by rw [z.2.1] at h; cases h)]
theorem s_mayDrop_bad {x y : Int32} (hA0 : 91 ≤ nx) (m : CM h n K L M c) (b : bdX n y) : Mk X (d + 3) m_X2_mayDrop [.ref 40, .int x, .int y] h nx sz (RE 0 h) := by
  obtain ⟨hF, hP, -⟩ := m
  refine Mk.re fun Q hq => e_X2_mayDrop ?_
  refine c_X2_mayDrop_0 (P10 := fun _ _ => False) hA0 hF RO_rm hcs0 (fun _ => s_tied (d := d + 1) hA0 hF (hP.np net1)) ?_ (fun z => absurd z b.1) (fun z => absurd z b.1)
  rintro _ _ g ⟨rfl, rfl⟩
  rw [tieI_bd b.2]
  exact c_X2_mayDrop_33 hq rfl
theorem t_mayDrop_bad {x y : Int32} (hA0 : 91 ≤ nx) (m : CT h n K L M c) (b : bdX n y) : Mk X (d + 1) m_X12_mayDrop [.ref 68, .int x, .int y] h nx sz (RE 0 h) := by
  obtain ⟨hF, hP, -⟩ := m
  refine Mk.re fun Q hq => e_X12_mayDrop ?_
  refine c_X12_mayDrop_0 hA0 RO_rm hcs0 (fun z => absurd z b.1) (fun _ => t_isOne (d := d) hA0 hP.mp) ?_
  rintro _ _ g ⟨rfl, rfl⟩
  rw [b.2]
  exact c_X12_mayDrop_10 (d := d) (P20 := fun _ _ => False) hA0 hF RO_rm hcs0 (fun _ => hq) (fun z => absurd rfl z) (fun z => absurd rfl z) (fun z => absurd rfl z)
def bd4 (n : Nat) (x1 x2 x3 x4 : Int32) : Prop := twoI n x1 x3 = 0 ∨ bdX n x2 ∨ bdX n x4
theorem nbd4 {x1 x2 x3 x4 : Int32} (hn : n < 2 ^ 31) (h : ¬ bd4 n x1 x2 x3 x4) : ∃ a b o p, a < n ∧ b < n ∧ a ≠ b ∧ (∀ j, o = some j → j < n) ∧ (∀ j, p = some j → j < n) ∧ x1 = nI a ∧ x2 = ovI o ∧ x3 = nI b ∧ x4 = ovI p := by
  obtain ⟨a, b, h1, h2, h3, h4, h5⟩ := twoI_ne hn (fun z => h (Or.inl z))
  obtain ⟨o, o1, o2⟩ := x_ov hn (fun z => h (Or.inr (Or.inl z)))
  obtain ⟨p, p1, p2⟩ := x_ov hn (fun z => h (Or.inr (Or.inr z)))
  exact ⟨a, b, o, p, h1, h2, h3, o1, p1, h4, o2, h5, p2⟩
theorem s_canBe {a b : Nat} {o p : Option Nat} (hA0 : 91 ≤ nx) (m : CM h n K L M c) (ha : a < n) (hb : b < n) (hab : a ≠ b) (ho : ∀ j, o = some j → j < n) (hp : ∀ j, p = some j → j < n) : Mk X (d + 4) m_X2_canBe [.ref 40, .int (nI a), .int (ovI o), .int (nI b), .int (ovI p)] h nx sz (RE (if cbB K L a o b p = true then 1 else 0) h) := by
  obtain ⟨hF, hP, e2, e3, hg, hL, hN, hc, hc9⟩ := id m
  have h20 := hP.2.1
  refine Mk.re fun Q hq => e_X2_canBe (c_X2_canBe_0 hA0 hF RO_rm hcs0 (s_hasTwo (d := d + 2) hA0 (hP.np net1)) ?_)
  rintro _ g ⟨rfl, rfl⟩
  have no : ¬ cbB K L a o b p = true → Q (some (.int 0)) h := fun z => by rw [if_neg z] at hq; exact hq
  rw [twoI_nI (by omega) ha hb hab]
  refine c_X2_canBe_9 hA0 hF RO_rm hcs0 (fun z => by cases z) (fun _ => s_tied (d := d + 2) hA0 hF (hP.np net1)) ?_
  rintro _ _ g ⟨rfl, rfl⟩
  have a1 : h.1 (1 + 1) = K := e2
  rw [a1, tieI_nI h20 ha hb]
  by_cases hK : tb (K a) b = true
  · rw [if_pos hK]
    exact c_X2_canBe_21 (d := d + 3) (P27 := fun _ _ => False) hA0 RO_rm hcs0 (fun _ => no (fun z => by have := (cbB_iff.mp z).2.1; rw [hK] at this; cases this)) (fun z => by cases z) (fun z => by cases z)
  rw [if_neg hK]
  have hK : tb (K a) b = false := by simpa using hK
  refine c_X2_canBe_21 hA0 RO_rm hcs0 (fun z => absurd rfl z) (fun _ => s_mayDrop (d := d) hA0 m ha ho) ?_
  rintro _ _ g ⟨rfl, rfl⟩
  by_cases q : mdB K L a o = true
  rotate_left
  · rw [if_neg q]
    exact c_X2_canBe_30 (d := d + 3) (P37 := fun _ _ => False) hA0 RO_rm hcs0 (fun _ => no (fun z => q (cbB_iff.mp z).2.2.1)) (fun z => absurd rfl z) (fun z => absurd rfl z)
  rw [if_pos q]
  refine c_X2_canBe_30 hA0 RO_rm hcs0 (fun z => by cases z) (fun _ => s_mayDrop (d := d) hA0 m hb hp) ?_
  rintro _ _ g ⟨rfl, rfl⟩
  refine c_X2_canBe_40 (fun z => no (fun y => bt3 z (cbB_iff.mp y).2.2.2)) (fun z => ?_)
  rw [if_pos (cbB_iff.mpr ⟨hab, hK, q, bt4 z⟩)] at hq
  exact hq
theorem s_canBe_bad {x1 x2 x3 x4 : Int32} (hA0 : 91 ≤ nx) (m : CM h n K L M c) (b : bd4 n x1 x2 x3 x4) : Mk X (d + 4) m_X2_canBe [.ref 40, .int x1, .int x2, .int x3, .int x4] h nx sz (RE 0 h) := by
  obtain ⟨hF, hP, e2, e3, hg, hL, hN, hc, hc9⟩ := id m
  have h20 := hP.2.1
  refine Mk.re fun Q hq => e_X2_canBe (c_X2_canBe_0 hA0 hF RO_rm hcs0 (s_hasTwo (d := d + 2) hA0 (hP.np net1)) ?_)
  rintro _ g ⟨rfl, rfl⟩
  by_cases c1 : twoI n x1 x3 = 0
  · exact c_X2_canBe_9 (d := d + 3) (P18 := fun _ _ => False) hA0 hF RO_rm hcs0 (fun _ => hq) (fun z => absurd c1 z) (fun z => absurd c1 z)
  have bb := b.resolve_left c1
  obtain ⟨i, j, hi, hj, -, rfl, rfl⟩ := twoI_ne (by omega) c1
  refine c_X2_canBe_9 hA0 hF RO_rm hcs0 (fun z => absurd z c1) (fun _ => s_tied (d := d + 2) hA0 hF (hP.np net1)) ?_
  rintro _ _ g ⟨rfl, rfl⟩
  by_cases c2 : tieI n (h.1 (1 + 1)) (nI i) (nI j) = 0
  rotate_left
  · exact c_X2_canBe_21 (d := d + 3) (P27 := fun _ _ => False) hA0 RO_rm hcs0 (fun _ => hq) (fun z => absurd z c2) (fun z => absurd z c2)
  by_cases b2 : bdX n x2
  · refine c_X2_canBe_21 hA0 RO_rm hcs0 (fun z => absurd c2 z) (fun _ => s_mayDrop_bad (d := d) hA0 m b2) ?_
    rintro _ _ g ⟨rfl, rfl⟩
    exact c_X2_canBe_30 (d := d + 3) (P37 := fun _ _ => False) hA0 RO_rm hcs0 (fun _ => hq) (fun z => absurd rfl z) (fun z => absurd rfl z)
  have b4 := bb.resolve_left b2
  obtain ⟨o, o1, rfl⟩ := x_ov (by omega) b2
  refine c_X2_canBe_21 hA0 RO_rm hcs0 (fun z => absurd c2 z) (fun _ => s_mayDrop (d := d) hA0 m hi o1) ?_
  rintro _ _ g ⟨rfl, rfl⟩
  refine c_X2_canBe_30 hA0 RO_rm hcs0 (fun _ => hq) (fun _ => s_mayDrop_bad (d := d) hA0 m b4) ?_
  rintro _ _ g ⟨rfl, rfl⟩
  exact c_X2_canBe_40 (fun _ => hq) (fun z => absurd rfl z)
theorem t_canChange_bad {x1 x2 x3 x4 : Int32} (hA0 : 91 ≤ nx) (m : CT h n K L M c) (b : bd4 n x1 x2 x3 x4) : Mk X (d + 2) m_X12_canChange [.ref 68, .int x1, .int x2, .int x3, .int x4] h nx sz (RE 0 h) := by
  obtain ⟨hF, hP, e2, e3, hg, hL, hN, hc, hc9⟩ := id m
  have h20 := hP.2.1
  refine Mk.re fun Q hq => e_X12_canChange (c_X12_canChange_0 hA0 RO_rm hcs0 (t_areTwo (d := d) hA0 hP.mp) ?_)
  rintro _ g ⟨rfl, rfl⟩
  by_cases c1 : twoI n x1 x3 = 0
  · exact c_X12_canChange_6 (d := d + 1) (P16 := fun _ _ => False) hA0 hF RO_rm hcs0 (fun _ => hq) (fun z => absurd c1 z) (fun z => absurd c1 z) (fun z => absurd c1 z)
  have bb := b.resolve_left c1
  obtain ⟨i, j, hi, hj, -, rfl, rfl⟩ := twoI_ne (by omega) c1
  refine c_X12_canChange_6 hA0 hF RO_rm hcs0 (fun z => absurd z c1) (fun _ => vin (by omega) (by decide)) (fun _ => t_has (d := d + 1) (by omega)) ?_
  rintro _ _ g ⟨rfl, rfl⟩
  by_cases c2 : (if tb (h.1 73 (nI i).toNatClampNeg) j = true then (1 : Int32) else 0) = 0
  rotate_left
  · exact c_X12_canChange_19 (d := d + 1) (P25 := fun _ _ => False) hA0 RO_rm hcs0 (fun _ => hq) (fun z => absurd z c2) (fun z => absurd z c2)
  by_cases b2 : bdX n x2
  · refine c_X12_canChange_19 hA0 RO_rm hcs0 (fun z => absurd c2 z) (fun _ => t_mayDrop_bad (d := d) hA0 m b2) ?_
    rintro _ _ g ⟨rfl, rfl⟩
    exact c_X12_canChange_28 (d := d + 1) (P35 := fun _ _ => False) hA0 RO_rm hcs0 (fun _ => hq) (fun z => absurd rfl z) (fun z => absurd rfl z)
  have b4 := bb.resolve_left b2
  obtain ⟨o, o1, rfl⟩ := x_ov (by omega) b2
  refine c_X12_canChange_19 hA0 RO_rm hcs0 (fun z => absurd c2 z) (fun _ => t_mayDrop (d := d) hA0 m hi o1) ?_
  rintro _ _ g ⟨rfl, rfl⟩
  refine c_X12_canChange_28 hA0 RO_rm hcs0 (fun _ => hq) (fun _ => t_mayDrop_bad (d := d) hA0 m b4) ?_
  rintro _ _ g ⟨rfl, rfl⟩
  exact c_X12_canChange_38 (d := d + 1) (P45 := fun _ _ => False) hA0 RO_rm hcs0 (fun z => absurd rfl z) (fun z => absurd rfl z) (fun _ => hq)
-- gain
def bdG (n : Nat) (x1 x2 x3 x4 x5 : Int32) : Prop := x5 < 0 ∨ 1 < x5 ∨ bd4 n x1 x2 x3 x4
theorem s_gain_bad {x1 x2 x3 x4 x5 : Int32} (hA0 : 91 ≤ nx) (m : CM h n K L M c) (b : bdG n x1 x2 x3 x4 x5) : Mk X (d + 5) m_X11_gain [.ref 0, .int x1, .int x2, .int x3, .int x4, .int x5] h nx sz (RE (-1000000) h) := by
  have hF := m.1
  refine Mk.re fun Q hq => e_X11_gain ?_
  by_cases c1 : x5 < 0
  · exact c_X11_gain_0 (d := d + 4) (P20 := fun _ _ => False) hA0 hF RO_rm hcs0 (fun _ => hq) (fun z => absurd c1 z) (fun z => absurd c1 z) (fun z => absurd c1 z)
  by_cases c2 : 1 < x5
  · exact c_X11_gain_0 (d := d + 4) (P20 := fun _ _ => False) hA0 hF RO_rm hcs0 (fun _ => hq) (fun _ _ => hq) (fun _ z => absurd c2 z) (fun _ z => absurd c2 z)
  have b := (b.resolve_left c1).resolve_left c2
  refine c_X11_gain_0 hA0 hF RO_rm hcs0 (fun _ => hq) (fun _ _ => hq) (fun _ _ => s_canBe_bad (d := d) hA0 m b) ?_
  rintro _ _ _ g ⟨rfl, rfl⟩
  exact c_X11_gain_23 (d := d + 4) (P49 := fun _ _ => False) (P49_1 := fun _ _ => False) hA0 hF RO_rm hcs0 (fun z => absurd rfl z) (fun z => absurd rfl z) (fun z => absurd rfl z) (fun z => absurd rfl z) (fun _ => hq)
def gnV (K L : Nat → Int32) (n : Nat) (M : Nat → Nat → Nat) (c a : Nat) (o : Option Nat) (b : Nat) (p : Option Nat) (w : Nat) : Int32 := if cbB K L a o b p = true then gI K n M c a o b p (decide (w = 0)) else -1000000
theorem s_gain {a b w : Nat} {o p : Option Nat} (hA0 : 91 ≤ nx) (m : CM h n K L M c) (ha : a < n) (hb : b < n) (hab : a ≠ b) (ho : ∀ j, o = some j → j < n) (hp : ∀ j, p = some j → j < n) (hw : w ≤ 1) : Mk X (d + 5) m_X11_gain [.ref 0, .int (nI a), .int (ovI o), .int (nI b), .int (ovI p), .int (nI w)] h nx sz (RE (gnV K L n M c a o b p w) h) := by
  have hF := m.1
  obtain ⟨w1, w2, w3⟩ := nI_01 hw
  refine Mk.re fun Q hq => e_X11_gain (c_X11_gain_0 hA0 hF RO_rm hcs0 (fun z => absurd z w1) (fun _ z => absurd z w3) (fun _ _ => s_canBe (d := d) hA0 m ha hb hab ho hp) ?_)
  rintro _ _ _ g ⟨rfl, rfl⟩
  unfold gnV at hq
  by_cases q : cbB K L a o b p = true
  · rw [if_pos q] at hq ⊢
    obtain ⟨-, hK, q3, q4⟩ := cbB_iff.mp q
    by_cases w0 : w = 0
    · subst w0
      refine c_X11_gain_23 (P49 := fun _ _ => False) hA0 hF RO_rm hcs0 (fun _ z => absurd rfl z) (fun _ z => absurd rfl z) (fun _ _ => s_gainOf (d := d + 2) (f := true) hA0 m ha hb hab hK (mdB_kn q3) (mdB_kn q4)) ?_ (fun z => by cases z)
      rintro _ _ _ g ⟨rfl, rfl⟩
      exact c_X11_gain_52 hq
    · have w1 : w = 1 := by omega
      subst w1
      refine c_X11_gain_23 (P49_1 := fun _ _ => False) hA0 hF RO_rm hcs0 (fun _ _ => s_gainOf (d := d + 2) (f := false) hA0 m ha hb hab hK (mdB_kn q3) (mdB_kn q4)) ?_ (fun _ z => by cases z) (fun _ z => by cases z) (fun z => by cases z)
      rintro _ _ _ g ⟨rfl, rfl⟩
      exact c_X11_gain_52 hq
  · rw [if_neg q] at hq ⊢
    exact c_X11_gain_23 (d := d + 4) (P49 := fun _ _ => False) (P49_1 := fun _ _ => False) hA0 hF RO_rm hcs0 (fun z => absurd rfl z) (fun z => absurd rfl z) (fun z => absurd rfl z) (fun z => absurd rfl z) (fun _ => hq)
theorem t_gain_bad {x1 x2 x3 x4 x5 : Int32} (hA0 : 91 ≤ nx) (m : CT h n K L M c) (b : bdG n x1 x2 x3 x4 x5) : Mk X (d + 3) m_X12_gain [.ref 68, .int x1, .int x2, .int x3, .int x4, .int x5] h nx sz (RE (-1000000) (setI h 68 0 0)) := by
  have m0 := m.sc (Sc.rfl.setI rfl : Sc h (setI h 68 0 0))
  refine Mk.re fun Q hq => e_X12_gain (c_X12_gain_0 hA0 RO_rm hcs0 (t_isIn (d := d + 2)) ?_)
  rintro _ g ⟨rfl, rfl⟩
  by_cases c1 : ¬ x5 < 0 ∧ ¬ 1 < x5
  · rw [if_pos c1]
    have b := (b.resolve_left c1.1).resolve_left c1.2
    refine c_X12_gain_12 hA0 RO_rm hcs0 (fun z => by cases z) (fun _ => t_canChange_bad (d := d) hA0 m0 b) ?_
    rintro _ _ g ⟨rfl, rfl⟩
    exact c_X12_gain_24 (d := d + 2) (P37 := fun _ => False) hA0 RO_rm hcs0 (fun z => absurd rfl z) (fun z => absurd rfl z) (fun _ => hq)
  · rw [if_neg c1]
    exact c_X12_gain_12 (d := d + 2) (P21 := fun _ _ => False) hA0 RO_rm hcs0 (fun _ => hq) (fun z => absurd rfl z) (fun z => absurd rfl z)
theorem t_gain {a b w : Nat} {o p : Option Nat} (hA0 : 91 ≤ nx) (m : CT h n K L M c) (ha : a < n) (hb : b < n) (hab : a ≠ b) (ho : ∀ j, o = some j → j < n) (hp : ∀ j, p = some j → j < n) (hw : w ≤ 1) : Mk X (d + 5) m_X12_gain [.ref 68, .int (nI a), .int (ovI o), .int (nI b), .int (ovI p), .int (nI w)] h nx sz (RI fun y g => y = gnV K L n M c a o b p w ∧ Sc h g) := by
  have s0 : Sc h (setI h 68 0 0) := Sc.rfl.setI rfl
  have m0 := m.sc s0
  obtain ⟨w1, w2, w3⟩ := nI_01 hw
  refine e_X12_gain (c_X12_gain_0 hA0 RO_rm hcs0 (t_isIn (d := d + 4)) ?_)
  rintro _ g ⟨rfl, rfl⟩
  rw [if_pos ⟨w1, w3⟩]
  refine c_X12_gain_12 hA0 RO_rm hcs0 (fun z => by cases z) (fun _ => t_canChange (d := d + 2) hA0 m0 ha hb ho hp) ?_
  rintro _ _ g ⟨rfl, rfl⟩
  unfold gnV
  by_cases q : cbB K L a o b p = true
  · rw [if_pos q, if_pos q]
    obtain ⟨-, hK, q3, q4⟩ := cbB_iff.mp q
    refine c_X12_gain_24 hA0 RO_rm hcs0 (fun _ => t_layGains (d := d) hA0 m0 ha hb hab hK (mdB_kn q3) (mdB_kn q4)) ?_ (fun z => by cases z)
    rintro _ _ rfl
    have s1 := (s0.setI (a := 68) (j := 32) (x := gI K n M c a o b p true) rfl).setI (a := 68) (j := 33) (x := gI K n M c a o b p false) rfl
    refine c_X12_gain_40 hA0 (fun z => ⟨_, rfl, ?_, s1⟩) (fun z => ⟨_, rfl, ?_, s1⟩)
    · have : ¬ w = 0 := fun y => z (by rw [y]; rfl)
      rw [decide_eq_false this]
      rfl
    · have : w = 0 := nI_inj (by omega) (by omega) z
      rw [decide_eq_true this]
      rfl
  · rw [if_neg q, if_neg q]
    exact c_X12_gain_24 (d := d + 4) (P37 := fun _ => False) hA0 RO_rm hcs0 (fun z => absurd rfl z) (fun z => absurd rfl z) (fun _ => ⟨_, rfl, rfl, s0⟩)
-- change
theorem s_change_bad {x1 x2 x3 x4 : Int32} (hA0 : 91 ≤ nx) (m : CM h n K L M c) (b : bd4 n x1 x2 x3 x4) : Mk X (d + 5) m_X11_change [.ref 0, .int x1, .int x2, .int x3, .int x4] h nx sz (RE 0 h) := by
  have hF := m.1
  refine Mk.re fun Q hq => e_X11_change (c_X11_change_0 hA0 hF RO_rm hcs0 (s_canBe_bad (d := d) hA0 m b) ?_)
  rintro _ g ⟨rfl, rfl⟩
  exact c_X11_change_12 (d := d + 4) (P24 := fun _ _ => False) hA0 hF RO_rm hcs0 (fun _ => hq) (fun z => absurd rfl z) (fun z => absurd rfl z)
theorem s_wanted {a b : Nat} {o p : Option Nat} (hA0 : 91 ≤ nx) (m : CM h n K L M c) (ha : a < n) (hb : b < n) (q : cbB K L a o b p = true) : Mk X (d + 3) m_X2_wanted [.ref 40, .int (nI a), .int (ovI o), .int (nI b), .int (ovI p)] h nx sz (RE (if wnB K L n M c a o b p = true then 1 else 0) h) := by
  obtain ⟨hab, hK, q3, q4⟩ := cbB_iff.mp q
  have no : (gI K n M c a o b p true ≤ 0 ∨ gI K n M c a o b p false ≤ 0) → ¬ wnB K L n M c a o b p = true := fun z y => z.elim (wn_pos y).1 (wn_pos y).2
  refine Mk.re fun Q hq => e_X2_wanted (c_X2_wanted_0 hA0 RO_rm hcs0 (s_gainOf (d := d) (f := true) hA0 m ha hb hab hK (mdB_kn q3) (mdB_kn q4)) ?_)
  rintro _ g ⟨rfl, rfl⟩
  refine c_X2_wanted_10 hA0 RO_rm hcs0 (fun z => ?_) (fun _ => s_gainOf (d := d) (f := false) hA0 m ha hb hab hK (mdB_kn q3) (mdB_kn q4)) ?_
  · rw [if_neg (no (Or.inl z))] at hq
    exact hq
  rintro z1 _ g ⟨rfl, rfl⟩
  refine c_X2_wanted_23 (fun z => ?_) (fun z => ?_)
  · rw [if_neg (no (Or.inr z))] at hq
    exact hq
  · have : wnB K L n M c a o b p = true := by
      unfold wnB
      rw [q, decide_eq_false z1, decide_eq_false z]
      rfl
    rw [if_pos this] at hq
    exact hq
theorem s_change_no {a b : Nat} {o p : Option Nat} (hA0 : 91 ≤ nx) (m : CM h n K L M c) (ha : a < n) (hb : b < n) (hab : a ≠ b) (ho : ∀ j, o = some j → j < n) (hp : ∀ j, p = some j → j < n) (w : ¬ wnB K L n M c a o b p = true) : Mk X (d + 5) m_X11_change [.ref 0, .int (nI a), .int (ovI o), .int (nI b), .int (ovI p)] h nx sz (RE 0 h) := by
  have hF := m.1
  refine Mk.re fun Q hq => e_X11_change (c_X11_change_0 hA0 hF RO_rm hcs0 (s_canBe (d := d) hA0 m ha hb hab ho hp) ?_)
  rintro _ g ⟨rfl, rfl⟩
  by_cases q : cbB K L a o b p = true
  · rw [if_pos q]
    refine c_X11_change_12 hA0 hF RO_rm hcs0 (fun z => by cases z) (fun _ => s_wanted (d := d + 1) hA0 m ha hb q) ?_
    rintro _ _ g ⟨rfl, rfl⟩
    rw [if_neg w]
    exact c_X11_change_27 (d := d + 4) (P41 := fun _ => False) hA0 hF RO_rm hcs0 (fun z => absurd rfl z) (fun z => absurd rfl z) (fun _ => hq)
  · rw [if_neg q]
    exact c_X11_change_12 (d := d + 4) (P24 := fun _ _ => False) hA0 hF RO_rm hcs0 (fun _ => hq) (fun z => absurd rfl z) (fun z => absurd rfl z)
theorem s_change {a b : Nat} {o p : Option Nat} (hA0 : 91 ≤ nx) (m : CM h n K L M c) (ha : a < n) (hb : b < n) (hab : a ≠ b) (ho : ∀ j, o = some j → j < n) (hp : ∀ j, p = some j → j < n) (w : wnB K L n M c a o b p = true) : Mk X (d + 5) m_X11_change [.ref 0, .int (nI a), .int (ovI o), .int (nI b), .int (ovI p)] h nx sz (RE 1 (setA h 2 (mkK K a o b p))) := by
  have hF := m.1
  have h20 := m.2.1.2.1
  refine Mk.re fun Q hq => e_X11_change (c_X11_change_0 hA0 hF RO_rm hcs0 (s_canBe (d := d) hA0 m ha hb hab ho hp) ?_)
  rintro _ g ⟨rfl, rfl⟩
  rw [if_pos (wn_cb w)]
  refine c_X11_change_12 hA0 hF RO_rm hcs0 (fun z => by cases z) (fun _ => s_wanted (d := d + 1) hA0 m ha hb (wn_cb w)) ?_
  rintro _ _ g ⟨rfl, rfl⟩
  rw [if_pos w]
  refine c_X11_change_27 hA0 hF RO_rm hcs0 (fun _ => s_make (d := d + 3) hA0 hF (by omega) (by omega) (fun j hj => by have := ho j hj; omega) (fun j hj => by have := hp j hj; omega)) ?_ (fun z => by cases z)
  rintro _ _ rfl
  refine c_X11_change_44 ?_
  rw [m.2.2.1]
  exact hq
theorem t_change_bad {x1 x2 x3 x4 : Int32} (hA0 : 91 ≤ nx) (m : CT h n K L M c) (b : bd4 n x1 x2 x3 x4) : Mk X (d + 4) m_X12_change [.ref 68, .int x1, .int x2, .int x3, .int x4] h nx sz (RE 0 (setI h 68 0 0)) := by
  have m0 := m.sc (Sc.rfl.setI rfl : Sc h (setI h 68 0 0))
  refine Mk.re fun Q hq => e_X12_change (c_X12_change_0 (P11 := fun y g => y = 0 ∧ setI h 68 0 0 = g) hA0 RO_rm hcs0 ?_ ?_)
  · refine Mk.re fun Q hq => e_X12_isWanted (c_X12_isWanted_0 hA0 RO_rm hcs0 (t_canChange_bad (d := d) hA0 m0 b) ?_)
    rintro _ g ⟨rfl, rfl⟩
    exact c_X12_isWanted_9 (d := d + 2) (P20 := fun _ => False) hA0 RO_rm hcs0 (fun z => absurd rfl z) (fun z => absurd rfl z) (fun _ => hq)
  rintro _ g ⟨rfl, rfl⟩
  exact c_X12_change_14 (d := d + 3) (P25 := fun _ => False) hA0 RO_rm hcs0 (fun z => absurd rfl z) (fun z => absurd rfl z) (fun _ => hq)
theorem t_change {a b : Nat} {o p : Option Nat} (hA0 : 91 ≤ nx) (m : CT h n K L M c) (ha : a < n) (hb : b < n) (ho : ∀ j, o = some j → j < n) (hp : ∀ j, p = some j → j < n) : Mk X (d + 6) m_X12_change [.ref 68, .int (nI a), .int (ovI o), .int (nI b), .int (ovI p)] h nx sz (RI fun y g => y = (if wnB K L n M c a o b p = true then 1 else 0) ∧ (wnB K L n M c a o b p = true → ∃ g0, Sc h g0 ∧ g = setA g0 73 (mkK K a o b p)) ∧ (¬ wnB K L n M c a o b p = true → Sc h g)) := by
  have s0 : Sc h (setI h 68 0 0) := Sc.rfl.setI rfl
  have m0 := m.sc s0
  have h20 := m.2.1.2.1
  refine e_X12_change (c_X12_change_0 hA0 RO_rm hcs0 (t_isWanted (d := d) hA0 m0 ha hb ho hp) ?_)
  rintro _ g ⟨rfl, s1, -, -⟩
  have s1 := s0.trans s1.sc
  by_cases q : wnB K L n M c a o b p = true
  · rw [if_pos q]
    refine c_X12_change_14 hA0 RO_rm hcs0 (fun _ => t_doChange (d := d + 4) hA0 (m.sc s1).1 (by omega) (by omega) (fun j hj => by have := ho j hj; omega) (fun j hj => by have := hp j hj; omega)) ?_ (fun z => by cases z)
    rintro _ _ rfl
    refine c_X12_change_28 ⟨_, rfl, rfl, fun _ => ⟨g, s1, ?_⟩, fun z => absurd q z⟩
    rw [(m.sc s1).2.2.1]
  · rw [if_neg q]
    exact c_X12_change_14 (d := d + 5) (P25 := fun _ => False) hA0 RO_rm hcs0 (fun z => absurd rfl z) (fun z => absurd rfl z) (fun _ => ⟨_, rfl, rfl, fun z => absurd z q, fun _ => s1⟩)
-- best
def bsV (s : St) (x : Int32) : Int32 := match s with
  | none => -1000000
  | some (b, o, p, v) => if x = 0 then nI b else if x = 1 then ovI o else if x = 2 then ovI p else v
theorem s_best_bad {x y : Int32} (hA0 : 91 ≤ nx) (hF : Fx h) (hP : InvP h n) (b : hasI n x = 0 ∨ y < 0 ∨ 3 < y) : Mk X (d + 1) m_X11_best [.ref 0, .int x, .int y] h nx sz (RE (-1000000) h) := by
  refine Mk.re fun Q hq => e_X11_best (c_X11_best_0 hA0 hF RO_rm hcs0 (s_has (d := d) hA0 (hP.np net1)) ?_)
  rintro _ g ⟨rfl, rfl⟩
  exact c_X11_best_8 (d := d) (P25 := fun _ _ => False) hA0 hF RO_rm hcs0 (fun _ => hq) (fun _ _ => hq) (fun _ _ _ => hq) (fun z1 z2 z3 => absurd b (fun z => z.elim z1 (fun w => w.elim z2 z3))) (fun z1 z2 z3 => absurd b (fun z => z.elim z1 (fun w => w.elim z2 z3)))
theorem sw3 {x : Int32} : (x.toInt = 0 ↔ x = 0) ∧ (x.toInt = 1 ↔ x = 1) ∧ (x.toInt = 2 ↔ x = 2) := by
  have e : ∀ y : Int32, x.toInt = y.toInt ↔ x = y := fun y => Int32.toInt_inj
  exact ⟨e 0, e 1, e 2⟩
theorem s_best {a : Nat} {y : Int32} (hA0 : 91 ≤ nx) (m : CM h n K L M c) (ha : a < n) (h0 : ¬ y < 0) (h3 : ¬ 3 < y) : Mk X (d + 7) m_X11_best [.ref 0, .int (nI a), .int y] h nx sz (RI fun z g => z = bsV (tkF K L n M c a n) y ∧ Sc h g) := by
  obtain ⟨hF, hP, -⟩ := id m
  have h20 := hP.2.1
  obtain ⟨i0, i1, i2⟩ := sw3 (x := y)
  refine e_X11_best (c_X11_best_0 hA0 hF RO_rm hcs0 (s_has (d := d + 6) hA0 (hP.np net1)) ?_)
  rintro _ g ⟨rfl, rfl⟩
  rw [hasI_nI (by omega) ha]
  refine c_X11_best_8 hA0 hF RO_rm hcs0 (fun z => by cases z) (fun _ z => absurd z h0) (fun _ _ z => absurd z h3) (fun _ _ _ => s_findBest (d := d) hA0 m ha) ?_
  rintro _ _ _ _ g ⟨rfl, sc, rr⟩
  have sc := sc.sc
  cases e : tkF K L n M c a n with
  | none =>
    rw [if_pos rfl]
    exact c_X11_best_28 hA0 (hF.sc sc) (fun z => absurd rfl z) (fun z => absurd rfl z) (fun z => absurd rfl z) (fun z => absurd rfl z) (fun _ => ⟨_, rfl, rfl, sc⟩)
  | some t =>
    obtain ⟨b, o, p, v⟩ := t
    rw [e] at rr
    obtain ⟨r1, r2⟩ := rr
    obtain ⟨r2, r3, r4⟩ := r2 b o p v rfl
    rw [if_neg (fun z => by cases z)]
    refine c_X11_best_28 hA0 (hF.sc sc) (fun _ z => ⟨_, rfl, ?_, sc⟩) (fun _ z => ⟨_, rfl, ?_, sc⟩) (fun _ z => ⟨_, rfl, ?_, sc⟩) (fun _ z => ⟨_, rfl, ?_, sc⟩) (fun z => by cases z)
    · show _ = if y = 0 then nI b else if y = 1 then ovI o else if y = 2 then ovI p else v
      rw [if_neg (fun q => by rw [← i0] at q; omega), if_neg (fun q => by rw [← i1] at q; omega), if_neg (fun q => by rw [← i2] at q; omega), r1]
      rfl
    · show _ = if y = 0 then nI b else if y = 1 then ovI o else if y = 2 then ovI p else v
      rw [if_pos (i0.mp z), r2]
    · show _ = if y = 0 then nI b else if y = 1 then ovI o else if y = 2 then ovI p else v
      rw [if_neg (fun q => by rw [← i0] at q; omega), if_pos (i1.mp z), r3]
    · show _ = if y = 0 then nI b else if y = 1 then ovI o else if y = 2 then ovI p else v
      rw [if_neg (fun q => by rw [← i0] at q; omega), if_neg (fun q => by rw [← i1] at q; omega), if_pos (i2.mp z), r4]
theorem t_best_bad {x y : Int32} (hA0 : 91 ≤ nx) (hP : InvP h n) (b : hasI n x = 0 ∨ y < 0 ∨ 3 < y) : Mk X (d + 1) m_X12_best [.ref 68, .int x, .int y] h nx sz (RE (-1000000) (setI h 68 0 0)) := by
  have s0 : Sc h (setI h 68 0 0) := Sc.rfl.setI rfl
  refine Mk.re fun Q hq => e_X12_best (c_X12_best_0 hA0 RO_rm hcs0 (t_isOne (d := d) hA0 (hP.sc s0).mp) ?_)
  rintro _ g ⟨rfl, rfl⟩
  refine c_X12_best_10 RO_rm hcs0 (fun _ => hq) (fun _ => t_isIn (d := d)) ?_
  rintro z1 _ g ⟨rfl, rfl⟩
  have b := b.resolve_left z1
  rw [if_neg (fun z => b.elim z.1 z.2)]
  exact c_X12_best_19 (d := d) (P24 := fun _ _ => False) hA0 RO_rm hcs0 (fun _ => hq) (fun z => absurd rfl z) (fun z => absurd rfl z)
theorem t_best {a : Nat} {y : Int32} (hA0 : 91 ≤ nx) (m : CT h n K L M c) (ha : a < n) (h0 : ¬ y < 0) (h3 : ¬ 3 < y) : Mk X (d + 7) m_X12_best [.ref 68, .int (nI a), .int y] h nx sz (RI fun z g => z = bsV (tkF K L n M c a n) y ∧ Sc h g) := by
  obtain ⟨hF, hP, -⟩ := id m
  have h20 := hP.2.1
  have s0 : Sc h (setI h 68 0 0) := Sc.rfl.setI rfl
  refine e_X12_best (c_X12_best_0 hA0 RO_rm hcs0 (t_isOne (d := d + 6) hA0 (hP.sc s0).mp) ?_)
  rintro _ g ⟨rfl, rfl⟩
  rw [hasI_nI (by omega) ha]
  refine c_X12_best_10 RO_rm hcs0 (fun z => by cases z) (fun _ => t_isIn (d := d + 6)) ?_
  rintro _ _ g ⟨rfl, rfl⟩
  rw [if_pos ⟨h0, h3⟩]
  refine c_X12_best_19 hA0 RO_rm hcs0 (fun z => by cases z) (fun _ => t_hasBest (d := d) hA0 (m.sc s0) ha) ?_
  rintro _ _ g ⟨rfl, sc, rr⟩
  have sc := s0.trans sc.sc
  cases e : tkF K L n M c a n with
  | none =>
    rw [if_pos rfl]
    exact c_X12_best_27 hA0 (fun z => absurd rfl z) (fun z => absurd rfl z) (fun z => absurd rfl z) (fun z => absurd rfl z) (fun _ => ⟨_, rfl, rfl, sc⟩)
  | some t =>
    obtain ⟨b, o, p, v⟩ := t
    rw [e] at rr
    obtain ⟨r1, r2⟩ := rr
    obtain ⟨r2, r3, r4⟩ := r2 b o p v rfl
    rw [if_neg (fun z => by cases z)]
    refine c_X12_best_27 hA0 (fun _ z0 z1 z2 => ⟨_, rfl, ?_, sc⟩) (fun _ z0 z1 z2 => ⟨_, rfl, ?_, sc⟩) (fun _ z0 z1 => ⟨_, rfl, ?_, sc⟩) (fun _ z0 => ⟨_, rfl, ?_, sc⟩) (fun z => by cases z)
    · show _ = if y = 0 then nI b else if y = 1 then ovI o else if y = 2 then ovI p else v
      rw [if_neg z0, if_neg z1, if_neg z2, r1]
      rfl
    · show _ = if y = 0 then nI b else if y = 1 then ovI o else if y = 2 then ovI p else v
      rw [if_neg z0, if_neg z1, if_pos z2, r4]
    · show _ = if y = 0 then nI b else if y = 1 then ovI o else if y = 2 then ovI p else v
      rw [if_neg z0, if_pos z1, r3]
    · show _ = if y = 0 then nI b else if y = 1 then ovI o else if y = 2 then ovI p else v
      rw [if_pos z0, r2]
-- stable
def stB (K L : Nat → Int32) (n : Nat) (M : Nat → Nat → Nat) (c : Nat) : Bool := decide (∀ a, a < n → (tkF K L n M c a n).isNone = true)
theorem s_stable (hA0 : 91 ≤ nx) (m : CM h n K L M c) : Mk X (d + 7) m_X11_stable [.ref 0] h nx sz (RI fun y g => y = (if stB K L n M c = true then 1 else 0) ∧ Sc h g) := by
  have hP := m.2.1
  have h20 := hP.2.1
  refine e_X11_stable (c_X11_stable_0 ?_)
  have key : ∀ (k i : Nat) (g : AH), i + k = n → Sc h g → (∀ a, a < i → (tkF K L n M c a n).isNone = true) → VM X m_X11_stable (d + 7) nx sz (RI fun y g => y = (if stB K L n M c = true then 1 else 0) ∧ Sc h g) 2 [some (.ref 0), some (.int (nI i))] [] g := by
    intro k
    induction k with
    | zero =>
      intro i g hi sc al
      have hi : i = n := by omega
      subst hi
      have yes : g.1 0 0 ≤ nI i := by rw [(hP.sc sc).2.2.1]; exact Int32.le_refl _
      refine c_X11_stable_2 (d := d + 6) (P15 := fun _ _ => False) hA0 (m.sc sc).1 RO_rm hcs0 (fun _ => ⟨_, rfl, ?_, sc⟩) (fun z => absurd yes z) (fun z => absurd yes z)
      unfold stB
      rw [decide_eq_true al]
      rfl
    | succ k ih =>
      intro i g hi sc al
      have no : ¬ g.1 0 0 ≤ nI i := fun z => by rw [(hP.sc sc).2.2.1, le_nI (by omega) (by omega)] at z; omega
      refine c_X11_stable_2 hA0 (m.sc sc).1 RO_rm hcs0 (fun z => absurd z no) (fun _ => s_findBest (d := d) hA0 (m.sc sc) (by omega)) ?_
      rintro _ _ g2 ⟨rfl, s2, -⟩
      have s2 := s2.sc
      refine c_X11_stable_18 (fun z => ?_) (fun z => ⟨_, rfl, ?_, sc.trans s2⟩)
      · rw [nI_1]
        refine ih (i + 1) g2 (by omega) (sc.trans s2) (fun a ha => ?_)
        by_cases e : a = i
        · subst e
          cases q : tkF K L n M c a n with
          | none => rfl
          | some t => rw [q, if_neg (fun y => by cases y)] at z; cases z
        · exact al a (by omega)
      · unfold stB
        rw [decide_eq_false, if_neg (by decide)]
        intro y
        have := y i (by omega)
        cases q : tkF K L n M c i n with
        | none => rw [q, if_pos rfl] at z; exact z rfl
        | some t => rw [q] at this; cases this
  exact key n 0 h (by omega) Sc.rfl (fun a ha => absurd ha (Nat.not_lt_zero _))
theorem t_stable (hA0 : 91 ≤ nx) (m : CT h n K L M c) : Mk X (d + 7) m_X12_stable [.ref 68] h nx sz (RI fun y g => y = (if stB K L n M c = true then 1 else 0) ∧ Sc h g) := by
  have hP := m.2.1
  have h20 := hP.2.1
  refine e_X12_stable (c_X12_stable_0 hA0 ?_)
  have key : ∀ (k i : Nat) (g : AH), i + k = n → Sc h g → (∀ a, a < i → (tkF K L n M c a n).isNone = true) → VM X m_X12_stable (d + 7) nx sz (RI fun y g => y = (if stB K L n M c = true then 1 else 0) ∧ Sc h g) 7 [some (.ref 68), some (.int (nI i))] [] g := by
    intro k
    induction k with
    | zero =>
      intro i g hi sc al
      have hi : i = n := by omega
      subst hi
      have yes : g.1 68 1 ≤ nI i := by rw [(hP.sc sc).mp.1]; exact Int32.le_refl _
      refine c_X12_stable_7 (d := d + 6) (P17 := fun _ _ => False) hA0 RO_rm hcs0 (fun _ => ⟨_, rfl, ?_, sc⟩) (fun z => absurd yes z) (fun z => absurd yes z)
      unfold stB
      rw [decide_eq_true al]
      rfl
    | succ k ih =>
      intro i g hi sc al
      have no : ¬ g.1 68 1 ≤ nI i := fun z => by rw [(hP.sc sc).mp.1, le_nI (by omega) (by omega)] at z; omega
      refine c_X12_stable_7 hA0 RO_rm hcs0 (fun z => absurd z no) (fun _ => t_hasBest (d := d) hA0 (m.sc sc) (by omega)) ?_
      rintro _ _ g2 ⟨rfl, s2, -⟩
      have s2 := s2.sc
      refine c_X12_stable_20 (fun z => ?_) (fun z => ⟨_, rfl, ?_, sc.trans s2⟩)
      · rw [nI_1]
        refine ih (i + 1) g2 (by omega) (sc.trans s2) (fun a ha => ?_)
        by_cases e : a = i
        · subst e
          cases q : tkF K L n M c a n with
          | none => rfl
          | some t => rw [q, if_neg (fun y => by cases y)] at z; cases z
        · exact al a (by omega)
      · unfold stB
        rw [decide_eq_false, if_neg (by decide)]
        intro y
        have := y i (by omega)
        cases q : tkF K L n M c i n with
        | none => rw [q, if_pos rfl] at z; exact z rfl
        | some t => rw [q] at this; cases this
  exact key n 0 _ (by omega) (Sc.rfl.setI rfl) (fun a ha => absurd ha (Nat.not_lt_zero _))
end OPS

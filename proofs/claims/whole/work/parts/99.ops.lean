/-! fault, and what a rule is worth on the other side -/
section RQ
variable {T : Nat → Nat} {ln : Nat}
theorem clsN_gd : ∀ (f a : Nat), a ≤ ln → Gd pT ln a 0 (clsN T ln f a)
  | 0, a, ha => clau_gd ha
  | f + 1, a, ha => by
    unfold clsN
    have g := clau_gd (T := T) ha
    refine Gd.bnd g.1 (fun c e => ?_)
    obtain ⟨g1, g2, g3⟩ := g.2 c e
    obtain ⟨b1, b2, b3⟩ := pb_le (T := T) (ln := ln) (a := (clauF T ln a).2) g.1
    by_cases q : sgn T ln (pb T ln (clauF T ln a).2) = 59
    · rw [if_pos q]
      have l := sgn_pos (T := T) (ln := ln) (a := pb T ln (clauF T ln a).2) (by omega)
      have ih := clsN_gd f (pb T ln (clauF T ln a).2 + 1) (by omega)
      refine Gd.bnd ih.1 (fun c' e' => ?_)
      obtain ⟨i1, i2, i3⟩ := ih.2 c' e'
      refine ⟨ih.1, fun c2 e2 => ?_⟩
      cases e2
      refine ⟨?_, ?_, mem_app g3 i3⟩
      · show a + (c ++ c').length ≤ (clsN T ln f (pb T ln (clauF T ln a).2 + 1)).2 + 0
        rw [List.length_append]
        omega
      · show a < (clsN T ln f (pb T ln (clauF T ln a).2 + 1)).2
        omega
    · rw [if_neg q]
      refine ⟨b2, fun c2 e2 => ?_⟩
      cases e2
      exact ⟨by show a + c.length ≤ pb T ln (clauF T ln a).2 + 0; omega, by show a < pb T ln (clauF T ln a).2; omega, g3⟩
theorem ruF_gd : Gd pT ln 0 0 (ruF T ln) := by
  have g := clsN_gd (T := T) (ln := ln) 200 0 (Nat.zero_le _)
  unfold ruF
  refine Gd.bnd g.1 (fun c e => ?_)
  by_cases q : (clsN T ln 200 0).2 < ln
  · rw [if_pos q]
    exact Gd.bad g.1
  · rw [if_neg q]
    refine ⟨g.1, fun c2 e2 => ?_⟩
    cases e2
    exact g.2 c e
/-- a rule's fault -/
def fltV (T : Nat → Nat) (ln : Nat) : Int32 := match (ruF T ln).1 with
  | none => nI (ruF T ln).2
  | some _ => -1
theorem F26.sc {h g : AH} (f : F26 h g) : Sc h g := ⟨fun a j hj => congrFun (f.2 a (fun z => by subst z; cases hj)) j, fun k j _ => by rw [f.1], fun z => by unfold TXT; rw [f.1]; exact z⟩
theorem F27.sc {h g : AH} (f : F27 h g) : Sc h g := by
  refine ⟨fun a j hj => f.2 a j (fun z => by subst z; cases hj) (fun z => ?_), fun k j _ => by rw [f.1], fun z => by unfold TXT; rw [f.1]; exact z⟩
  obtain ⟨rfl, z1, z2⟩ := z
  have e : j = 2 ∨ j = 3 ∨ j = 4 := by omega
  rcases e with rfl | rfl | rfl
  · cases hj
  · cases hj
  · cases hj
/-- one text on both sides -/
theorem InvT.txt {h : AH} (i : InvT h) : ∃ s : TT, TxH h s ∧ MxH h s := by
  obtain ⟨ln, h1, h2, h3, h4⟩ := i
  have e : ∀ i, i < ln → ∃ b, 1 ≤ b ∧ b ≤ 255 ∧ (h.1 24 i).toNatClampNeg = b ∧ h.1 24 i = nI b ∧ h.1 69 i = byt b := fun i hi => by
    obtain ⟨b, b1, b2, b3, b4⟩ := h4 i hi
    exact ⟨b, b1, b2, by rw [b3, tN (by omega)], b3, b4⟩
  refine ⟨(ln, fun i => (h.1 24 i).toNatClampNeg), ⟨h1, h2, fun i hi => ?_, fun i hi => ?_⟩, ⟨h1, h3, fun i hi => ?_, fun i hi => ?_⟩⟩ <;> obtain ⟨b, b1, b2, b3, b4, b5⟩ := e i hi
  · show 1 ≤ (h.1 24 i).toNatClampNeg ∧ (h.1 24 i).toNatClampNeg ≤ 255
    rw [b3]
    exact ⟨b1, b2⟩
  · show h.1 24 i = nI (h.1 24 i).toNatClampNeg
    rw [b3]
    exact b4
  · show 1 ≤ (h.1 24 i).toNatClampNeg ∧ (h.1 24 i).toNatClampNeg ≤ 255
    rw [b3]
    exact ⟨b1, b2⟩
  · show h.1 69 i = byt (h.1 24 i).toNatClampNeg
    rw [b3]
    exact b5
end RQ
section OPS
variable {X : CX} {d D nx sz : Nat} {h h0 : AH} {T : Nat → Nat} {p : Nat → Int32} {rt b0 ln a k q n : Nat} {c : List Nat}
theorem s_fault_bad {x : Int32} (hA0 : 91 ≤ nx) (hF : Fx h) (z0 : ¬ x = 0) (z1 : ¬ x = 1) : Mk X (d + 1) m_X11_fault [.ref 0, .int x] h nx sz (RE (-2) h) :=
  Mk.re fun Q hq => e_X11_fault (c_X11_fault_0 (d := d) (P21 := fun _ _ => False) (P8 := fun _ _ => False) hA0 hF RO_rm hcs0 (fun _ _ => hq) (fun _ z => absurd z z1) (fun _ z => absurd z z1) (fun z => absurd z z0) (fun z => absurd z z0))
theorem s_fault0 (hA0 : 91 ≤ nx) (hF : Fx h) (hP : NP h 1 n) (t : Txt h T ln) : Mk X (d + 4) m_X11_fault [.ref 0, .int 0] h nx sz (RI fun y g => y = ovI (ntV T ln n (h.1 3)).1 ∧ Sc h g) := by
  refine e_X11_fault (c_X11_fault_0 (P21 := fun _ _ => False) hA0 hF RO_rm hcs0 (fun z => absurd rfl z) (fun z => absurd rfl z) (fun z => absurd rfl z) (fun _ => s_readNet (d := d) hA0 hF hP t) ?_)
  rintro _ _ g ⟨rfl, f, -⟩
  exact c_X11_fault_11 ⟨_, rfl, rfl, f.sc⟩
theorem s_fault1 (hA0 : 91 ≤ nx) (hF : Fx h) (t : Txt h T ln) : Mk X (D + 21) m_X11_fault [.ref 0, .int 1] h nx sz (RI fun y g => y = fltV T ln ∧ Sc h g) := by
  refine e_X11_fault (c_X11_fault_0 (P8 := fun _ _ => False) hA0 hF RO_rm hcs0 (fun _ z => absurd rfl z) (fun _ _ => s_readR (D := D) hA0 hF t) ?_ (fun z => by cases z) (fun z => by cases z))
  rintro _ _ y g ⟨f, r⟩
  refine c_X11_fault_24 ⟨_, rfl, ?_, f.sc⟩
  unfold fltV
  cases e : (ruF T ln).1 with
  | none =>
    rw [e] at r
    exact r
  | some c =>
    rw [e] at r
    exact r.1
theorem t_fault_bad {x : Int32} (hA0 : 91 ≤ nx) (hF : Fx h) (z0 : x < 0 ∨ 1 < x) : Mk X (d + 1) m_X12_fault [.ref 68, .int x] h nx sz (RE (-2) (setI h 68 0 0)) := by
  refine Mk.re fun Q hq => e_X12_fault (c_X12_fault_0 hA0 RO_rm hcs0 (t_isIn (d := d)) ?_)
  rintro _ g ⟨rfl, rfl⟩
  have e : (if ¬ x < 0 ∧ ¬ 1 < x then (1 : Int32) else 0) = 0 := if_neg (fun z => z0.elim z.1 z.2)
  rw [e]
  exact c_X12_fault_11 (d := d) (P38 := fun _ => False) (P22 := fun _ => False) hA0 (hF.of rfl) RO_rm hcs0 (fun z => absurd rfl z) (fun z => absurd rfl z) (fun z => absurd rfl z) (fun z => absurd rfl z) (fun _ => hq)
theorem t_fault0 (hA0 : 91 ≤ nx) (hF : Fx h) (hp : MP h n) (hL : ∀ i, i < n → ∃ l, l ≤ 9 ∧ h.1 75 i = nI l) (t : MxH h (ln, T)) : Mk X (d + 3) m_X12_fault [.ref 68, .int 0] h nx sz (RI fun y g => y = ovI (ntV T ln n (h.1 75)).1 ∧ Sc h g ∧ ∀ i, i < n → g.1 74 i = (ntV T ln n (h.1 75)).2 i) := by
  refine e_X12_fault (c_X12_fault_0 hA0 RO_rm hcs0 (t_isIn (d := d + 2)) ?_)
  rintro _ g ⟨rfl, rfl⟩
  have e : (if ¬ (0 : Int32) < 0 ∧ ¬ (1 : Int32) < 0 then (1 : Int32) else 0) = 1 := by decide
  have e : (if ¬ (0 : Int32) < 0 ∧ ¬ (1 : Int32) < 0 then (1 : Int32) else 0) = 1 := e
  rw [e]
  refine c_X12_fault_11 (P38 := fun _ => False) hA0 (hF.of rfl) RO_rm hcs0 (fun _ z => absurd rfl z) (fun _ z => absurd rfl z) (fun _ _ => t_readNet (d := d) (h := setI h 68 0 0) hA0 (hF.of rfl) hp hL t) ?_ (fun z => by cases z)
  rintro _ _ g ⟨s, f, r⟩
  exact c_X12_fault_25 (c_X12_fault_41 hA0 ⟨_, rfl, f, (Sc.rfl.setI rfl).trans s, r⟩)
theorem t_fault1 (hA0 : 91 ≤ nx) (hF : Fx h) (L : Let h p) (t : MxH h (ln, T)) : Mk X (D + 32) m_X12_fault [.ref 68, .int 1] h nx sz (RI fun y g => y = fltV T ln ∧ Sc h g) := by
  obtain ⟨t1, t2, t3, t4⟩ := t
  have t2 : h.1 68 7 = nI ln := t2
  refine e_X12_fault (c_X12_fault_0 hA0 RO_rm hcs0 (t_isIn (d := D + 31)) ?_)
  rintro _ g ⟨rfl, rfl⟩
  have e : (if ¬ (1 : Int32) < 0 ∧ ¬ (1 : Int32) < 1 then (1 : Int32) else 0) = 1 := by decide
  rw [e]
  refine c_X12_fault_11 (P22 := fun _ => False) (P38 := fun g => Sc (setI h 68 0 0) g ∧ Gt (setI h 68 0 0) g ∧ ThP T ln p g) hA0 (hF.of rfl) RO_rm hcs0 (fun _ _ => ?_) ?_ (fun _ z => by cases z) (fun _ z => by cases z) (fun z => by cases z)
  · rw [show (setI h 68 0 0).1 68 7 = nI ln from t2]
    exact t_goThrough (D := D) (h := setI h 68 0 0) (rt := 69) (b0 := 0) hA0 (hF.of rfl) t1 (Or.inl ⟨rfl, rfl⟩) t3 (fun i hi => by rw [Nat.zero_add]; exact t4 i hi) L
  rintro _ _ g ⟨s, -, r⟩
  refine c_X12_fault_41 hA0 ⟨_, rfl, ?_, (Sc.rfl.setI rfl).trans s⟩
  unfold fltV
  unfold ThP at r
  cases e : (ruF T ln).1 with
  | none =>
    rw [e] at r
    exact r
  | some c =>
    rw [e] at r
    exact r.1
theorem t_worthBy {r : Nat} (hA0 : 91 ≤ nx) (hF : Fx h) (hr : r < 6) (h1 : ln ≤ 200) (e71 : h.1 71 r = nI ln) (h3 : Byt T ln) (h4 : ∀ i, i < ln → h.1 70 (200 * r + i) = byt (T i)) (L : Let h p) (hc : (ruF T ln).1 = some c) : Mk X (D + 32) m_X12_worthBy [.ref 68, .int (nI r)] h nx sz (RI fun y g => y = (wG p c [] false).getD 0 ∧ Sc h g ∧ Gt h g) := by
  have e2 : (200 : Int32) * nI r = nI (200 * r) := by rw [show (200 : Int32) = nI 200 from rfl, pk_mul]
  refine e_X12_worthBy (c_X12_worthBy_0 hA0 hF RO_rm hcs0 (vin hr (by decide)) (P16 := fun g => Sc h g ∧ Gt h g ∧ ThP T ln p g) ?_ ?_)
  · rw [tN (by omega), e71, e2]
    exact t_goThrough (D := D) (rt := 70) (b0 := 200 * r) hA0 hF h1 (Or.inr ⟨rfl, by omega⟩) h3 h4 L
  rintro g ⟨s, gt, t⟩
  refine c_X12_worthBy_19 hA0 ⟨_, rfl, ?_, s, gt⟩
  unfold ThP at t
  rw [hc] at t
  rcases t.2 with ⟨-, w⟩ | ⟨-, f, w⟩
  · rw [w]
    rfl
  · rw [w, f]
    rfl
end OPS

/-! years: the class looks -/
section OPS
variable {X : CX} {d D nx sz : Nat} {g h h0 : AH} {n : Nat} {c : List Nat}
/-- nothing but the rows of letters, and of how far, is other -/
def Fy (g g' : AH) : Prop := g'.2 = g.2 ∧ ∀ c j, c ≠ 38 → c ≠ 39 → c ≠ 67 → g'.1 c j = g.1 c j
theorem F89.fy {g g' : AH} (f : F89 g g') : Fy g g' := ⟨f.1, fun c j h1 h2 _ => f.2 c j h1 h2⟩
theorem Fy.trans {a b e : AH} (f : Fy a b) (g : Fy b e) : Fy a e := ⟨g.1.trans f.1, fun c j h1 h2 h3 => (g.2 c j h1 h2 h3).trans (f.2 c j h1 h2 h3)⟩
theorem Fy.row {a b : AH} (f : Fy a b) {k : Nat} (h1 : k ≠ 38) (h2 : k ≠ 39) (h3 : k ≠ 67) : b.1 k = a.1 k := funext fun j => f.2 k j h1 h2 h3
theorem Fy.sc {g g' : AH} (f : Fy g g') : Sc g g' := ⟨fun a j hj => f.2 a j (fun z => by subst z; cases hj) (fun z => by subst z; cases hj) (fun z => by subst z; cases hj), fun k j _ => by rw [f.1], fun z => by unfold TXT; rw [f.1]; exact z⟩
theorem Fy.set {a b : AH} (f : Fy a b) (F : Nat → Int32) : Fy (setA a 2 F) (setA b 2 F) := ⟨f.1, fun c j h1 h2 h3 => by
  show (if c = 2 then F else b.1 c) j = (if c = 2 then F else a.1 c) j
  by_cases q : c = 2
  · rw [if_pos q, if_pos q]
  · rw [if_neg q, if_neg q]
    exact f.2 c j h1 h2 h3⟩
theorem Z14.set {F : Nat → Int32} (z : Z14 g) : Z14 (setA g 2 F) := z
theorem s_look {r p : Nat} (hA0 : 91 ≤ nx) (hF : Fx g) (hP : NP g 1 n) (hp : p < n) (hr : r < 6) (C : CodA g r c) (z : Z14 g) : Mk X (d + 6) m_X0_look [.ref 66, .int (nI r), .int (nI p)] g nx sz (RV fun g' => Fy (setA g 2 (lkK c (g.1 3) n (g.1 40 4) (g.1 4) (g.1 2) p)) g' ∧ Z14 g') := by
  obtain ⟨hn, n0, n1, n2, n20⟩ := id hP
  have hid : setA g 2 (g.1 2) = g := setA_id
  refine e_X0_look (c_X0_look_0 hA0 hF RO_rm hcs0 (s_measure (d := d + 4) (a := 1) (r := 67) hA0 hF hP hp rfl (by omega) (by decide)) ?_)
  rintro g1 ⟨a1, a2, a3⟩
  obtain ⟨Q, hQ⟩ : ∃ Q, Q = (RV fun g' => Fy (setA g 2 (lkK c (g.1 3) n (g.1 40 4) (g.1 4) (g.1 2) p)) g' ∧ Z14 g') := ⟨_, rfl⟩
  rw [← hQ]
  have f1 : Fy g g1 := ⟨a1, fun c j _ _ h3 => congrFun (a2 c h3) j⟩
  have z1 : Z14 g1 := by
    unfold Z14
    rw [a2 39 (by decide)]
    exact z
  have e67 : ∀ o, o < n → g1.1 67 o = dstI (g.1 2) n (full n) p o := a3
  -- from here on: frames that keep 67 too
  have cal : ∀ g2, F89 g1 g2 → Fx g2 ∧ NP g2 1 n ∧ CodA g2 r c ∧ g2.1 2 = g.1 2 ∧ g2.1 3 = g.1 3 ∧ g2.1 4 = g.1 4 ∧ (∀ o, o < n → g2.1 67 o = dstI (g2.1 2) n (full n) p o) ∧ Fy g g2 := fun g2 f => by
    have f' := f1.trans f.fy
    have r2 := f'.row (k := 2) (by decide) (by decide) (by decide)
    refine ⟨hF.of f'.1, hP.sc f'.sc, C.sc hr f'.sc, r2, f'.row (by decide) (by decide) (by decide), f'.row (by decide) (by decide) (by decide), fun o ho => ?_, f'⟩
    rw [r2, f.row (k := 67) (by decide) (by decide)]
    exact e67 o ho
  obtain ⟨w, hw⟩ : ∃ w, w = yw c (g.1 2) (g.1 4) (g.1 3) n p := ⟨_, rfl⟩
  obtain ⟨hF1, hP1, C1, b2, b3, b4, b67, -⟩ := cal g1 F89.rfl
  refine c_X0_look_12 hA0 RO_rm hcs0 (s_bestStranger (d := d) hA0 hF1 hP1 hp hr C1 z1 b67) ?_
  rintro _ g2 ⟨rfl, f2, z2⟩
  obtain ⟨hF2, hP2, C2, c2, c3, c4, c67, y2⟩ := cal g2 f2
  rw [b2, b3, b4, ← hw]
  unfold lkK at hQ
  rw [← hw] at hQ
  cases e : pkM (okM (g.1 2) (g.1 3) p) w n with
  | none =>
    rw [e] at hQ
    refine c_X0_look_18 (d := d + 5) (P29 := fun _ _ => False) hA0 RO_rm hcs0 (fun y => absurd rfl y) (fun y => absurd rfl y) (fun _ => ?_)
    rw [hQ]
    refine ⟨rfl, ?_, z2⟩
    show Fy (setA g 2 (g.1 2)) g2
    rw [hid]
    exact y2
  | some f =>
    rw [e] at hQ
    obtain ⟨q1, q2, q3⟩ := pkM_spec n f e
    have nm : ¬ heB (some f) = -1 := nI_m1 (by omega)
    have hfp : f.1 ≠ p := fun z => by
      unfold okM at q2
      rw [decide_eq_true z] at q2
      cases q2
    refine c_X0_look_18 hA0 RO_rm hcs0 (fun _ => s_worthOf (d := d + 1) (o := f.1) hA0 hF2 n20 hp q1 hr C2 z2 (c67 _ q1)) ?_ (fun y => absurd y nm)
    rintro _ _ g3 ⟨rfl, f3, z3⟩
    have f3 := f2.trans f3
    obtain ⟨hF3, hP3, C3, d2, d3, d4, d67, y3⟩ := cal g3 f3
    rw [c2, c3, c4, ← hw, ← q3]
    refine c_X0_look_32 hA0 hF3 RO_rm hcs0 (s_full (d := d + 3) (a := 1) hA0 hF3 (Or.inl rfl) (by omega)) ?_
    rintro _ _ ⟨rfl, rfl⟩
    rw [show (1 + 1 : Nat) = 2 from rfl, show (1 + 2 : Nat) = 3 from rfl, d2, d3]
    have hQ : Q = RV fun g' => Fy (setA g 2 (if bc (g.1 2 p) < g.1 3 p then (if f.2 ≤ 0 then g.1 2 else joinK (g.1 2) p f.1) else match pkL (fun i => tb (g.1 2 p) i) w n with
      | none => g.1 2
      | some l => if f.2 ≤ l.2 + g.1 40 4 then g.1 2 else joinK (partK (g.1 2) p l.1) p f.1)) g' ∧ Z14 g' := hQ
    by_cases b : bc (g.1 2 p) < g.1 3 p
    · rw [if_pos b] at hQ ⊢
      by_cases le : f.2 ≤ 0
      · rw [if_pos le, hid] at hQ
        refine c_X0_look_42 (d := d + 5) (P63 := fun _ _ => False) (P56 := fun _ => False) hA0 hF3 RO_rm hcs0 (fun y => absurd rfl y) (fun y => absurd rfl y) (fun _ _ => c_X0_look_59 ?_) (fun _ y => absurd le y) (fun _ y => absurd le y)
        rw [hQ]
        exact ⟨rfl, y3, z3⟩
      · rw [if_neg le] at hQ
        refine c_X0_look_42 (P63 := fun _ _ => False) hA0 hF3 RO_rm hcs0 (fun y => absurd rfl y) (fun y => absurd rfl y) (fun _ y => absurd y le) (fun _ _ => s_join (d := d + 5) (a := 1) (j := f.1) hA0 hF3 (Or.inl rfl) (by omega) (by omega)) ?_
        rintro _ _ _ rfl
        refine c_X0_look_59 ?_
        rw [hQ]
        refine ⟨rfl, ?_, z3.set⟩
        show Fy (setA g 2 (joinK (g.1 2) p f.1)) (setA g3 2 (joinK (g3.1 2) p f.1))
        rw [d2]
        exact y3.set _
    · rw [if_neg b] at hQ ⊢
      refine c_X0_look_42 (P56 := fun _ => False) hA0 hF3 RO_rm hcs0 (fun _ => s_leastKnown (d := d) hA0 hF3 hP3 hp hr C3 z3 d67) ?_ (fun y => by cases y) (fun y => by cases y) (fun y => by cases y)
      rintro _ _ g4 ⟨rfl, f4, z4⟩
      have f4 := f3.trans f4
      obtain ⟨hF4, hP4, C4, e2, e3, e4, e67, y4⟩ := cal g4 f4
      rw [d2, d3, d4, ← hw]
      cases el : pkL (fun i => tb (g.1 2 p) i) w n with
      | none =>
        rw [el] at hQ
        refine c_X0_look_66 (d := d + 5) (P81 := fun _ _ => False) hA0 RO_rm hcs0 (fun _ => c_X0_look_114 ?_) (fun y => absurd rfl y) (fun y => absurd rfl y)
        rw [hQ]
        refine ⟨rfl, ?_, z4⟩
        show Fy (setA g 2 (g.1 2)) g4
        rw [hid]
        exact y4
      | some l =>
        rw [el] at hQ
        obtain ⟨l1, l2, l3⟩ := pkL_spec n l el
        have nl : ¬ heB (some l) = -1 := nI_m1 (by omega)
        refine c_X0_look_66 hA0 RO_rm hcs0 (fun y => absurd y nl) (fun _ => s_worthOf (d := d + 1) (o := l.1) hA0 hF4 n20 hp l1 hr C4 z4 (e67 _ l1)) ?_
        rintro _ _ g5 ⟨rfl, f5, z5⟩
        have f5 := f4.trans f5
        obtain ⟨hF5, hP5, C5, h2, h3, h4, h67, y5⟩ := cal g5 f5
        rw [e2, e3, e4, ← hw, ← l3]
        have e40 : g5.1 40 4 = g.1 40 4 := y5.2 40 4 (by decide) (by decide) (by decide)
        have hQ : Q = RV fun g' => Fy (setA g 2 (if f.2 ≤ l.2 + g.1 40 4 then g.1 2 else joinK (partK (g.1 2) p l.1) p f.1)) g' ∧ Z14 g' := hQ
        by_cases le : f.2 ≤ l.2 + g.1 40 4
        · rw [if_pos le, hid] at hQ
          refine c_X0_look_84 (d := d + 5) (P102 := fun _ => False) hA0 hF5 RO_rm hcs0 (fun _ => c_X0_look_114 ?_) (fun y => absurd (by rw [e40]; exact le) y) (fun y => absurd (by rw [e40]; exact le) y)
          rw [hQ]
          exact ⟨rfl, y5, z5⟩
        · rw [if_neg le] at hQ
          refine c_X0_look_84 hA0 hF5 RO_rm hcs0 (fun y => absurd (by rw [← e40]; exact y) le) (fun _ => s_part (d := d + 5) (a := 1) (j := l.1) hA0 hF5 (Or.inl rfl) (by omega) (by omega)) ?_
          rintro _ _ rfl
          refine c_X0_look_105 hA0 (hF5.of rfl) RO_rm hcs0 (s_join (d := d + 5) (a := 1) (j := f.1) hA0 (hF5.of rfl) (Or.inl rfl) (by omega) (by omega)) ?_
          rintro _ rfl
          refine c_X0_look_114 ?_
          rw [hQ]
          refine ⟨rfl, ?_, z5.set.set⟩
          show Fy (setA g 2 (joinK (partK (g.1 2) p l.1) p f.1)) (setA (setA g5 2 (partK (g5.1 2) p l.1)) 2 (joinK ((setA g5 2 (partK (g5.1 2) p l.1)).1 2) p f.1))
          rw [setA_self, setA_A, h2]
          exact y5.set _
end OPS

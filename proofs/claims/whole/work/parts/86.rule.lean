/-! rule text: the class's sums -/
section RP
def pre (w : List Nat) (r : Res) : Res := bnd r fun c b => (some (w ++ c), b)
theorem pre_none {w : List Nat} {r : Res} (e : r.1 = none) : (pre w r).1 = none ∧ (pre w r).2 = r.2 := by
  unfold pre
  rw [bnd_none e]
  exact ⟨rfl, rfl⟩
theorem pre_some {w c : List Nat} {r : Res} (e : r.1 = some c) : pre w r = (some (w ++ c), r.2) := bnd_some e
theorem RcP.pre {h0 g : AH} {T : Nat → Nat} {ln : Nat} {c w : List Nat} {r : Res} (p : RcP h0 T ln (c ++ w) r g) : RcP h0 T ln c (pre w r) g := by
  cases e : r.1 with
  | none =>
    obtain ⟨e1, e2⟩ := pre_none (w := w) e
    refine RcP.bad e1 ?_
    rw [e2]
    exact p.of_none e
  | some c' =>
    rw [pre_some e]
    refine RcP.ok rfl ?_
    rw [← List.append_assoc]
    have := p.of_some e
    exact this
theorem LP_none {T : Nat → Nat} {ln : Nat} {el : Nat → Res} {sg : Nat → Option Nat} {r : Res} {pd : Option Nat} (e : r.1 = none) : ∀ f, (LPf T ln el sg f r pd).1 = none ∧ (LPf T ln el sg f r pd).2 = r.2
  | 0 => ⟨e, rfl⟩
  | f + 1 => by
    unfold LPf
    rw [bnd_none e]
    exact ⟨rfl, rfl⟩
theorem LP_pre {T : Nat → Nat} {ln : Nat} {el : Nat → Res} {sg : Nat → Option Nat} {r : Res} {pd : Option Nat} {w : List Nat} : ∀ f, LPf T ln el sg (f + 1) (pre w r) pd = pre w (LPf T ln el sg (f + 1) r pd) := fun f => by
  cases e : r.1 with
  | none =>
    obtain ⟨e1, e2⟩ := pre_none (w := w) e
    have l1 := LP_none (T := T) (ln := ln) (el := el) (sg := sg) (pd := pd) e1 (f + 1)
    have l2 := LP_none (T := T) (ln := ln) (el := el) (sg := sg) (pd := pd) e (f + 1)
    have l3 := pre_none (w := w) l2.1
    exact Prod.ext (l1.1.trans l3.1.symm) (l1.2.trans (e2.trans (l2.2.symm.trans l3.2.symm)))
  | some c =>
    rw [pre_some e]
    unfold LPf
    rw [bnd_some e]
    show (match sg (sgn T ln (pb T ln r.2)) with
      | some w' => bnd (LPf T ln el sg f (el (pb T ln r.2 + 1)) (some w')) fun c' b' => (some (w ++ c ++ opl pd ++ c'), b')
      | none => (some (w ++ c ++ opl pd), pb T ln r.2)) = _
    cases q : sg (sgn T ln (pb T ln r.2)) with
    | none =>
      show (some (w ++ c ++ opl pd), pb T ln r.2) = pre w (some (c ++ opl pd), pb T ln r.2)
      unfold pre
      rw [bnd_some (c := c ++ opl pd) rfl, List.append_assoc]
    | some w' =>
      show bnd (LPf T ln el sg f (el (pb T ln r.2 + 1)) (some w')) (fun c' b' => (some (w ++ c ++ opl pd ++ c'), b')) = pre w (bnd (LPf T ln el sg f (el (pb T ln r.2 + 1)) (some w')) fun c' b' => (some (c ++ opl pd ++ c'), b'))
      cases e2 : (LPf T ln el sg f (el (pb T ln r.2 + 1)) (some w')).1 with
      | none =>
        rw [bnd_none e2, bnd_none e2]
        rfl
      | some c2 =>
        rw [bnd_some e2, bnd_some e2]
        have e3 : w ++ c ++ opl pd ++ c2 = w ++ (c ++ opl pd ++ c2) := by simp only [List.append_assoc]
        show (some (w ++ c ++ opl pd ++ c2), _) = (some (w ++ (c ++ opl pd ++ c2)), _)
        rw [e3]
theorem LP_more {T : Nat → Nat} {ln : Nat} {el : Nat → Res} {sg : Nat → Option Nat} {r : Res} {pd : Option Nat} {w : List Nat} {f x : Nat} (e : r.1 = some w) (q : sg (sgn T ln (pb T ln r.2)) = some x) : LPf T ln el sg (f + 1) r pd = pre (w ++ opl pd) (LPf T ln el sg f (el (pb T ln r.2 + 1)) (some x)) := by
  show bnd r _ = _
  rw [bnd_some e, q]
  rfl
theorem LP_stop {T : Nat → Nat} {ln : Nat} {el : Nat → Res} {sg : Nat → Option Nat} {r : Res} {pd : Option Nat} {w : List Nat} {f : Nat} (e : r.1 = some w) (q : sg (sgn T ln (pb T ln r.2)) = none) : LPf T ln el sg (f + 1) r pd = (some (w ++ opl pd), pb T ln r.2) := by
  show bnd r _ = _
  rw [bnd_some e, q]
theorem mul_dm {s : Nat} (h : s = 0 ∨ isD s = true) : mulS s = none ∧ addS s = none ∧ cmpS s = none ∧ andS s = none ∧ orS s = none ∧ s ≠ 59 ∧ s ≠ 38 ∧ s ≠ 124 := by
  have : s = 0 ∨ (48 ≤ s ∧ s ≤ 57) := h.imp id isD_iff.mp
  refine ⟨?_, ?_, ?_, ?_, ?_, by omega, by omega, by omega⟩
  · unfold mulS
    rw [if_neg (by omega), if_neg (by omega)]
  · unfold addS
    rw [if_neg (by omega), if_neg (by omega)]
  · unfold cmpS
    rw [if_neg (by omega), if_neg (by omega), if_neg (by omega)]
  · unfold andS
    rw [if_neg (by omega)]
  · unfold orS
    rw [if_neg (by omega)]
end RP
section OPS
variable {X : CX} {D nx sz : Nat} {h h0 : AH} {T : Nat → Nat} {ln a p : Nat} {c : List Nat}
/-- what reads a sum, k more brackets within -/
def SumK (X : CX) (D nx sz : Nat) (h0 : AH) (T : Nat → Nat) (ln k : Nat) : Prop := ∀ (g : AH) (a : Nat) (c : List Nat), Oc h0 g ln a c → c.length ≤ a → Mk X D m_X7_sum [.ref 27, .int (nI (6 - k))] g nx sz (RV fun g' => RcP h0 T ln c (sumN T ln k a) g')
theorem s_atom {k : Nat} (hA0 : 91 ≤ nx) (hF : Fx h0) (t : Txt h0 T ln) (hk : k ≤ 6) (ih : ∀ k', k = k' + 1 → SumK X (D + 3) nx sz h0 T ln k') (o : Oc h0 h ln a c) (hc : c.length ≤ a) : Mk X (D + 4) m_X7_atom [.ref 27, .int (nI (6 - k))] h nx sz (RV fun g => RcP h0 T ln c (atomF T ln (innN T ln k) a) g) := by
  have t1 := t.1
  obtain ⟨p1, p2, p3⟩ := pb_le (T := T) (ln := ln) (a := a) o.2.1
  refine e_X7_atom (c_X7_atom_0 hA0 RO_rm hcs0 (s_next (d := D + 2) hA0 hF t o) ?_)
  rintro _ g ⟨rfl, o⟩
  have hs := sgn_le (a := pb T ln a) t.2.2.1
  refine c_X7_atom_4 RO_rm hcs0 (s_isDg (d := D + 3) hs) ?_
  rintro _ g ⟨rfl, rfl⟩
  obtain ⟨Q, hQ⟩ : ∃ Q, Q = (RV fun g => RcP h0 T ln c (atomF T ln (innN T ln k) a) g) := ⟨_, rfl⟩
  rw [← hQ]
  have fin : ∀ g, RcP h0 T ln c (atomF T ln (innN T ln k) a) g → Q none g := fun g r => by rw [hQ]; exact ⟨rfl, r⟩
  unfold atomF at fin
  by_cases q : isD (sgn T ln (pb T ln a)) = true
  · rw [if_pos q] at fin ⊢
    refine c_X7_atom_9 (P45 := fun _ => False) (P65 := fun _ _ => False) (P65_1 := fun _ _ => False) hA0 RO_rm hcs0 (fun z => by cases z) (fun z => by cases z) (fun z => by cases z) (fun z => by cases z) (fun z => by cases z) (fun z => by cases z) (fun z => by cases z) (fun z => by cases z) (fun _ => s_number (d := D + 2) hA0 hF t o (by omega) q) ?_
    intro _ g r
    exact c_X7_atom_16 (fin g r)
  · rw [if_neg q] at fin ⊢
    have e91 : nI (sgn T ln (pb T ln a)) = 91 ↔ sgn T ln (pb T ln a) = 91 := nI_eq (b := 91) (by omega) (by decide)
    have e0 : nI (sgn T ln (pb T ln a)) = 0 ↔ sgn T ln (pb T ln a) = 0 := nI_eq (b := 0) (by omega) (by decide)
    have e6 : (6 : Int32) ≤ nI (6 - k) ↔ k = 0 := by
      rw [show (6 : Int32) = nI 6 from rfl, le_nI (by decide) (by omega)]
      omega
    have ix : Mk X (D + 3) m_J0_indexOf_0f7a4 [.ref (10000 + 0), .int (((nI (sgn T ln (pb T ln a))).toUInt32 % 65536).toInt32)] g nx sz (RE (ltI (sgn T ln (pb T ln a))) g) := by
      rw [chr_f _ (by omega)]
      exact s_indexOf hs
    have bad : ltr (sgn T ln (pb T ln a)) = none → ltI (sgn T ln (pb T ln a)) < 0 := fun e => by
      unfold ltI
      rw [e]
      decide
    have wr : RcP h0 T ln c (none, pb T ln a) (setI g 27 4 1) := RcP.bad rfl (o.wr (by omega)).dm
    by_cases q91 : sgn T ln (pb T ln a) = 91
    · have el : ltr (sgn T ln (pb T ln a)) = none := by rw [q91]; decide
      rw [el] at fin
      have fin : ∀ g, RcP h0 T ln c (if sgn T ln (pb T ln a) = 91 then (match innN T ln k with
        | none => (none, pb T ln a)
        | some f => clsF T ln 93 (f (pb T ln a + 1))) else (none, pb T ln a)) g → Q none g := fin
      rw [if_pos q91] at fin
      have l := sgn_pos (T := T) (ln := ln) (a := pb T ln a) (by omega)
      cases k with
      | zero =>
        have y6 := e6.mpr rfl
        refine c_X7_atom_9 (P45 := fun _ => False) (P13 := fun _ => False) (P65 := fun _ _ => False) hA0 RO_rm hcs0 (fun _ z => absurd (e91.mpr q91) z) (fun _ z => absurd (e91.mpr q91) z) (fun _ z => absurd (e91.mpr q91) z) (fun _ _ _ z => by have := e0.mp z; omega) (fun _ _ _ _ => ix) ?_ (fun _ _ z => absurd y6 z) (fun _ _ z => absurd y6 z) (fun z => absurd rfl z) (fun z => absurd rfl z)
        rintro _ _ _ _ _ g ⟨rfl, rfl⟩
        exact c_X7_atom_68 (d := D + 3) (P87 := fun _ _ => False) hA0 RO_rm hcs0 (fun _ => fin _ wr) (fun z => absurd (bad el) z) (fun z => absurd (bad el) z)
      | succ k' =>
        have n6 : ¬ (6 : Int32) ≤ nI (6 - (k' + 1)) := fun z => by have := e6.mp z; omega
        have ek : nI (6 - (k' + 1)) + 1 = nI (6 - k') := by
          rw [nI_1]
          congr 1
          omega
        refine c_X7_atom_9 (P13 := fun _ => False) (P65 := fun _ _ => False) (P65_1 := fun _ _ => False) hA0 RO_rm hcs0 (fun _ z => absurd (e91.mpr q91) z) (fun _ z => absurd (e91.mpr q91) z) (fun _ z => absurd (e91.mpr q91) z) (fun _ _ z => absurd z n6) (fun _ _ z => absurd z n6) (fun _ _ z => absurd z n6) (fun _ _ _ => by
          rw [ek, o.2.2.1, nI_1]
          exact ih k' rfl _ (pb T ln a + 1) c (o.at (by omega)) (by omega)) ?_ (fun z => absurd rfl z) (fun z => absurd rfl z)
        intro _ _ _ g r
        have gd := sumN_gd (T := T) (ln := ln) (k := k') (a := pb T ln a + 1) (by omega)
        have fin : ∀ g, RcP h0 T ln c (clsF T ln 93 (sumN T ln k' (pb T ln a + 1))) g → Q none g := fin
        cases e : (sumN T ln k' (pb T ln a + 1)).1 with
        | none =>
          refine c_X7_atom_48 hA0 RO_rm hcs0 (s_expect_dm (s := 93) (d := D + 1) hA0 hF t (r.of_none e) (by decide) (by decide) rfl) ?_
          intro g w
          refine c_X7_atom_54 (fin g ?_)
          unfold clsF
          rw [bnd_none e]
          exact RcP.bad rfl w.dm
        | some c' =>
          obtain ⟨g1, g2, g3⟩ := gd.2 c' e
          have o := r.of_some e
          have lc : (c ++ c').length ≤ 200 := by
            rw [List.length_append]
            have := gd.1
            omega
          refine c_X7_atom_48 hA0 RO_rm hcs0 (s_expect (s := 93) (d := D + 1) hA0 hF t o lc (by decide) (by decide)) ?_
          intro g w
          refine c_X7_atom_54 (fin g ?_)
          unfold clsF
          rw [bnd_some e]
          by_cases qc : sgn T ln (pb T ln (sumN T ln k' (pb T ln a + 1)).2) = 93
          · rw [if_pos qc] at w ⊢
            exact RcP.ok rfl w
          · rw [if_neg qc] at w ⊢
            exact RcP.bad rfl w.dm
    · have n91 : ¬ nI (sgn T ln (pb T ln a)) = 91 := fun z => q91 (e91.mp z)
      have done : ltr (sgn T ln (pb T ln a)) = none → Q none (setI g 27 4 1) := fun el => by
        rw [el] at fin
        refine fin _ ?_
        show RcP h0 T ln c (if sgn T ln (pb T ln a) = 91 then _ else _) _
        rw [if_neg q91]
        exact wr
      refine c_X7_atom_9 (P13 := fun _ => False) (P45 := fun _ => False) (P65_1 := fun _ _ => False) hA0 RO_rm hcs0 (fun _ _ z => done (by rw [e0.mp z]; decide)) (fun _ _ _ => ix) ?_ (fun _ z => absurd z n91) (fun _ z => absurd z n91) (fun _ z => absurd z n91) (fun _ z => absurd z n91) (fun _ z => absurd z n91) (fun z => absurd rfl z) (fun z => absurd rfl z)
      rintro _ _ _ _ g ⟨rfl, rfl⟩
      cases el : ltr (sgn T ln (pb T ln a)) with
      | none => exact c_X7_atom_68 (d := D + 3) (P87 := fun _ _ => False) hA0 RO_rm hcs0 (fun _ => done el) (fun z => absurd (bad el) z) (fun z => absurd (bad el) z)
      | some x =>
        rw [el] at fin
        obtain ⟨x1, x2⟩ := ltr_ok el
        have l := sgn_pos x2
        have ev : ltI (sgn T ln (pb T ln a)) = nI x := by
          unfold ltI
          rw [el]
        have nn : ¬ ltI (sgn T ln (pb T ln a)) < 0 := by
          rw [ev]
          exact nI_pos (by omega)
        have o2 := o.at (b := pb T ln a + 1) (by omega)
        refine c_X7_atom_68 (d := D + 3) (P87 := fun y g' => y = nI x ∧ setI g 27 3 (nI (pb T ln a + 1)) = g') hA0 RO_rm hcs0 (fun z => absurd z nn) (fun _ => ?_) ?_
        · rw [o.2.2.1, nI_1, chr_f _ (by omega)]
          have := s_indexOf (X := X) (d := D) (nx := nx) (sz := sz) (h := setI g 27 3 (nI (pb T ln a + 1))) hs
          rw [ev] at this
          exact this
        rintro _ _ g' ⟨rfl, rfl⟩
        refine c_X7_atom_90 hA0 RO_rm hcs0 (s_write (d := D + 3) (s := 1) (v := x) hA0 hF o2 (by omega) (by omega) (by decide)) ?_
        intro g' w
        exact c_X7_atom_93 (fin g' (RcP.ok rfl w))
end OPS

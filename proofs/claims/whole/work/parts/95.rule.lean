/-! rule text: the other side goes through it -/
section OPS
variable {X : CX} {D nx sz : Nat} {h h0 : AH} {T : Nat → Nat} {p : Nat → Int32} {rt b0 ln a k q : Nat} {c : List Nat}
def FC (h g : AH) : Prop := g.2 = h.2 ∧ ∀ c j, ¬ (c = 68 ∧ ((11 ≤ j ∧ j ≤ 13) ∨ j = 15 ∨ j = 18)) → g.1 c j = h.1 c j
theorem FM.fc {g : AH} (a : FM h g) : FC h g := ⟨a.1, fun c j z => a.2 c j (fun y => z ⟨y.1, Or.inl y.2⟩)⟩
theorem FC.trans {g k : AH} (a : FC h g) (b : FC g k) : FC h k := ⟨b.1.trans a.1, fun c j z => (b.2 c j z).trans (a.2 c j z)⟩
theorem FC.set {g : AH} {j : Nat} {x : Int32} (a : FC h g) (hj : (11 ≤ j ∧ j ≤ 13) ∨ j = 15 ∨ j = 18) : FC h (setI g 68 j x) := ⟨a.1, fun c k hk => by
  show (if c = 68 ∧ k = j then x else g.1 c k) = _
  rw [if_neg (fun z => hk ⟨z.1, by rw [z.2]; exact hj⟩)]
  exact a.2 c k hk⟩
theorem FC.mtx {g : AH} (a : FC h g) (m : Mtx h rt b0 T ln) : Mtx g rt b0 T ln := m.of (by rw [a.1]) (a.2 68 9 (by omega)) (a.2 68 10 (by omega)) (funext fun j => a.2 69 j (by omega)) (funext fun j => a.2 70 j (by omega))
theorem FC.lett {g : AH} (a : FC h g) (l : Let h p) : Let g p := fun k hk => by
  rw [a.2 72 _ (by omega)]
  exact l k hk
def Upd (p : Nat → Int32) (c : List Nat) (h g : AH) : Prop := (h.1 68 18 ≠ 0 ∧ g.1 68 18 = h.1 68 18 ∧ g.1 68 15 = h.1 68 15) ∨ (h.1 68 18 = 0 ∧ g.1 68 18 = 1 ∧ ∀ rest, wG p (c ++ rest) [] false = some (g.1 68 15)) ∨ (h.1 68 18 = 0 ∧ g.1 68 18 = 0 ∧ g.1 68 15 = h.1 68 15 ∧ ∀ rest, wG p (c ++ rest) [] false = wG p rest [] false)
def OutC (T : Nat → Nat) (ln : Nat) (p : Nat → Int32) (h : AH) (r : Res) (g : AH) : Prop := FC h g ∧ match r.1 with
  | none => r.2 ≤ ln ∧ g.1 68 12 = nI r.2
  | some c => (∃ b, b ≤ ln ∧ pb T ln b = pb T ln r.2 ∧ g.1 68 11 = nI b) ∧ g.1 68 12 = -1 ∧ g.1 68 13 = 0 ∧ Upd p c h g
theorem OutC.bad {g : AH} {r : Res} (e : r.1 = none) (f : Fm h g ln r.2) : OutC T ln p h r g := ⟨f.1.fc, by rw [e]; exact f.2⟩
theorem out1 {g : AH} {r : Res} {b : Nat} (e : r.1 = some c) (o : Om h g ln b 6) (eb : pb T ln b = pb T ln r.2) (z : ¬ g.1 68 18 = 0) : OutC T ln p h r g := by
  have e18 := o.1.2 68 18 (by omega)
  have e15 := o.1.2 68 15 (by omega)
  refine ⟨o.1.fc, ?_⟩
  rw [e]
  exact ⟨⟨b, o.2.1, eb, o.2.2.1⟩, o.2.2.2.1, o.2.2.2.2, Or.inl ⟨by rw [← e18]; exact z, e18, e15⟩⟩
theorem out2 {g : AH} {r : Res} {b : Nat} {v : Int32} (e : r.1 = some c) (o : Om h g ln b 6) (eb : pb T ln b = pb T ln r.2) (z : g.1 68 18 = 0) (w : ∀ rest, wG p (c ++ rest) [] false = some v) : OutC T ln p h r (setI (setI g 68 18 1) 68 15 v) := by
  have e18 := o.1.2 68 18 (by omega)
  refine ⟨(o.1.fc.set (by omega)).set (by omega), ?_⟩
  rw [e]
  exact ⟨⟨b, o.2.1, eb, o.2.2.1⟩, o.2.2.2.1, o.2.2.2.2, Or.inr (Or.inl ⟨by rw [← e18]; exact z, rfl, w⟩)⟩
theorem out3 {g : AH} {r : Res} {b : Nat} (e : r.1 = some c) (o : Om h g ln b 6) (eb : pb T ln b = pb T ln r.2) (z : g.1 68 18 = 0) (w : ∀ rest, wG p (c ++ rest) [] false = wG p rest [] false) : OutC T ln p h r g := by
  have e18 := o.1.2 68 18 (by omega)
  have e15 := o.1.2 68 15 (by omega)
  refine ⟨o.1.fc, ?_⟩
  rw [e]
  exact ⟨⟨b, o.2.1, eb, o.2.2.1⟩, o.2.2.2.1, o.2.2.2.2, Or.inr (Or.inr ⟨by rw [← e18]; exact z, z, e15, w⟩)⟩
theorem wG_sum {m : Nat} {w : List Nat} {v : Int32} (sp : SP p m w v) (hm : m ≤ 48) (rest : List Nat) : wG p (w ++ [13] ++ rest) [] false = some v := by
  rw [List.append_assoc, sp [] _ (by show 0 + m ≤ 48; omega)]
  rfl
theorem wG_gd {m m' : Nat} {w w' : List Nat} {v v' : Int32} (sp : SP p m w v) (hm : m ≤ 48) (sp' : SP p m' w' v') (hm' : m' ≤ 48) (b : B01 v) (hw : ∀ x, x ∈ w' → x % 16 ≠ 13) (rest : List Nat) : (v ≠ 0 → wG p (w ++ [12] ++ w' ++ [13] ++ rest) [] false = some v') ∧ (v = 0 → wG p (w ++ [12] ++ w' ++ [13] ++ rest) [] false = wG p rest [] false) := by
  have e : w ++ [12] ++ w' ++ [13] ++ rest = w ++ ([12] ++ (w' ++ ([13] ++ rest))) := by simp only [List.append_assoc]
  rw [e, sp [] _ (by show 0 + m ≤ 48; omega)]
  have e2 : wG p ([12] ++ (w' ++ ([13] ++ rest))) [v] false = wG p (w' ++ ([13] ++ rest)) [] (decide (v = 0)) := rfl
  rw [e2]
  refine ⟨fun z => ?_, fun z => ?_⟩
  · rw [decide_eq_false z, sp' [] _ (by show 0 + m' ≤ 48; omega)]
    rfl
  · rw [decide_eq_true z, wG_skip _ _ _ hw]
    rfl
theorem p_gd70 {Q : Option Value → AH → Prop} {r : Res} {v : Int32} {g : AH} {s : Nat} (hA0 : 91 ≤ nx) (M : Mtx h rt b0 T ln) (h14 : h.1 68 14 = lkI s) (hS : SumM X (D + 1) nx sz h T p ln 6) (rr : MB h p ln 18 6 r v g) (fin : ∀ g, OutC T ln p h (gdF T ln r) g → Q none g) : VM X m_X12_clause (D + 2) nx sz Q 70 [some (.ref 68), some (.int (lkI s)), none, none, none] [.int v] g := by
  have t1 := M.2.2.2.1
  cases e : r.1 with
  | none =>
    unfold gdF at fin
    rw [bnd_none e] at fin
    refine c_X12_clause_70 hA0 RO_rm hcs0 (t_takesF (d := D) hA0 t1 (rr.2.of_none e)) ?_
    rintro _ g ⟨rfl, f⟩
    exact c_X12_clause_77 (d := D + 1) (P82 := fun _ _ => False) hA0 RO_rm hcs0 (fun z => absurd rfl z) (fun z => absurd rfl z) (fun _ => fin g (OutC.bad rfl f))
  | some w =>
    unfold gdF at fin
    rw [bnd_some e] at fin
    obtain ⟨o, sp⟩ := rr.2.of_some e
    obtain ⟨p1, p2, p3⟩ := pb_le (T := T) (ln := ln) (a := r.2) o.2.1
    refine c_X12_clause_70 hA0 RO_rm hcs0 (t_takes (s := 63) (d := D) hA0 M o (by decide) (by decide)) ?_
    intro y g wy
    by_cases q : sgn T ln (pb T ln r.2) = 63
    · rw [if_pos q] at wy fin
      obtain ⟨rfl, o⟩ := wy
      have l := sgn_pos (T := T) (ln := ln) (a := pb T ln r.2) (by omega)
      refine c_X12_clause_77 hA0 RO_rm hcs0 (fun _ => hS g _ o) ?_ (fun z => by cases z)
      intro _ v' g r2
      cases e2 : (sumN T ln 6 (pb T ln r.2 + 1)).1 with
      | none =>
        rw [bnd_none e2] at fin
        have f := r2.of_none e2
        exact c_X12_clause_85 hA0 (fun _ => fin g (OutC.bad rfl f)) (fun z => absurd z (f.ne t1)) (fun z => absurd z (f.ne t1)) (fun z => absurd z (f.ne t1)) (fun z => absurd z (f.ne t1))
      | some w' =>
        rw [bnd_some e2] at fin
        obtain ⟨o, sp'⟩ := r2.of_some e2
        have gs := sumN_gd (T := T) (ln := ln) (k := 6) (a := pb T ln r.2 + 1) (by omega)
        have hw : ∀ x, x ∈ w' → x % 16 ≠ 13 := fun x hx => by
          have := ((gs.2 w' e2).2.2 x hx).1
          omega
        have wg := wG_gd sp (by decide) sp' (by decide) rr.1 hw
        have e14 : lkI s = g.1 68 14 := by rw [o.1.2 68 14 (by omega)]; exact h14.symm
        exact c_X12_clause_85 hA0 (fun z => absurd o.2.2.2.1 z) (fun _ z => fin _ (out1 rfl o rfl z)) (fun _ _ z => absurd e14 z) (fun _ z _ z2 => fin _ (out2 rfl o rfl z (fun rest => (wg rest).1 z2))) (fun _ z _ z2 => fin _ (out3 rfl o rfl z (fun rest => (wg rest).2 z2)))
    · rw [if_neg q] at wy fin
      obtain ⟨rfl, f⟩ := wy
      exact c_X12_clause_77 (d := D + 1) (P82 := fun _ _ => False) hA0 RO_rm hcs0 (fun z => absurd rfl z) (fun z => absurd rfl z) (fun _ => fin g (OutC.bad rfl f))
theorem p_gd118 {Q : Option Value → AH → Prop} {r : Res} {v : Int32} {g : AH} {s : Nat} (hA0 : 91 ≤ nx) (M : Mtx h rt b0 T ln) (h14 : h.1 68 14 = lkI s) (hS : SumM X (D + 1) nx sz h T p ln 6) (rr : MB h p ln 18 6 r v g) (fin : ∀ g, OutC T ln p h (gdF T ln r) g → Q none g) : VM X m_X12_clause (D + 2) nx sz Q 118 [some (.ref 68), some (.int (lkI s)), none, none, none] [.int v] g := by
  have t1 := M.2.2.2.1
  cases e : r.1 with
  | none =>
    unfold gdF at fin
    rw [bnd_none e] at fin
    refine c_X12_clause_118 hA0 RO_rm hcs0 (t_takesF (d := D) hA0 t1 (rr.2.of_none e)) ?_
    rintro _ g ⟨rfl, f⟩
    exact c_X12_clause_125 (d := D + 1) (P130 := fun _ _ => False) hA0 RO_rm hcs0 (fun z => absurd rfl z) (fun z => absurd rfl z) (fun _ => fin g (OutC.bad rfl f))
  | some w =>
    unfold gdF at fin
    rw [bnd_some e] at fin
    obtain ⟨o, sp⟩ := rr.2.of_some e
    obtain ⟨p1, p2, p3⟩ := pb_le (T := T) (ln := ln) (a := r.2) o.2.1
    refine c_X12_clause_118 hA0 RO_rm hcs0 (t_takes (s := 63) (d := D) hA0 M o (by decide) (by decide)) ?_
    intro y g wy
    by_cases q : sgn T ln (pb T ln r.2) = 63
    · rw [if_pos q] at wy fin
      obtain ⟨rfl, o⟩ := wy
      have l := sgn_pos (T := T) (ln := ln) (a := pb T ln r.2) (by omega)
      refine c_X12_clause_125 hA0 RO_rm hcs0 (fun _ => hS g _ o) ?_ (fun z => by cases z)
      intro _ v' g r2
      cases e2 : (sumN T ln 6 (pb T ln r.2 + 1)).1 with
      | none =>
        rw [bnd_none e2] at fin
        have f := r2.of_none e2
        exact c_X12_clause_133 hA0 (fun _ => fin g (OutC.bad rfl f)) (fun z => absurd z (f.ne t1)) (fun z => absurd z (f.ne t1)) (fun z => absurd z (f.ne t1)) (fun z => absurd z (f.ne t1))
      | some w' =>
        rw [bnd_some e2] at fin
        obtain ⟨o, sp'⟩ := r2.of_some e2
        have gs := sumN_gd (T := T) (ln := ln) (k := 6) (a := pb T ln r.2 + 1) (by omega)
        have hw : ∀ x, x ∈ w' → x % 16 ≠ 13 := fun x hx => by
          have := ((gs.2 w' e2).2.2 x hx).1
          omega
        have wg := wG_gd sp (by decide) sp' (by decide) rr.1 hw
        have e14 : lkI s = g.1 68 14 := by rw [o.1.2 68 14 (by omega)]; exact h14.symm
        exact c_X12_clause_133 hA0 (fun z => absurd o.2.2.2.1 z) (fun _ z => fin _ (out1 rfl o rfl z)) (fun _ _ z => absurd e14 z) (fun _ z _ z2 => fin _ (out2 rfl o rfl z (fun rest => (wg rest).1 z2))) (fun _ z _ z2 => fin _ (out3 rfl o rfl z (fun rest => (wg rest).2 z2)))
    · rw [if_neg q] at wy fin
      obtain ⟨rfl, f⟩ := wy
      exact c_X12_clause_125 (d := D + 1) (P130 := fun _ _ => False) hA0 RO_rm hcs0 (fun z => absurd rfl z) (fun z => absurd rfl z) (fun _ => fin g (OutC.bad rfl f))
theorem t_clause (hA0 : 91 ≤ nx) (hF : Fx h) (M : Mtx h rt b0 T ln) (L : Let h p) (ha : a ≤ ln) (e11 : h.1 68 11 = nI a) (e12 : h.1 68 12 = -1) (e13 : h.1 68 13 = 0) (e14 : h.1 68 14 = 121) : Mk X (D + 30) m_X12_clause [.ref 68] h nx sz (RV fun g => OutC T ln p h (clauF T ln a) g) := by
  have t1 := M.2.2.2.1
  have hB := M.2.2.2.2.2.1
  have hS : SumM X (D + 29) nx sz h T p ln 6 := t_sumK hA0 hF M L 6 (by decide) (D + 4)
  have hS' : SumM X (D + 26) nx sz h T p ln 6 := t_sumK hA0 hF M L 6 (by decide) (D + 1)
  have hU : UniM X (D + 27) nx sz h T p ln 6 := t_unitK hA0 hF M L 6 (by decide) D
  have hC : ConM X (D + 29) nx sz h T p ln 6 := t_con0 (D := D + 26) hA0 M hU
  have hC1 := fun g b W V (o : Om h g ln b 6) sp => t_con1 (X := X) (D := D + 26) (nx := nx) (sz := sz) (h := g) (b := b) (W := W) (V := V) hA0 M hS' hU o sp (by omega)
  have o : Om h h ln a 6 := ⟨⟨rfl, fun _ _ _ => rfl⟩, ha, e11, e12, e13⟩
  obtain ⟨p1, p2, p3⟩ := pb_le (T := T) (ln := ln) (a := a) ha
  have hs := sgn_le (a := pb T ln a) hB
  obtain ⟨Q, hQ⟩ : ∃ Q, Q = (RV fun g => OutC T ln p h (clauF T ln a) g) := ⟨_, rfl⟩
  rw [← hQ]
  have fin : ∀ g, OutC T ln p h (clauF T ln a) g → Q none g := fun g r => by rw [hQ]; exact ⟨rfl, r⟩
  unfold clauF at fin
  refine e_X12_clause (c_X12_clause_0 hA0 RO_rm hcs0 (t_lookO (d := D + 29) hA0 M o) ?_)
  rintro _ g ⟨rfl, -, o⟩
  refine c_X12_clause_4 RO_rm hcs0 (t_isAmong (d := D + 25) (r := 1) (by decide)) ?_
  rintro _ g ⟨rfl, rfl⟩
  rw [(am_0 (sgn T ln (pb T ln a)) (by omega)).2]
  by_cases q : sgn T ln (pb T ln a) = 121
  · rw [if_pos q] at fin
    rw [decide_eq_true q]
    have l := sgn_pos (T := T) (ln := ln) (a := pb T ln a) (by omega)
    have e14 : h.1 68 14 = lkI (sgn T ln (pb T ln a)) := by rw [q]; exact e14
    generalize sgn T ln (pb T ln a) = own at *
    refine c_X12_clause_11 (P15 := fun _ _ => False) hA0 RO_rm hcs0 (fun _ => by rw [o.2.2.1, nI_1]; exact t_takes (s := 58) (d := D + 28) hA0 M (o.at (by omega)) (by decide) (by decide)) ?_ (fun z => by cases z) (fun z => by cases z)
    intro _ y g w
    obtain ⟨b1, b2, b3⟩ := pb_le (T := T) (ln := ln) (a := pb T ln a + 1) (by omega)
    by_cases q2 : sgn T ln (pb T ln (pb T ln a + 1)) = 58
    · rw [if_pos q2] at w fin
      obtain ⟨rfl, o⟩ := w
      have l2 := sgn_pos (T := T) (ln := ln) (a := pb T ln (pb T ln a + 1)) (by omega)
      generalize pb T ln (pb T ln a + 1) + 1 = a2 at *
      obtain ⟨d1, d2, d3⟩ := pb_le (T := T) (ln := ln) (a := a2) o.2.1
      have hs2 := sgn_le (a := pb T ln a2) hB
      have e33 := lkI_eq (c := 33) hs2 (by decide) (by decide)
      have e40 := lkI_eq (c := 40) hs2 (by decide) (by decide)
      refine c_X12_clause_36 hA0 RO_rm hcs0 (fun _ => t_lookO (d := D + 29) hA0 M o) ?_ (fun z => by cases z)
      rintro _ _ g ⟨rfl, -, o⟩
      unfold bodF at fin
      by_cases qq : sgn T ln (pb T ln a2) = 33 ∨ sgn T ln (pb T ln a2) = 40
      · rw [if_pos qq] at fin
        by_cases q33 : sgn T ln (pb T ln a2) = 33
        · have y33 := e33.mpr q33
          refine c_X12_clause_48 (P90 := fun _ _ => False) (P67_1 := fun _ _ => False) hA0 RO_rm hcs0 (fun _ => hC g _ o) ?_ (fun z => absurd y33 z) (fun z => absurd y33 z) (fun z => absurd y33 z) (fun z => absurd y33 z)
          intro _ v g r
          exact p_gd70 (D := D + 28) hA0 M e14 hS r fin
        · have n33 : ¬ lkI (sgn T ln (pb T ln a2)) = 33 := fun z => q33 (e33.mp z)
          have y40 := e40.mpr (qq.resolve_left q33)
          refine c_X12_clause_48 (P90 := fun _ _ => False) (P67 := fun _ _ => False) hA0 RO_rm hcs0 (fun z => absurd z n33) (fun z => absurd z n33) (fun _ z => absurd y40 z) (fun _ z => absurd y40 z) (fun _ _ => hC g _ o) ?_
          intro _ _ v g r
          exact p_gd70 (D := D + 28) hA0 M e14 hS r fin
      · rw [if_neg qq] at fin
        have n33 : ¬ lkI (sgn T ln (pb T ln a2)) = 33 := fun z => qq (Or.inl (e33.mp z))
        have n40 : ¬ lkI (sgn T ln (pb T ln a2)) = 40 := fun z => qq (Or.inr (e40.mp z))
        refine c_X12_clause_48 (P67 := fun _ _ => False) (P67_1 := fun _ _ => False) hA0 RO_rm hcs0 (fun z => absurd z n33) (fun z => absurd z n33) (fun _ _ => hS g _ o) ?_ (fun _ z => absurd z n40) (fun _ z => absurd z n40)
        intro _ _ v g r
        cases e : (sumN T ln 6 (pb T ln a2)).1 with
        | none =>
          rw [bnd_none e] at fin
          have f := r.of_none e
          exact c_X12_clause_93 (d := D + 29) (P103 := fun _ _ => False) hA0 RO_rm hcs0 (fun _ _ => fin g (OutC.bad rfl f)) (fun z z2 => absurd z2 z) (fun z z2 => absurd z2 z) (fun z z2 => absurd z2 z) (fun z z2 => absurd z2 z) (fun z => absurd z (f.ne t1)) (fun z => absurd z (f.ne t1))
        | some w =>
          rw [bnd_some e] at fin
          obtain ⟨o, sp⟩ := r.of_some e
          have gs := sumN_gd (T := T) (ln := ln) (k := 6) (a := pb T ln a2) d2
          have hs3 := sgn_le (a := pb T ln (sumN T ln 6 (pb T ln a2)).2) hB
          refine c_X12_clause_93 hA0 RO_rm hcs0 (fun z => absurd o.2.2.2.1 z) (fun z => absurd o.2.2.2.1 z) (fun z => absurd o.2.2.2.1 z) (fun z => absurd o.2.2.2.1 z) (fun z => absurd o.2.2.2.1 z) (fun _ => t_lookO (d := D + 29) hA0 M o) ?_
          rintro _ _ g ⟨rfl, -, o⟩
          refine c_X12_clause_106 RO_rm hcs0 (t_isSign (D := D + 29) hs3) ?_
          rintro _ g ⟨rfl, rfl⟩
          have e14' : lkI own = g.1 68 14 := by rw [o.1.2 68 14 (by omega)]; exact e14.symm
          by_cases qc : (cmpS (sgn T ln (pb T ln (sumN T ln 6 (pb T ln a2)).2))).isSome = true
          · rw [if_pos qc] at fin ⊢
            refine c_X12_clause_109 hA0 RO_rm hcs0 (fun z => by cases z) (fun z => by cases z) (fun z => by cases z) (fun z => by cases z) (fun z => by cases z) (fun _ => hC1 g _ w v o (sp.mono (by decide))) ?_
            intro _ v2 g r
            rw [cmpF_pb gs.1] at r
            exact p_gd118 (D := D + 28) hA0 M e14 hS r fin
          · rw [if_neg qc] at fin ⊢
            have eb := pb_pb (T := T) (ln := ln) gs.1
            exact c_X12_clause_109 (d := D + 29) (P115 := fun _ _ => False) hA0 RO_rm hcs0 (fun _ z => absurd o.2.2.2.1 z) (fun _ _ z => fin _ (out1 rfl o eb z)) (fun _ _ _ z => absurd e14' z) (fun _ _ z _ _ => fin _ (out2 rfl o eb z (wG_sum sp (by decide)))) (fun _ _ _ _ z => by cases z) (fun z => absurd rfl z) (fun z => absurd rfl z)
    · rw [if_neg q2] at w fin
      obtain ⟨rfl, f⟩ := w
      exact c_X12_clause_36 (d := D + 29) (P45 := fun _ _ => False) hA0 RO_rm hcs0 (fun z => absurd rfl z) (fun z => absurd rfl z) (fun _ => fin g (OutC.bad rfl f))
  · rw [if_neg q] at fin
    rw [decide_eq_false q]
    refine c_X12_clause_11 (P33 := fun _ _ => False) hA0 RO_rm hcs0 (fun z => absurd rfl z) (fun z => absurd rfl z) (fun _ => t_failsO (d := D + 29) hA0 o) ?_
    rintro _ _ g ⟨rfl, -, f⟩
    exact c_X12_clause_18 (fin g (OutC.bad rfl f))
end OPS

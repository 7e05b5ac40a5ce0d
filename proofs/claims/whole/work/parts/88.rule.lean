/-! rule text: the class's conditions -/
section NT
variable {T : Nat → Nat} {ln a : Nat}
/-- so many signs of 'not' behind -/
def nots (j : Nat) (r : Res) : Res := bnd r fun c b => (some (c ++ List.replicate j 11), b)
theorem nots_none {j : Nat} {r : Res} (e : r.1 = none) : nots j r = (none, r.2) := bnd_none e
theorem nots_some {j : Nat} {r : Res} {c : List Nat} (e : r.1 = some c) : nots j r = (some (c ++ List.replicate j 11), r.2) := bnd_some e
theorem nots_0 {r : Res} : nots 0 r = r := by
  cases e : r.1 with
  | none => exact (nots_none e).trans (Prod.ext e.symm rfl)
  | some c =>
    refine (nots_some e).trans (Prod.ext ?_ rfl)
    rw [e]
    show some (c ++ []) = some c
    rw [List.append_nil]
theorem nots_S {j : Nat} {r : Res} : nots j (bnd r fun c b => (some (c ++ [11]), b)) = nots (j + 1) r := by
  cases e : r.1 with
  | none =>
    rw [bnd_none e, nots_none e]
    exact nots_none rfl
  | some c =>
    rw [bnd_some e, nots_some e]
    refine (nots_some (c := c ++ [11]) rfl).trans ?_
    rw [List.append_assoc]
    rfl
theorem atom_pb {inn : Option (Nat → Res)} (ha : a ≤ ln) : atomF T ln inn (pb T ln a) = atomF T ln inn a := by
  unfold atomF
  rw [pb_pb ha]
theorem sum_pb {k : Nat} (ha : a ≤ ln) : sumN T ln k (pb T ln a) = sumN T ln k a := by
  have e := atom_pb (T := T) (inn := innN T ln k) ha
  show LPf T ln (termF T ln (innN T ln k)) addS 200 (LPf T ln (atomF T ln (innN T ln k)) mulS 200 (atomF T ln (innN T ln k) (pb T ln a)) none) none = LPf T ln (termF T ln (innN T ln k)) addS 200 (LPf T ln (atomF T ln (innN T ln k)) mulS 200 (atomF T ln (innN T ln k) a) none) none
  rw [e]
/-- no sum begins so -/
theorem sum_no {k : Nat} (h : sgn T ln (pb T ln a) = 33 ∨ sgn T ln (pb T ln a) = 40) : sumN T ln k a = (none, pb T ln a) := by
  have l : ∀ s, s = 33 ∨ s = 40 → isD s = false ∧ ltr s = none ∧ s ≠ 91 := by
    intro s hs
    rcases hs with rfl | rfl <;> decide
  obtain ⟨l1, l2, l3⟩ := l _ h
  have e : atomF T ln (innN T ln k) a = (none, pb T ln a) := by
    unfold atomF
    rw [l1, if_neg (by decide), l2]
    exact if_neg l3
  show LPf T ln (termF T ln (innN T ln k)) addS 200 (LPf T ln (atomF T ln (innN T ln k)) mulS 200 (atomF T ln (innN T ln k) a) none) none = _
  rw [e]
  obtain ⟨x1, x2⟩ := LP_none (T := T) (ln := ln) (el := atomF T ln (innN T ln k)) (sg := mulS) (pd := none) (r := (none, pb T ln a)) rfl 200
  obtain ⟨y1, y2⟩ := LP_none (T := T) (ln := ln) (el := termF T ln (innN T ln k)) (sg := addS) (pd := none) x1 200
  exact Prod.ext y1 (y2.trans x2)
theorem uN_0 (ha : a ≤ ln) : uN T ln 0 a = bnd (sumN T ln 0 a) fun c b => bnd (cmpF T ln 0 b) fun c' b' => (some (c ++ c'), b') := by
  show unitF T ln 0 none a = _
  unfold unitF
  by_cases q : sgn T ln (pb T ln a) = 33
  · refine (if_pos q).trans ?_
    exact (congrArg (fun r => bnd r fun c b => bnd (cmpF T ln 0 b) fun c' b' => (some (c ++ c'), b')) (sum_no (k := 0) (Or.inl q))).symm
  · refine (if_neg q).trans ?_
    by_cases q2 : sgn T ln (pb T ln a) = 40
    · refine (if_pos q2).trans ?_
      exact (congrArg (fun r => bnd r fun c b => bnd (cmpF T ln 0 b) fun c' b' => (some (c ++ c'), b')) (sum_no (k := 0) (Or.inr q2))).symm
    · refine (if_neg q2).trans ?_
      rw [sum_pb ha]
theorem uN_33 {k : Nat} (q : sgn T ln (pb T ln a) = 33) : uN T ln (k + 1) a = bnd (uN T ln k (pb T ln a + 1)) fun c b => (some (c ++ [11]), b) := by
  show unitF T ln (k + 1) (some (uN T ln k)) a = _
  unfold unitF
  exact if_pos q
theorem uN_40 {k : Nat} (q : sgn T ln (pb T ln a) = 40) : uN T ln (k + 1) a = clsF T ln 41 (cdN T ln k (uN T ln k (pb T ln a + 1))) := by
  show unitF T ln (k + 1) (some (uN T ln k)) a = _
  unfold unitF
  exact (if_neg (by omega)).trans (if_pos q)
theorem uN_el {k : Nat} (q : ¬ sgn T ln (pb T ln a) = 33) (q2 : ¬ sgn T ln (pb T ln a) = 40) : uN T ln (k + 1) a = bnd (sumN T ln (k + 1) (pb T ln a)) fun c b => bnd (cmpF T ln (k + 1) b) fun c' b' => (some (c ++ c'), b') := by
  show unitF T ln (k + 1) (some (uN T ln k)) a = _
  unfold unitF
  exact (if_neg q).trans (if_neg q2)
theorem uN_eq {k : Nat} : uN T ln k a = unitF T ln k (match k with
  | 0 => none
  | k' + 1 => some (uN T ln k')) a := by cases k <;> rfl
end NT
section OPS
variable {X : CX} {d D nx sz : Nat} {h h0 : AH} {T : Nat → Nat} {ln a p : Nat} {c : List Nat}
/-- where signs of 'not' are read -/
theorem un_2 {Q : Option Value → AH → Prop} {x1 x3 : Int32} {P13 : Int32 → AH → Prop} {P89 : AH → Prop} (hA0 : 91 ≤ nx)
    (hN : ¬ 6 ≤ x3 → Mk X d m_X7_next [.ref 27] h nx sz (RI P13)) (qN : ¬ 6 ≤ x3 → ∀ (y : Int32) (g : AH), P13 y g → VM X m_X7_unit (d + 1) nx sz Q 16 [some (.ref 27), some (.int x1), some (.int 0), some (.int x3), none] [.int y] g)
    (hS : 6 ≤ x3 → Mk X d m_X7_sum [.ref 27, .int x3] h nx sz (RV P89)) (qS : 6 ≤ x3 → ∀ g, P89 g → VM X m_X7_unit (d + 1) nx sz Q 92 [some (.ref 27), some (.int x1), none, some (.int x3), none] [] g) : VM X m_X7_unit (d + 1) nx sz Q 2 [some (.ref 27), some (.int x1), some (.int 0), some (.int x3), none] [] h :=
  c_X7_unit_2 (P89 := fun _ => False) (P89_1 := fun _ => False) (P89_2 := fun _ => False) (P89_3 := P89) (P48 := fun _ _ => False) (P48_1 := fun _ _ => False) (P13 := P13) hA0 RO_rm hcs0
    (fun a => absurd rfl a) (fun a => absurd rfl a) (fun a => absurd rfl a) (fun a => absurd rfl a) (fun a => absurd rfl a) (fun a => absurd rfl a) (fun a => absurd rfl a) (fun a => absurd rfl a)
    (fun _ _ a => absurd rfl a) (fun _ _ a => absurd rfl a) (fun _ _ a => absurd rfl a)
    (fun _ _ _ _ a => absurd rfl a) (fun _ a _ _ _ => hS a) (fun _ a _ _ _ => qS a)
    (fun _ a _ b => absurd a b) (fun _ a _ b => absurd a b) (fun _ a => hN a) (fun _ a => qN a)
theorem un_16 {Q : Option Value → AH → Prop} {x1 x3 s0 : Int32} {P48 : Int32 → AH → Prop} (hA0 : 91 ≤ nx) (lt : ¬ 6 ≤ x3)
    (hN : ¬ s0 = 33 → Mk X d m_X7_next [.ref 27] h nx sz (RI P48)) (qN : ¬ s0 = 33 → ∀ (y : Int32) (g : AH), P48 y g → VM X m_X7_unit (d + 1) nx sz Q 51 [some (.ref 27), some (.int x1), some (.int 0), some (.int x3), none] [.int y] g)
    (q33 : s0 = 33 → VM X m_X7_unit (d + 1) nx sz Q 2 [some (.ref 27), some (.int x1), some (.int 0), some (.int (x3 + 1)), none] [] (setI h 27 3 (h.1 27 3 + 1))) : VM X m_X7_unit (d + 1) nx sz Q 16 [some (.ref 27), some (.int x1), some (.int 0), some (.int x3), none] [.int s0] h :=
  c_X7_unit_16 (P89 := fun _ => False) (P89_1 := fun _ => False) (P48 := P48) hA0 RO_rm hcs0
    (fun _ a => absurd rfl a) (fun _ a => absurd rfl a) (fun _ a => absurd rfl a) (fun _ _ a => absurd a lt) (fun _ _ a => absurd a lt) (fun _ _ a => absurd a lt)
    (fun a _ _ => hN a) (fun a _ _ => qN a) q33
/-- the signs of 'not' are written -/
theorem un_140 {Q : Option Value → AH → Prop} {w : Nat} (hA0 : 91 ≤ nx) (hF : Fx h0) (hw : w ≤ 6) : ∀ (j : Nat) (r : Res) (g : AH), j ≤ w → RcP h0 T ln c r g → (∀ c', r.1 = some c' → (c ++ c').length + j ≤ 200) → (∀ g', RcP h0 T ln c (nots j r) g' → Q none g') → VM X m_X7_unit (D + 3) nx sz Q 140 [some (.ref 27), none, none, some (.int (nI w)), some (.int (nI (w - j)))] [] g
  | 0, r, g, hj, rr, hl, fin => by
    have yes : nI w ≤ nI (w - 0) := Int32.le_refl _
    exact c_X7_unit_140 (d := D + 2) (P150 := fun _ => False) hA0 RO_rm hcs0 (fun _ => fin g (by rw [nots_0]; exact rr)) (fun z => absurd yes z) (fun z => absurd yes z)
  | j + 1, r, g, hj, rr, hl, fin => by
    have no : ¬ nI w ≤ nI (w - (j + 1)) := fun z => by
      rw [le_nI (by omega) (by omega)] at z
      omega
    cases e : r.1 with
    | none =>
      refine c_X7_unit_140 hA0 RO_rm hcs0 (fun z => absurd z no) (fun _ => s_write_dm (d := D + 2) hA0 hF (rr.of_none e)) ?_
      intro _ g dm
      refine c_X7_unit_153 ?_
      rw [nI_1, show w - (j + 1) + 1 = w - j by omega]
      refine un_140 hA0 hF hw j r g (by omega) (RcP.bad e dm) (fun c' e' => by rw [e] at e'; cases e') (fun g' r' => fin g' ?_)
      rw [nots_none e] at r' ⊢
      exact r'
    | some c' =>
      have l := hl c' e
      refine c_X7_unit_140 hA0 RO_rm hcs0 (fun z => absurd z no) (fun _ => s_write (d := D + 2) (s := 11) (v := 0) hA0 hF (rr.of_some e) (by omega) (by decide) (by decide)) ?_
      intro _ g o
      refine c_X7_unit_153 ?_
      rw [nI_1, show w - (j + 1) + 1 = w - j by omega]
      have o : Oc h0 g ln r.2 (c ++ (c' ++ [11])) := by
        rw [← List.append_assoc]
        exact o
      refine un_140 hA0 hF hw j (some (c' ++ [11]), r.2) g (by omega) (RcP.ok rfl o) (fun c2 e2 => ?_) (fun g' r' => fin g' ?_)
      · cases e2
        rw [← List.append_assoc, List.length_append]
        show (c ++ c').length + 1 + j ≤ 200
        omega
      · rw [← nots_S, bnd_some e]
        exact r'
theorem un_137 {Q : Option Value → AH → Prop} {k j b : Nat} {r : Res} {g : AH} (hA0 : 91 ≤ nx) (hF : Fx h0) (t1 : ln ≤ 200) (hkj : k + j ≤ 6) (gd : Gd pS ln b 0 r) (hc : c.length + j ≤ b) (rr : RcP h0 T ln c r g) (fin : ∀ g', RcP h0 T ln c (nots j r) g' → Q none g') : VM X m_X7_unit (D + 3) nx sz Q 137 [some (.ref 27), some (.int (nI (6 - (k + j)))), none, some (.int (nI (6 - k))), none] [] g := by
  refine c_X7_unit_137 ?_
  rw [show 6 - (k + j) = 6 - k - j by omega]
  refine un_140 hA0 hF (by omega) j r g (by omega) rr (fun c' e => ?_) fin
  have g1 := (gd.2 c' e).1
  have g2 := gd.1
  rw [List.length_append]
  omega
/-- a sum is read: what compares it, and the other -/
theorem un_92 {k : Nat} {x1 : Int32} {Q : Option Value → AH → Prop} (hA0 : 91 ≤ nx) (hF : Fx h0) (t : Txt h0 T ln) (hk : k ≤ 6) (hS : SumK X (D + 2) nx sz h0 T ln k) (o : Oc h0 h ln a c) (hc : c.length ≤ a) (hQ : ∀ g, RcP h0 T ln c (cmpF T ln k a) g → VM X m_X7_unit (D + 3) nx sz Q 137 [some (.ref 27), some (.int x1), none, some (.int (nI (6 - k))), none] [] g) : VM X m_X7_unit (D + 3) nx sz Q 92 [some (.ref 27), some (.int x1), none, some (.int (nI (6 - k))), none] [] h := by
  have t1 := t.1
  obtain ⟨p1, p2, p3⟩ := pb_le (T := T) (ln := ln) (a := a) o.2.1
  refine c_X7_unit_92 hA0 RO_rm hcs0 (s_next (d := D + 1) hA0 hF t o) ?_
  rintro _ g ⟨rfl, o⟩
  have hs := sgn_le (a := pb T ln a) t.2.2.1
  refine c_X7_unit_96 RO_rm hcs0 (s_comparing (d := D + 2) hs) ?_
  rintro _ g ⟨rfl, rfl⟩
  unfold cmpF at hQ
  cases q : cmpS (sgn T ln (pb T ln a)) with
  | none =>
    rw [q] at hQ
    exact c_X7_unit_99 (d := D + 2) (P127 := fun _ => False) hA0 RO_rm hcs0 (fun z => absurd rfl z) (fun z => absurd rfl z) (fun _ => hQ _ (RcP.bad rfl (o.wr (by omega)).dm))
  | some w =>
    rw [q] at hQ
    obtain ⟨w1, w2⟩ := cmp_ok q
    have l := sgn_pos w2
    have w16 : w < 16 := by
      have := w1.1
      have h20 := w1.2
      unfold cmpS at q
      split at q
      · cases q; decide
      · split at q
        · cases q; decide
        · split at q
          · cases q; decide
          · cases q
    have nm : ¬ ovI (some w) = -1 := nI_m1 (by omega)
    refine c_X7_unit_99 hA0 RO_rm hcs0 (fun _ => by rw [o.2.2.1, nI_1]; exact hS _ (pb T ln a + 1) c (o.at (by omega)) (by omega)) ?_ (fun z => absurd z nm)
    intro _ g r
    have gd := sumN_gd (T := T) (ln := ln) (k := k) (a := pb T ln a + 1) (by omega)
    have hQ : ∀ g, RcP h0 T ln c (bnd (sumN T ln k (pb T ln a + 1)) fun c' b' => (some (c' ++ [w]), b')) g → VM X m_X7_unit (D + 3) nx sz Q 137 [some (.ref 27), some (.int x1), none, some (.int (nI (6 - k))), none] [] g := hQ
    cases e : (sumN T ln k (pb T ln a + 1)).1 with
    | none =>
      rw [bnd_none e] at hQ
      refine c_X7_unit_130 hA0 RO_rm hcs0 (s_write_dm (d := D + 2) hA0 hF (r.of_none e)) ?_
      intro g dm
      exact hQ g (RcP.bad rfl dm)
    | some c' =>
      rw [bnd_some e] at hQ
      obtain ⟨g1, g2, g3⟩ := gd.2 c' e
      refine c_X7_unit_130 hA0 RO_rm hcs0 (s_write (d := D + 2) (s := w) (v := 0) hA0 hF (r.of_some e) (by rw [List.length_append]; have := gd.1; omega) (by decide) w16) ?_
      intro g o
      refine hQ g (RcP.ok rfl ?_)
      rw [show 16 * 0 + w = w by omega, List.append_assoc] at o
      exact o
theorem un_92d {x1 x3 : Int32} {Q : Option Value → AH → Prop} (hA0 : 91 ≤ nx) (hF : Fx h0) (t : Txt h0 T ln) (dm : Dm h0 h T ln p) (hQ : ∀ g, Dm h0 g T ln p → VM X m_X7_unit (D + 3) nx sz Q 137 [some (.ref 27), some (.int x1), none, some (.int x3), none] [] g) : VM X m_X7_unit (D + 3) nx sz Q 92 [some (.ref 27), some (.int x1), none, some (.int x3), none] [] h := by
  refine c_X7_unit_92 hA0 RO_rm hcs0 (s_next_dm (d := D + 1) hA0 hF t dm) ?_
  rintro _ g ⟨⟨s, s1, rfl, s2⟩, rfl⟩
  obtain ⟨-, -, m3, -⟩ := mul_dm s2
  refine c_X7_unit_96 RO_rm hcs0 (s_comparing (d := D + 2) s1) ?_
  rintro _ g ⟨rfl, rfl⟩
  rw [m3]
  exact c_X7_unit_99 (d := D + 2) (P127 := fun _ => False) hA0 RO_rm hcs0 (fun z => absurd rfl z) (fun z => absurd rfl z) (fun _ => hQ _ dm.wr.dm)
theorem un_92s {k b : Nat} {x1 : Int32} {g : AH} {Q : Option Value → AH → Prop} (hA0 : 91 ≤ nx) (hF : Fx h0) (t : Txt h0 T ln) (hk : k ≤ 6) (hS : SumK X (D + 2) nx sz h0 T ln k) (hb : b ≤ ln) (hc : c.length ≤ b) (r : RcP h0 T ln c (sumN T ln k b) g) (hQ : ∀ g, RcP h0 T ln c (bnd (sumN T ln k b) fun c b => bnd (cmpF T ln k b) fun c' b' => (some (c ++ c'), b')) g → VM X m_X7_unit (D + 3) nx sz Q 137 [some (.ref 27), some (.int x1), none, some (.int (nI (6 - k))), none] [] g) : VM X m_X7_unit (D + 3) nx sz Q 92 [some (.ref 27), some (.int x1), none, some (.int (nI (6 - k))), none] [] g := by
  have gd := sumN_gd (T := T) (ln := ln) (k := k) (a := b) hb
  cases e : (sumN T ln k b).1 with
  | none =>
    rw [bnd_none e] at hQ
    exact un_92d hA0 hF t (r.of_none e) (fun g dm => hQ g (RcP.bad rfl dm))
  | some c' =>
    rw [bnd_some e] at hQ
    obtain ⟨g1, g2, g3⟩ := gd.2 c' e
    exact un_92 hA0 hF t hk hS (r.of_some e) (by rw [List.length_append]; omega) (fun g r => hQ g r.pre)
def UniK (X : CX) (E nx sz : Nat) (h0 : AH) (T : Nat → Nat) (ln k : Nat) : Prop := ∀ (g : AH) (a : Nat) (c : List Nat), Oc h0 g ln a c → c.length ≤ a → Mk X E m_X7_unit [.ref 27, .int (nI (6 - k)), .int 0] g nx sz (RV fun g' => RcP h0 T ln c (uN T ln k a) g')
def ConK (X : CX) (E nx sz : Nat) (h0 : AH) (T : Nat → Nat) (ln k : Nat) : Prop := ∀ (g : AH) (a : Nat) (c : List Nat), Oc h0 g ln a c → c.length ≤ a → Mk X E m_X7_condition [.ref 27, .int (nI (6 - k)), .int 0] g nx sz (RV fun g' => RcP h0 T ln c (cdN T ln k (uN T ln k a)) g')
theorem s_unit1 {k : Nat} (hA0 : 91 ≤ nx) (hF : Fx h0) (t : Txt h0 T ln) (hk : k ≤ 6) (hS : SumK X (D + 2) nx sz h0 T ln k) (o : Oc h0 h ln a c) (hc : c.length ≤ a) : Mk X (D + 3) m_X7_unit [.ref 27, .int (nI (6 - k)), .int 1] h nx sz (RV fun g => RcP h0 T ln c (cmpF T ln k a) g) := by
  have n1 : ¬ (1 : Int32) = 0 := by decide
  refine e_X7_unit (c_X7_unit_0 (c_X7_unit_2 (d := D + 2) (P89 := fun _ => False) (P89_1 := fun _ => False) (P89_2 := fun _ => False) (P89_3 := fun _ => False) (P48 := fun _ _ => False) (P48_1 := fun _ _ => False) (P13 := fun _ _ => False) hA0 RO_rm hcs0
    (fun _ _ _ => un_92 hA0 hF t hk hS o hc (fun g r => ?_)) (fun _ _ z => absurd z n1) (fun _ _ z => absurd z n1) (fun _ z => absurd z n1) (fun _ z => absurd z n1) (fun _ z => absurd z n1) (fun _ z => absurd z n1) (fun _ z => absurd z n1)
    (fun z => absurd z n1) (fun z => absurd z n1) (fun z => absurd z n1) (fun z => absurd z n1) (fun z => absurd z n1) (fun z => absurd z n1) (fun z => absurd z n1) (fun z => absurd z n1) (fun z => absurd z n1) (fun z => absurd z n1)))
  have yes : nI (6 - k) ≤ nI (6 - k) := Int32.le_refl _
  exact c_X7_unit_137 (c_X7_unit_140 (d := D + 2) (P150 := fun _ => False) hA0 RO_rm hcs0 (fun _ => ⟨rfl, r⟩) (fun z => absurd yes z) (fun z => absurd yes z))
theorem s_unitL {Q : Option Value → AH → Prop} (hA0 : 91 ≤ nx) (hF : Fx h0) (t : Txt h0 T ln) : ∀ (k j b : Nat) (g : AH), k + j ≤ 6 → (∀ k', k' ≤ k → SumK X (D + 2) nx sz h0 T ln k') → (∀ k', k' < k → ConK X (D + 2) nx sz h0 T ln k') → Oc h0 g ln b c → c.length + j ≤ b → (∀ g', RcP h0 T ln c (nots j (uN T ln k b)) g' → Q none g') → VM X m_X7_unit (D + 3) nx sz Q 2 [some (.ref 27), some (.int (nI (6 - (k + j)))), some (.int 0), some (.int (nI (6 - k))), none] [] g := by
  have t1 := t.1
  intro k
  induction k with
  | zero =>
    intro j b g hkj hS hC o hc fin
    have hb := o.2.1
    have yes : nI 6 ≤ nI (6 - 0) := Int32.le_refl _
    have gd := uN_gd (T := T) (ln := ln) 0 b hb
    rw [uN_0 hb] at fin gd
    refine un_2 (d := D + 2) (P13 := fun _ _ => False) hA0 (fun z => absurd yes z) (fun z => absurd yes z) (fun _ => hS 0 (Nat.le_refl _) g b c o (by omega)) ?_
    intro _ g r
    exact un_92s hA0 hF t (by decide) (hS 0 (Nat.le_refl _)) hb (by omega) r (fun g r => un_137 hA0 hF t1 hkj gd hc r fin)
  | succ k ih =>
    intro j b g hkj hS hC o hc fin
    have hb := o.2.1
    obtain ⟨p1, p2, p3⟩ := pb_le (T := T) (ln := ln) (a := b) hb
    have gd := uN_gd (T := T) (ln := ln) (k + 1) b hb
    have lt : ¬ (6 : Int32) ≤ nI (6 - (k + 1)) := fun z => by
      have z : nI 6 ≤ nI (6 - (k + 1)) := z
      rw [le_nI (by decide) (by omega)] at z
      omega
    have ek : nI (6 - (k + 1)) + 1 = nI (6 - k) := by
      rw [nI_1]
      congr 1
      omega
    refine un_2 (d := D + 2) (P89 := fun _ => False) hA0 (fun _ => s_next (d := D + 1) hA0 hF t o) ?_ (fun z => absurd z lt) (fun z => absurd z lt)
    rintro _ _ g ⟨rfl, o⟩
    have hs := sgn_le (a := pb T ln b) t.2.2.1
    have e33 : nI (sgn T ln (pb T ln b)) = 33 ↔ sgn T ln (pb T ln b) = 33 := nI_eq (b := 33) (by omega) (by decide)
    have e40 : nI (sgn T ln (pb T ln b)) = 40 ↔ sgn T ln (pb T ln b) = 40 := nI_eq (b := 40) (by omega) (by decide)
    by_cases q33 : sgn T ln (pb T ln b) = 33
    · have l := sgn_pos (T := T) (ln := ln) (a := pb T ln b) (by omega)
      rw [uN_33 q33, nots_S] at fin
      refine un_16 (d := D + 2) (P48 := fun _ _ => False) hA0 lt (fun z => absurd (e33.mpr q33) z) (fun z => absurd (e33.mpr q33) z) (fun _ => ?_)
      rw [ek, o.2.2.1, nI_1, show k + 1 + j = k + (j + 1) by omega]
      exact ih (j + 1) (pb T ln b + 1) _ (by omega) (fun k' hk' => hS k' (by omega)) (fun k' hk' => hC k' (by omega)) (o.at (by omega)) (by omega) fin
    · refine un_16 (d := D + 2) hA0 lt (fun _ => s_next (d := D + 1) hA0 hF t o) ?_ (fun z => absurd (e33.mp z) q33)
      rintro _ _ g ⟨rfl, o⟩
      rw [pb_pb hb] at o ⊢
      by_cases q40 : sgn T ln (pb T ln b) = 40
      · have l := sgn_pos (T := T) (ln := ln) (a := pb T ln b) (by omega)
        rw [uN_40 q40] at fin gd
        refine c_X7_unit_51 (d := D + 2) (P89 := fun _ => False) hA0 RO_rm hcs0 (fun z => absurd (e40.mpr q40) z) (fun z => absurd (e40.mpr q40) z) (fun z => absurd (e40.mpr q40) z) (fun _ => by rw [ek, o.2.2.1, nI_1]; exact hC k (by omega) _ (pb T ln b + 1) c (o.at (by omega)) (by omega)) ?_
        intro _ g r
        have gd2 : Gd pS ln (pb T ln b + 1) 0 (cdN T ln k (uN T ln k (pb T ln b + 1))) := cond_gd (uN_gd k) (uN_gd k (pb T ln b + 1) (by omega))
        cases e : (cdN T ln k (uN T ln k (pb T ln b + 1))).1 with
        | none =>
          refine c_X7_unit_74 hA0 RO_rm hcs0 (s_expect_dm (s := 41) (d := D) hA0 hF t (r.of_none e) (by decide) (by decide) rfl) ?_
          intro g w
          refine c_X7_unit_80 (un_137 hA0 hF t1 hkj gd hc ?_ fin)
          unfold clsF
          rw [bnd_none e]
          exact RcP.bad rfl w.dm
        | some c' =>
          obtain ⟨g1, g2, g3⟩ := gd2.2 c' e
          have lc : (c ++ c').length ≤ 200 := by
            rw [List.length_append]
            have := gd2.1
            omega
          refine c_X7_unit_74 hA0 RO_rm hcs0 (s_expect (s := 41) (d := D) hA0 hF t (r.of_some e) lc (by decide) (by decide)) ?_
          intro g w
          refine c_X7_unit_80 (un_137 hA0 hF t1 hkj gd hc ?_ fin)
          unfold clsF
          rw [bnd_some e]
          by_cases qc : sgn T ln (pb T ln (cdN T ln k (uN T ln k (pb T ln b + 1))).2) = 41
          · rw [if_pos qc] at w ⊢
            exact RcP.ok rfl w
          · rw [if_neg qc] at w ⊢
            exact RcP.bad rfl w.dm
      · rw [uN_el q33 q40] at fin gd
        refine c_X7_unit_51 (d := D + 2) (P71 := fun _ => False) hA0 RO_rm hcs0 (fun _ z => absurd rfl z) (fun _ _ => hS (k + 1) (Nat.le_refl _) _ (pb T ln b) c o (by omega)) ?_ (fun z => absurd (e40.mp z) q40) (fun z => absurd (e40.mp z) q40)
        intro _ _ g r
        exact un_92s hA0 hF t (by omega) (hS (k + 1) (Nat.le_refl _)) p2 (by omega) r (fun g r => un_137 hA0 hF t1 hkj gd hc r fin)
theorem s_unit {k : Nat} (hA0 : 91 ≤ nx) (hF : Fx h0) (t : Txt h0 T ln) (hk : k ≤ 6) (hS : ∀ k', k' ≤ k → SumK X (D + 2) nx sz h0 T ln k') (hC : ∀ k', k' < k → ConK X (D + 2) nx sz h0 T ln k') : UniK X (D + 3) nx sz h0 T ln k := fun g a c o hc =>
  e_X7_unit (c_X7_unit_0 (s_unitL (D := D) hA0 hF t k 0 a g hk hS hC o hc (fun g' r => ⟨rfl, by rw [nots_0] at r; exact r⟩)))
end OPS

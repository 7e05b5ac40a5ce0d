/-! text: the other side -/
section OPS
variable {X : CX} {d D nx sz : Nat} {h h0 : AH} {T : Nat → Nat} {p : Nat → Int32} {rt b0 ln a k q n : Nat} {c : List Nat}
theorem ntF_le {L : Nat → Int32} : ∀ (f a : Nat) (R : Nat → Int32) (x : Nat), a ≤ ln → (ntF T ln n L f a R).1 = some x → x ≤ ln
  | 0, a, R, x, ha, e => by
    cases e
    exact ha
  | f + 1, a, R, x, ha, e => by
    unfold ntF at e
    cases e1 : ltN n (sgn T ln a) with
    | none =>
      rw [e1] at e
      cases e
      exact ha
    | some y =>
      rw [e1] at e
      have l1 := ltN_pos e1
      obtain ⟨b1, b2, b3⟩ := pb_le (T := T) (ln := ln) (a := a + 1) (by omega)
      cases e2 : ltN n (sgn T ln (pb T ln (a + 1))) with
      | none =>
        rw [e2] at e
        cases e
        exact b2
      | some z =>
        rw [e2] at e
        have l2 := ltN_pos e2
        obtain ⟨c1, c2, c3⟩ := pb_le (T := T) (ln := ln) (a := pb T ln (a + 1) + 1) (by omega)
        have e : (if cbB R L y none z none = true then
          (if pb T ln (pb T ln (a + 1) + 1) = ln then (none, joinK R y z) else
            if sgn T ln (pb T ln (pb T ln (a + 1) + 1)) = 44 then ntF T ln n L f (pb T ln (pb T ln (pb T ln (a + 1) + 1) + 1)) (joinK R y z)
            else (some (pb T ln (pb T ln (a + 1) + 1)), joinK R y z))
          else (some (pb T ln (a + 1)), R)).1 = some x := e
        split at e
        · split at e
          · cases e
          · split at e
            · rename_i q
              have l3 := sgn_pos (T := T) (ln := ln) (a := pb T ln (pb T ln (a + 1) + 1)) (by omega)
              exact ntF_le f _ _ x (pb_le (by omega)).2.1 e
            · cases e
              exact c2
        · cases e
          exact b2
theorem ntV_le' {L : Nat → Int32} {x : Nat} (e : (ntV T ln n L).1 = some x) : x ≤ ln := by
  unfold ntV at e
  split at e
  · cases e
  · exact ntF_le 200 _ _ x (pb_le (Nat.zero_le _)).2.1 e
theorem t_text_bad {x : Int32} (hA0 : 91 ≤ nx) (z0 : x < 0 ∨ 1 < x) : Mk X (d + 1) m_X12_text [.ref 68, .int x] h nx sz (RE (-1) (setI h 68 0 0)) := by
  refine Mk.re fun Q hq => e_X12_text (c_X12_text_0 hA0 RO_rm hcs0 (t_isIn (d := d)) ?_)
  rintro _ g ⟨rfl, rfl⟩
  have e : (if ¬ x < 0 ∧ ¬ 1 < x then (1 : Int32) else 0) = 0 := if_neg (fun z => z0.elim z.1 z.2)
  rw [e]
  exact c_X12_text_11 (d := d) (P30 := fun _ _ => False) (P30_1 := fun _ _ => False) hA0 RO_rm hcs0 (fun _ => hq) (fun z => absurd rfl z) (fun z => absurd rfl z) (fun z => absurd rfl z) (fun z => absurd rfl z) (fun z => absurd rfl z)
theorem t_text_full (hA0 : 91 ≤ nx) (e : h.1 68 8 = 6) : Mk X (d + 1) m_X12_text [.ref 68, .int 1] h nx sz (RE (-1) (setI h 68 0 0)) := by
  refine Mk.re fun Q hq => e_X12_text (c_X12_text_0 hA0 RO_rm hcs0 (t_isIn (d := d)) ?_)
  rintro _ g ⟨rfl, rfl⟩
  have e1 : (if ¬ (1 : Int32) < 0 ∧ ¬ (1 : Int32) < 1 then (1 : Int32) else 0) = 1 := by decide
  rw [e1]
  have e8 : (setI h 68 0 0).1 68 8 = 6 := e
  exact c_X12_text_11 (d := d) (P30 := fun _ _ => False) (P30_1 := fun _ _ => False) hA0 RO_rm hcs0 (fun z => by cases z) (fun _ z => absurd rfl z) (fun _ z => absurd rfl z) (fun _ _ _ => hq) (fun _ _ z => absurd e8 z) (fun _ _ z => absurd e8 z)
def T0P (h : AH) (T : Nat → Nat) (ln n : Nat) (y : Int32) (g' : AH) : Prop := ∃ g, Sc h g ∧ (∀ i, i < n → g.1 74 i = (ntV T ln n (h.1 75)).2 i) ∧ if (ntV T ln n (h.1 75)).1 = none then y = smI (fun i => bc (upto n (g.1 74) (g.1 73) i)) n / 2 ∧ g' = setI (setA g 73 (upto n (g.1 74) (g.1 73))) 68 7 0 else y = -1 ∧ g' = g
theorem t_text0 (hA0 : 91 ≤ nx) (hF : Fx h) (hp : MP h n) (hL : ∀ i, i < n → ∃ l, l ≤ 9 ∧ h.1 75 i = nI l) (t : MxH h (ln, T)) : Mk X (d + 4) m_X12_text [.ref 68, .int 0] h nx sz (RI (T0P h T ln n)) := by
  have t1 : ln ≤ 200 := t.1
  obtain ⟨h0, h2, h20⟩ := id hp
  refine e_X12_text (c_X12_text_0 hA0 RO_rm hcs0 (t_isIn (d := d + 3)) ?_)
  rintro _ g ⟨rfl, rfl⟩
  have e1 : (if ¬ (0 : Int32) < 0 ∧ ¬ (1 : Int32) < 0 then (1 : Int32) else 0) = 1 := by decide
  rw [e1]
  refine c_X12_text_11 (P30_1 := fun _ _ => False) hA0 RO_rm hcs0 (fun z => by cases z) (fun _ _ => t_fault0 (d := d) (h := setI h 68 0 0) hA0 (hF.of rfl) hp hL t) ?_ (fun _ z => by cases z) (fun _ z => by cases z) (fun _ z => by cases z)
  rintro _ _ _ g ⟨rfl, s, r⟩
  have s : Sc h g := (Sc.rfl.setI rfl).trans s
  have r : ∀ i, i < n → g.1 74 i = (ntV T ln n (h.1 75)).2 i := r
  have hFg := hF.sc s
  have g1 : g.1 68 1 = nI n := (s.1 68 1 rfl).trans h0
  obtain ⟨Q, hQ⟩ : ∃ Q, Q = (RI (T0P h T ln n)) := ⟨_, rfl⟩
  rw [← hQ]
  have fin : ∀ y g', T0P h T ln n y g' → Q (some (.int y)) g' := fun y g' z => by rw [hQ]; exact ⟨_, rfl, z⟩
  show VM X m_X12_text (d + 4) nx sz Q 33 [some (.ref 68), some (.int 0), none] [.int (ovI (ntV T ln n (h.1 75)).1)] g
  cases e : (ntV T ln n (h.1 75)).1 with
  | some x =>
    have nm : ¬ ovI (some x) = -1 := nI_m1 (by have := ntV_le' e; omega)
    refine c_X12_text_33 (fun z => absurd z nm) (fun z => absurd z nm) (fun _ => fin _ _ ⟨g, s, r, ?_⟩)
    rw [if_neg (fun z => by rw [e] at z; cases z)]
    exact ⟨rfl, rfl⟩
  | none =>
    refine c_X12_text_33 (fun _ z => absurd rfl z) (fun _ _ => ?_) (fun z => absurd rfl z)
    have e0 : setA g 73 (upto 0 (g.1 74) (g.1 73)) = g := by
      have : upto 0 (g.1 74) (g.1 73) = g.1 73 := funext fun k => if_neg (by omega)
      rw [this, setA_id]
    have go := down_ind (N := n) (P := fun i => VM X m_X12_text (d + 4) nx sz Q 45 [some (.ref 68), none, some (.int (nI i))] [] (setA g 73 (upto i (g.1 74) (g.1 73)))) ?_ (fun i hi q => ?_)
    · have go : VM X m_X12_text (d + 4) nx sz Q 45 [some (.ref 68), none, some (.int (nI 0))] [] (setA g 73 (upto 0 (g.1 74) (g.1 73))) := go
      rw [e0] at go
      exact go
    · have ex : (setA g 73 (upto n (g.1 74) (g.1 73))).1 68 1 ≤ nI n := by
        show g.1 68 1 ≤ nI n
        rw [g1]
        exact Int32.le_refl _
      have np : MP (setI (setA g 73 (upto n (g.1 74) (g.1 73))) 68 7 0) n := ⟨g1, h2, h20⟩
      refine c_X12_text_45 hA0 (hFg.of rfl) RO_rm hcs0 (fun _ => t_ties (d := d + 2) hA0 (hFg.of rfl) np) ?_ (fun z => absurd ex z) (fun z => absurd ex z) (fun z => absurd ex z)
      rintro _ _ g' ⟨rfl, rfl⟩
      refine c_X12_text_80 (fin _ _ ⟨g, s, r, ?_⟩)
      rw [if_pos e]
      exact ⟨rfl, rfl⟩
    · have no : ¬ (setA g 73 (upto i (g.1 74) (g.1 73))).1 68 1 ≤ nI i := fun z => by
        have z : g.1 68 1 ≤ nI i := z
        rw [g1, le_nI (by omega) (by omega)] at z
        omega
      refine c_X12_text_45 (d := d + 3) (P77 := fun _ _ => False) hA0 (hFg.of rfl) RO_rm hcs0 (fun z => absurd z no) (fun z => absurd z no) (fun _ => vin (by omega) (by decide)) (fun _ => vin (by omega) (by decide)) (fun _ => ?_)
      rw [tN (by omega), nI_1]
      have e7 : (setA g 73 (upto i (g.1 74) (g.1 73))).1 74 i = g.1 74 i := congrFun (setA_get_ne (by decide)) i
      rw [e7, setI_upto]
      exact q
/-- a text laid away, as far as m -/
def lay (r m : Nat) (f g : Nat → Int32) : Nat → Int32 := fun k => if 200 * r ≤ k ∧ k < 200 * r + m then f (k - 200 * r) else g k
theorem byt_nar : ∀ b, b < 256 → narrow .byte (.int (byt b)) = .int (byt b) := by decide +kernel
def T1P (h : AH) (T : Nat → Nat) (ln r : Nat) (y : Int32) (g' : AH) : Prop := ∃ g, Sc h g ∧ match (ruF T ln).1 with
  | none => y = -1 ∧ g' = g
  | some _ => y = nI r ∧ g' = setI (setI (setI (setA g 70 (lay r ln (g.1 69) (g.1 70))) 71 r (nI ln)) 68 7 0) 68 8 (nI (r + 1))
theorem t_text1 {r : Nat} (hA0 : 91 ≤ nx) (hF : Fx h) (L : Let h p) (t : MxH h (ln, T)) (e : h.1 68 8 = nI r) (hr : r < 6) : Mk X (D + 33) m_X12_text [.ref 68, .int 1] h nx sz (RI (T1P h T ln r)) := by
  have t1 : ln ≤ 200 := t.1
  have t2 : h.1 68 7 = nI ln := t.2.1
  have t3 : Byt T ln := t.2.2.1
  have t4 : ∀ i, i < ln → h.1 69 i = byt (T i) := t.2.2.2
  refine e_X12_text (c_X12_text_0 hA0 RO_rm hcs0 (t_isIn (d := D + 32)) ?_)
  rintro _ g ⟨rfl, rfl⟩
  have e1 : (if ¬ (1 : Int32) < 0 ∧ ¬ (1 : Int32) < 1 then (1 : Int32) else 0) = 1 := by decide
  rw [e1]
  have n6 : ¬ (setI h 68 0 0).1 68 8 = 6 := fun z => by
    have z : h.1 68 8 = 6 := z
    rw [e] at z
    have := nI_inj (b := 6) (by omega) (by decide) z
    omega
  refine c_X12_text_11 (P30 := fun _ _ => False) hA0 RO_rm hcs0 (fun z => by cases z) (fun _ z => absurd rfl z) (fun _ z => absurd rfl z) (fun _ _ z => absurd z n6) (fun _ _ _ => t_fault1 (D := D) (h := setI h 68 0 0) hA0 (hF.of rfl) L t) ?_
  rintro _ _ _ _ g ⟨rfl, s⟩
  have s : Sc h g := (Sc.rfl.setI rfl).trans s
  have hFg := hF.sc s
  obtain ⟨Q, hQ⟩ : ∃ Q, Q = (RI (T1P h T ln r)) := ⟨_, rfl⟩
  rw [← hQ]
  have fin : ∀ y g', T1P h T ln r y g' → Q (some (.int y)) g' := fun y g' z => by rw [hQ]; exact ⟨_, rfl, z⟩
  unfold fltV
  cases ec : (ruF T ln).1 with
  | none =>
    have nm : ¬ nI (ruF T ln).2 = -1 := nI_m1 (by have := (ruF_gd (T := T) (ln := ln)).1; omega)
    refine c_X12_text_33 (fun z => absurd z nm) (fun z => absurd z nm) (fun _ => fin _ _ ⟨g, s, ?_⟩)
    rw [ec]
    exact ⟨rfl, rfl⟩
  | some c =>
    refine c_X12_text_33 (fun _ _ => ?_) (fun _ z => by cases z) (fun z => absurd rfl z)
    have g7 : g.1 68 7 = nI ln := (s.1 68 7 rfl).trans t2
    have g8 : g.1 68 8 = nI r := (s.1 68 8 rfl).trans e
    have g69 : ∀ i, i < ln → g.1 69 i = byt (T i) := fun i hi => (s.1 69 i rfl).trans (t4 i hi)
    have e2 : (200 : Int32) * nI r = nI (200 * r) := by rw [show (200 : Int32) = nI 200 from rfl, pk_mul]
    have key : ∀ (k i : Nat), i + k = ln → VM X m_X12_text (D + 33) nx sz Q 83 [some (.ref 68), none, some (.int (nI i))] [] (setA g 70 (lay r i (g.1 69) (g.1 70))) := by
      intro k
      induction k with
      | zero =>
        intro i hi
        have hi : i = ln := by omega
        subst hi
        have yes : (setA g 70 (lay r i (g.1 69) (g.1 70))).1 68 7 ≤ nI i := by
          show g.1 68 7 ≤ nI i
          rw [g7]
          exact Int32.le_refl _
        have s8 : (setA g 70 (lay r i (g.1 69) (g.1 70))).1 68 8 = nI r := g8
        have s7 : (setA g 70 (lay r i (g.1 69) (g.1 70))).1 68 7 = nI i := g7
        refine c_X12_text_83 hA0 (hFg.of rfl) (fun _ => by rw [s8]; exact vin hr (by decide)) (fun _ => ?_) (fun z => absurd yes z) (fun z => absurd yes z) (fun z => absurd yes z) (fun z => absurd yes z)
        rw [s8, s7, tN (by omega), nI_1, nI_sub1 (by omega)]
        refine fin _ _ ⟨g, s, ?_⟩
        rw [ec]
        exact ⟨rfl, rfl⟩
      | succ k ih =>
        intro i hi
        have no : ¬ (setA g 70 (lay r i (g.1 69) (g.1 70))).1 68 7 ≤ nI i := fun z => by
          have z : g.1 68 7 ≤ nI i := z
          rw [g7, le_nI (by omega) (by omega)] at z
          omega
        have s8 : (setA g 70 (lay r i (g.1 69) (g.1 70))).1 68 8 = nI r := g8
        have s69 : (setA g 70 (lay r i (g.1 69) (g.1 70))).1 69 i = byt (T i) := g69 i (by omega)
        have ti : (nI i).toNatClampNeg = i := tN (by omega)
        refine c_X12_text_83 hA0 (hFg.of rfl) (fun z => absurd z no) (fun z => absurd z no) (fun _ => vin (by omega) (by decide)) (fun _ => by rw [s8, e2, nI_add]; exact vin (by omega) (by decide)) (fun _ => by rw [ti, s69]; exact byt_nar _ (by have := t3 i (by omega); omega)) (fun _ => ?_)
        rw [s8, e2, nI_add, tN (by omega), ti, nI_1]
        have es : setI (setA g 70 (lay r i (g.1 69) (g.1 70))) 70 (200 * r + i) ((setA g 70 (lay r i (g.1 69) (g.1 70))).1 69 i) = setA g 70 (lay r (i + 1) (g.1 69) (g.1 70)) := by
          rw [setI_A, setA_A]
          congr 1
          funext j
          show (if j = 200 * r + i then g.1 69 i else (setA g 70 (lay r i (g.1 69) (g.1 70))).1 70 j) = lay r (i + 1) (g.1 69) (g.1 70) j
          rw [setA_self]
          unfold lay
          by_cases q : j = 200 * r + i
          · rw [if_pos q, if_pos (by omega), show j - 200 * r = i by omega]
          · rw [if_neg q]
            by_cases q2 : 200 * r ≤ j ∧ j < 200 * r + i
            · rw [if_pos q2, if_pos (by omega)]
            · rw [if_neg q2, if_neg (by omega)]
        rw [es]
        exact ih (i + 1) (by omega)
    have k0 := key ln 0 (by omega)
    have e0 : setA g 70 (lay r 0 (g.1 69) (g.1 70)) = g := by
      have : lay r 0 (g.1 69) (g.1 70) = g.1 70 := funext fun k => if_neg (by omega)
      rw [this, setA_id]
    rw [e0] at k0
    exact k0
end OPS

/-! rule text: the other side's terms and sums -/
section OPS
variable {X : CX} {D nx sz : Nat} {h h0 : AH} {T : Nat → Nat} {p : Nat → Int32} {rt b0 ln a k q : Nat} {c : List Nat}
theorem l64_0 {v : Int32} : v.toInt64 = 0 ↔ v = 0 := ⟨fun z => by
  have := congrArg Int64.toInt32 z
  rw [Int32.toInt32_toInt64] at this
  exact this, fun z => by rw [z]; rfl⟩
theorem mul_two {s x : Nat} (h : mulS s = some x) : (s = 42 ∧ x = 4) ∨ (s = 47 ∧ x = 5) := by
  unfold mulS at h
  split at h
  · cases h; exact Or.inl ⟨by assumption, rfl⟩
  · split at h
    · cases h; exact Or.inr ⟨by assumption, rfl⟩
    · cases h
theorem add_two {s x : Nat} (h : addS s = some x) : (s = 43 ∧ x = 2) ∨ (s = 45 ∧ x = 3) := by
  unfold addS at h
  split at h
  · cases h; exact Or.inl ⟨by assumption, rfl⟩
  · split at h
    · cases h; exact Or.inr ⟨by assumption, rfl⟩
    · cases h
theorem mul_none {s : Nat} (h : mulS s = none) : s ≠ 42 ∧ s ≠ 47 := by
  unfold mulS at h
  split at h
  · cases h
  · split at h
    · cases h
    · exact ⟨by assumption, by assumption⟩
theorem add_none {s : Nat} (h : addS s = none) : s ≠ 43 ∧ s ≠ 45 := by
  unfold addS at h
  split at h
  · cases h
  · split at h
    · cases h
    · exact ⟨by assumption, by assumption⟩
theorem w_term {Q : Option Value → AH → Prop} {V v : Int32} {x2 : Nat} (q : VM X m_X12_term (D + 2) nx sz Q 90 [some (.ref 68), none, none, none, none] [.int (opV (5 - x2) V v)] h) (hx : x2 < 2) : VM X m_X12_term (D + 2) nx sz Q 60 [some (.ref 68), some (.int V), some (.int (nI x2)), none, none] [.int v] h := by
  have z0 : lg_cmp v.toInt64 0 = 0 ↔ v = 0 := lg_0.trans l64_0
  by_cases e : x2 = 0
  · subst e
    by_cases ev : v = 0
    · refine c_X12_term_60 (P87 := fun _ _ => False) (P87_2 := fun _ _ => False) RO_rm hcs0 (fun _ z => absurd (z0.mpr ev) z) (fun _ z => absurd (z0.mpr ev) z) (fun _ z => absurd (z0.mpr ev) z) (fun _ _ => t_within (d := D)) ?_ (fun z => absurd rfl z) (fun z => absurd rfl z)
      rintro _ _ _ g ⟨rfl, rfl⟩
      have : opV (5 - 0) V v = bdL 0 := by
        unfold opV
        rw [if_neg (by decide), if_neg (by decide), if_neg (by decide), if_pos (by decide), if_pos ev]
        rfl
      rw [this] at q
      exact q
    · refine c_X12_term_60 (P87_1 := fun _ _ => False) (P87_2 := fun _ _ => False) RO_rm hcs0 (fun _ _ y => ev (l64_0.mp y)) (fun _ _ => t_within (d := D)) ?_ (fun _ z => absurd (z0.mp z) ev) (fun _ z => absurd (z0.mp z) ev) (fun z => absurd rfl z) (fun z => absurd rfl z)
      rintro _ _ _ g ⟨rfl, rfl⟩
      have : opV (5 - 0) V v = bdL (V.toInt64 / v.toInt64) := by
        unfold opV
        rw [if_neg (by decide), if_neg (by decide), if_neg (by decide), if_pos (by decide), if_neg ev]
      rw [this] at q
      exact q
  · have e : x2 = 1 := by omega
    subst e
    refine c_X12_term_60 (P87 := fun _ _ => False) (P87_1 := fun _ _ => False) RO_rm hcs0 (fun z => by cases z) (fun z => by cases z) (fun z => by cases z) (fun z => by cases z) (fun z => by cases z) (fun _ => t_within (d := D)) ?_
    rintro _ _ g ⟨rfl, rfl⟩
    exact q
theorem w_sum {Q : Option Value → AH → Prop} {V v : Int32} {x2 : Nat} (q : VM X m_X12_sum (D + 2) nx sz Q 80 [some (.ref 68), none, none, none, none] [.int (opV (3 - x2) V v)] h) (hx : x2 < 2) : VM X m_X12_sum (D + 2) nx sz Q 60 [some (.ref 68), some (.int V), some (.int (nI x2)), none, none] [.int v] h := by
  by_cases e : x2 = 0
  · subst e
    refine c_X12_sum_60 (P77_1 := fun _ _ => False) RO_rm hcs0 (fun _ => t_within (d := D)) ?_ (fun z => absurd rfl z) (fun z => absurd rfl z)
    rintro _ _ g ⟨rfl, rfl⟩
    exact q
  · have e : x2 = 1 := by omega
    subst e
    refine c_X12_sum_60 (P77 := fun _ _ => False) RO_rm hcs0 (fun z => by cases z) (fun z => by cases z) (fun _ => t_within (d := D)) ?_
    rintro _ _ g ⟨rfl, rfl⟩
    exact q
theorem pre_pre {w w' : List Nat} {r : Res} : pre w (pre w' r) = pre (w ++ w') r := by
  cases e : r.1 with
  | none =>
    obtain ⟨e1, e2⟩ := pre_none (w := w') e
    obtain ⟨e3, e4⟩ := pre_none (w := w) e1
    obtain ⟨e5, e6⟩ := pre_none (w := w ++ w') e
    exact Prod.ext (e3.trans e5.symm) (e4.trans (e2.trans e6.symm))
  | some c =>
    rw [pre_some e, pre_some e, pre_some (c := w' ++ c) rfl, List.append_assoc]
theorem pre_nil {r : Res} : pre [] r = r := by
  cases e : r.1 with
  | none =>
    obtain ⟨e1, e2⟩ := pre_none (w := []) e
    exact Prod.ext (e1.trans e.symm) e2
  | some c =>
    rw [pre_some e]
    exact Prod.ext e.symm rfl
theorem t_term (hA0 : 91 ≤ nx) (hF : Fx h0) (M : Mtx h0 rt b0 T ln) (hk : k ≤ 6) (hE : ∀ g a, Om h0 g ln a k → Mk X (D + 1) m_X12_atom [.ref 68] g nx sz (RI (MPr h0 p ln (2 * k + 1) k (atomF T ln (innN T ln k) a)))) (o : Om h0 h ln a k) : Mk X (D + 2) m_X12_term [.ref 68] h nx sz (RI (MPr h0 p ln (2 * k + 2) k (termF T ln (innN T ln k) a))) := by
  have t1 := M.2.2.2.1
  have hB := M.2.2.2.2.2.1
  have gde := fun a ha => atom_gd (T := T) (ln := ln) (inn := innN T ln k) (inn_gd k) (a := a) ha
  refine e_X12_term (c_X12_term_0 hA0 RO_rm hcs0 (hE h a o) ?_)
  intro v0 g0 r0
  refine c_X12_term_4 ?_
  obtain ⟨Q, hQ⟩ : ∃ Q, Q = (RI (MPr h0 p ln (2 * k + 2) k (termF T ln (innN T ln k) a))) := ⟨_, rfl⟩
  rw [← hQ]
  have fin : ∀ y g, MPr h0 p ln (2 * k + 2) k (termF T ln (innN T ln k) a) y g → Q (some (.int y)) g := fun y g r => by rw [hQ]; exact ⟨_, rfl, r⟩
  have bad : ∀ V g q, Fm h0 g ln q → Q (some (.int V)) g → VM X m_X12_term (D + 2) nx sz Q 5 [some (.ref 68), some (.int V), none, none, none] [] g := fun V g q f z => c_X12_term_5 (d := D + 1) (P14 := fun _ _ => False) hA0 RO_rm hcs0 (fun _ => z) (fun z => absurd z (f.ne t1)) (fun z => absurd z (f.ne t1))
  have key : ∀ (f : Nat) (W0 w : List Nat) (b : Nat) (pd : Option Nat) (V : Int32) (g : AH), Om h0 g ln b k → SP p (2 * k + 2) (W0 ++ (w ++ opl pd)) V → 200 ≤ b + f → (∀ y g, MPr h0 p ln (2 * k + 2) k (pre W0 (LPf T ln (atomF T ln (innN T ln k)) mulS (f + 1) (some w, b) pd)) y g → Q (some (.int y)) g) → VM X m_X12_term (D + 2) nx sz Q 5 [some (.ref 68), some (.int V), none, none, none] [] g := by
    intro f
    induction f with
    | zero =>
      intro W0 w b pd V g o sp hb fin
      obtain ⟨b1, b2, b3⟩ := pb_le (T := T) (ln := ln) (a := b) o.2.1
      have e0 : sgn T ln (pb T ln b) = 0 := if_neg (by have := o.2.1; omega)
      have q : mulS (sgn T ln (pb T ln b)) = none := by rw [e0]; rfl
      rw [LP_stop (r := (some w, b)) rfl q] at fin
      refine c_X12_term_5 hA0 RO_rm hcs0 (fun z => absurd o.2.2.2.1 z) (fun _ => t_lookO (d := D + 1) hA0 M o) ?_
      rintro _ _ g ⟨rfl, -, o⟩
      rw [e0]
      have n1 : ¬ lkI 0 = 42 := by decide
      have n2 : ¬ lkI 0 = 47 := by decide
      refine c_X12_term_17 (P32 := fun _ _ => False) hA0 RO_rm hcs0 (fun z => absurd z n1) (fun z => absurd z n1) (fun _ => t_lookO (d := D + 1) hA0 M o) ?_
      rintro _ _ g ⟨rfl, -, o⟩
      rw [pb_pb (by omega), e0]
      rw [pb_pb (by omega)] at o
      exact c_X12_term_26 (d := D + 1) (P32 := fun _ _ => False) hA0 RO_rm hcs0 (fun _ => fin _ _ (by rw [pre_some (c := w ++ opl pd) rfl]; exact MPr.ok rfl o sp)) (fun z => absurd z n2) (fun z => absurd z n2)
    | succ f ih =>
      intro W0 w b pd V g o sp hb fin
      have hbl := o.2.1
      obtain ⟨b1, b2, b3⟩ := pb_le (T := T) (ln := ln) (a := b) o.2.1
      have hs := sgn_le (a := pb T ln b) hB
      have e1 := lkI_eq (c := 42) hs (by decide) (by decide)
      have e2 := lkI_eq (c := 47) hs (by decide) (by decide)
      have epp : pb T ln (pb T ln b) = pb T ln b := pb_pb hbl
      refine c_X12_term_5 hA0 RO_rm hcs0 (fun z => absurd o.2.2.2.1 z) (fun _ => t_lookO (d := D + 1) hA0 M o) ?_
      rintro _ _ g ⟨rfl, -, o⟩
      cases q : mulS (sgn T ln (pb T ln b)) with
      | none =>
        obtain ⟨m1, m2⟩ := mul_none q
        rw [LP_stop (r := (some w, b)) rfl q] at fin
        refine c_X12_term_17 (P32 := fun _ _ => False) hA0 RO_rm hcs0 (fun z => absurd (e1.mp z) m1) (fun z => absurd (e1.mp z) m1) (fun _ => t_lookO (d := D + 1) hA0 M o) ?_
        rintro _ _ g ⟨rfl, -, o⟩
        rw [epp] at o ⊢
        exact c_X12_term_26 (d := D + 1) (P32 := fun _ _ => False) hA0 RO_rm hcs0 (fun _ => fin _ _ (by rw [pre_some (c := w ++ opl pd) rfl]; exact MPr.ok rfl o sp)) (fun z => absurd (e2.mp z) m2) (fun z => absurd (e2.mp z) m2)
      | some x =>
        have lq := sgn_pos (mul_ok q).2
        rw [LP_more (r := (some w, b)) rfl q] at fin
        have fin : ∀ y g, MPr h0 p ln (2 * k + 2) k (pre W0 (pre (w ++ opl pd) (LPf T ln (atomF T ln (innN T ln k)) mulS (f + 1) (atomF T ln (innN T ln k) (pb T ln b + 1)) (some x)))) y g → Q (some (.int y)) g := fin
        have ge := gde (pb T ln b + 1) (by omega)
        have two := mul_two q
        have p60 : ∀ x2, x2 < 2 → x = 5 - x2 → ∀ (v : Int32) (g : AH), MPr h0 p ln (2 * k + 1) k (atomF T ln (innN T ln k) (pb T ln b + 1)) v g → VM X m_X12_term (D + 2) nx sz Q 60 [some (.ref 68), some (.int V), some (.int (nI x2)), none, none] [.int v] g := fun x2 hx ex v g r => by
          refine w_term (D := D) (c_X12_term_90 ?_) hx
          rw [← ex]
          cases e : (atomF T ln (innN T ln k) (pb T ln b + 1)).1 with
          | none =>
            have l1 := LP_none (T := T) (ln := ln) (el := atomF T ln (innN T ln k)) (sg := mulS) (pd := some x) e (f + 1)
            have l2 := pre_none (w := w ++ opl pd) l1.1
            have l3 := pre_none (w := W0) l2.1
            have fm := r.of_none e
            exact bad _ _ _ fm (fin _ _ (MPr.bad l3.1 (by rw [l3.2, l2.2, l1.2]; exact fm)))
          | some w' =>
            obtain ⟨o, sp'⟩ := r.of_some e
            obtain ⟨g1, g2, -⟩ := ge.2 w' e
            have er : atomF T ln (innN T ln k) (pb T ln b + 1) = (some w', (atomF T ln (innN T ln k) (pb T ln b + 1)).2) := Prod.ext e rfl
            refine ih (W0 ++ (w ++ opl pd)) w' (atomF T ln (innN T ln k) (pb T ln b + 1)).2 (some x) _ g o (SP_op sp sp' (by omega) (by omega) (by omega)) (by omega) (fun y g r => fin y g ?_)
            rw [← er] at r
            have epq : pre W0 (pre (w ++ opl pd) (LPf T ln (atomF T ln (innN T ln k)) mulS (f + 1) (atomF T ln (innN T ln k) (pb T ln b + 1)) (some x))) = pre (W0 ++ (w ++ opl pd)) (LPf T ln (atomF T ln (innN T ln k)) mulS (f + 1) (atomF T ln (innN T ln k) (pb T ln b + 1)) (some x)) := pre_pre
            rw [epq]
            exact r
        rcases two with ⟨s1, x1⟩ | ⟨s1, x1⟩
        · have y1 := e1.mpr s1
          refine c_X12_term_17 (P23 := fun _ _ => False) hA0 RO_rm hcs0 (fun _ => t_lookO (d := D + 1) hA0 M o) ?_ (fun z => absurd y1 z) (fun z => absurd y1 z)
          rintro _ _ g ⟨rfl, -, o⟩
          rw [epp] at o ⊢
          refine c_X12_term_35 (P57 := fun _ _ => False) hA0 RO_rm hcs0 (fun z => absurd y1 z) (fun z => absurd y1 z) (fun _ => by rw [o.2.2.1, nI_1]; exact hE _ _ (o.at (by omega))) ?_
          intro _ v g r
          exact p60 1 (by decide) (by omega) v g r
        · have n1 : ¬ lkI (sgn T ln (pb T ln b)) = 42 := fun z => by have := e1.mp z; omega
          have y2 := e2.mpr s1
          refine c_X12_term_17 (P32 := fun _ _ => False) hA0 RO_rm hcs0 (fun z => absurd z n1) (fun z => absurd z n1) (fun _ => t_lookO (d := D + 1) hA0 M o) ?_
          rintro _ _ g ⟨rfl, -, o⟩
          rw [epp] at o ⊢
          refine c_X12_term_26 hA0 RO_rm hcs0 (fun z => absurd y2 z) (fun _ => t_lookO (d := D + 1) hA0 M o) ?_
          rintro _ _ g ⟨rfl, -, o⟩
          rw [epp] at o ⊢
          refine c_X12_term_35 (P57_1 := fun _ _ => False) hA0 RO_rm hcs0 (fun _ => by rw [o.2.2.1, nI_1]; exact hE _ _ (o.at (by omega))) ?_ (fun z => absurd z n1) (fun z => absurd z n1)
          intro _ v g r
          exact p60 0 (by decide) (by omega) v g r
  have ge := gde a o.2.1
  unfold termF at fin
  cases e : (atomF T ln (innN T ln k) a).1 with
  | none =>
    have l1 := LP_none (T := T) (ln := ln) (el := atomF T ln (innN T ln k)) (sg := mulS) (pd := none) e 200
    have fm := r0.of_none e
    exact bad _ _ _ fm (fin _ _ (MPr.bad l1.1 (by rw [l1.2]; exact fm)))
  | some w =>
    obtain ⟨o, sp⟩ := r0.of_some e
    obtain ⟨g1, g2, -⟩ := ge.2 w e
    have er : atomF T ln (innN T ln k) a = (some w, (atomF T ln (innN T ln k) a).2) := Prod.ext e rfl
    refine key 199 [] w _ none v0 g0 o ?_ (by omega) (fun y g r => fin y g ?_)
    · show SP p _ (w ++ []) v0
      rw [List.append_nil]
      exact sp.mono (by omega)
    · rw [← er] at r
      have : pre [] (LPf T ln (atomF T ln (innN T ln k)) mulS (199 + 1) (atomF T ln (innN T ln k) a) none) = LPf T ln (atomF T ln (innN T ln k)) mulS 200 (atomF T ln (innN T ln k) a) none := pre_nil
      rw [this] at r
      exact r
theorem t_sum (hA0 : 91 ≤ nx) (hF : Fx h0) (M : Mtx h0 rt b0 T ln) (hk : k ≤ 6) (hE : ∀ g a, Om h0 g ln a k → Mk X (D + 1) m_X12_term [.ref 68] g nx sz (RI (MPr h0 p ln (2 * k + 2) k (termF T ln (innN T ln k) a)))) (o : Om h0 h ln a k) : Mk X (D + 2) m_X12_sum [.ref 68] h nx sz (RI (MPr h0 p ln (2 * k + 3) k (sumF T ln (innN T ln k) a))) := by
  have t1 := M.2.2.2.1
  have hB := M.2.2.2.2.2.1
  have gde := fun a ha => term_gd (T := T) (ln := ln) (inn := innN T ln k) (inn_gd k) (a := a) ha
  refine e_X12_sum (c_X12_sum_0 hA0 RO_rm hcs0 (hE h a o) ?_)
  intro v0 g0 r0
  refine c_X12_sum_4 ?_
  obtain ⟨Q, hQ⟩ : ∃ Q, Q = (RI (MPr h0 p ln (2 * k + 3) k (sumF T ln (innN T ln k) a))) := ⟨_, rfl⟩
  rw [← hQ]
  have fin : ∀ y g, MPr h0 p ln (2 * k + 3) k (sumF T ln (innN T ln k) a) y g → Q (some (.int y)) g := fun y g r => by rw [hQ]; exact ⟨_, rfl, r⟩
  have bad : ∀ V g q, Fm h0 g ln q → Q (some (.int V)) g → VM X m_X12_sum (D + 2) nx sz Q 5 [some (.ref 68), some (.int V), none, none, none] [] g := fun V g q f z => c_X12_sum_5 (d := D + 1) (P14 := fun _ _ => False) hA0 RO_rm hcs0 (fun _ => z) (fun z => absurd z (f.ne t1)) (fun z => absurd z (f.ne t1))
  have key : ∀ (f : Nat) (W0 w : List Nat) (b : Nat) (pd : Option Nat) (V : Int32) (g : AH), Om h0 g ln b k → SP p (2 * k + 3) (W0 ++ (w ++ opl pd)) V → 200 ≤ b + f → (∀ y g, MPr h0 p ln (2 * k + 3) k (pre W0 (LPf T ln (termF T ln (innN T ln k)) addS (f + 1) (some w, b) pd)) y g → Q (some (.int y)) g) → VM X m_X12_sum (D + 2) nx sz Q 5 [some (.ref 68), some (.int V), none, none, none] [] g := by
    intro f
    induction f with
    | zero =>
      intro W0 w b pd V g o sp hb fin
      obtain ⟨b1, b2, b3⟩ := pb_le (T := T) (ln := ln) (a := b) o.2.1
      have e0 : sgn T ln (pb T ln b) = 0 := if_neg (by have := o.2.1; omega)
      have q : addS (sgn T ln (pb T ln b)) = none := by rw [e0]; rfl
      rw [LP_stop (r := (some w, b)) rfl q] at fin
      refine c_X12_sum_5 hA0 RO_rm hcs0 (fun z => absurd o.2.2.2.1 z) (fun _ => t_lookO (d := D + 1) hA0 M o) ?_
      rintro _ _ g ⟨rfl, -, o⟩
      rw [e0]
      have n1 : ¬ lkI 0 = 43 := by decide
      have n2 : ¬ lkI 0 = 45 := by decide
      refine c_X12_sum_17 (P32 := fun _ _ => False) hA0 RO_rm hcs0 (fun z => absurd z n1) (fun z => absurd z n1) (fun _ => t_lookO (d := D + 1) hA0 M o) ?_
      rintro _ _ g ⟨rfl, -, o⟩
      rw [pb_pb (by omega), e0]
      rw [pb_pb (by omega)] at o
      exact c_X12_sum_26 (d := D + 1) (P32 := fun _ _ => False) hA0 RO_rm hcs0 (fun _ => fin _ _ (by rw [pre_some (c := w ++ opl pd) rfl]; exact MPr.ok rfl o sp)) (fun z => absurd z n2) (fun z => absurd z n2)
    | succ f ih =>
      intro W0 w b pd V g o sp hb fin
      have hbl := o.2.1
      obtain ⟨b1, b2, b3⟩ := pb_le (T := T) (ln := ln) (a := b) o.2.1
      have hs := sgn_le (a := pb T ln b) hB
      have e1 := lkI_eq (c := 43) hs (by decide) (by decide)
      have e2 := lkI_eq (c := 45) hs (by decide) (by decide)
      have epp : pb T ln (pb T ln b) = pb T ln b := pb_pb hbl
      refine c_X12_sum_5 hA0 RO_rm hcs0 (fun z => absurd o.2.2.2.1 z) (fun _ => t_lookO (d := D + 1) hA0 M o) ?_
      rintro _ _ g ⟨rfl, -, o⟩
      cases q : addS (sgn T ln (pb T ln b)) with
      | none =>
        obtain ⟨m1, m2⟩ := add_none q
        rw [LP_stop (r := (some w, b)) rfl q] at fin
        refine c_X12_sum_17 (P32 := fun _ _ => False) hA0 RO_rm hcs0 (fun z => absurd (e1.mp z) m1) (fun z => absurd (e1.mp z) m1) (fun _ => t_lookO (d := D + 1) hA0 M o) ?_
        rintro _ _ g ⟨rfl, -, o⟩
        rw [epp] at o ⊢
        exact c_X12_sum_26 (d := D + 1) (P32 := fun _ _ => False) hA0 RO_rm hcs0 (fun _ => fin _ _ (by rw [pre_some (c := w ++ opl pd) rfl]; exact MPr.ok rfl o sp)) (fun z => absurd (e2.mp z) m2) (fun z => absurd (e2.mp z) m2)
      | some x =>
        have lq := sgn_pos (add_ok q).2
        rw [LP_more (r := (some w, b)) rfl q] at fin
        have fin : ∀ y g, MPr h0 p ln (2 * k + 3) k (pre W0 (pre (w ++ opl pd) (LPf T ln (termF T ln (innN T ln k)) addS (f + 1) (termF T ln (innN T ln k) (pb T ln b + 1)) (some x)))) y g → Q (some (.int y)) g := fin
        have ge := gde (pb T ln b + 1) (by omega)
        have two := add_two q
        have p60 : ∀ x2, x2 < 2 → x = 3 - x2 → ∀ (v : Int32) (g : AH), MPr h0 p ln (2 * k + 2) k (termF T ln (innN T ln k) (pb T ln b + 1)) v g → VM X m_X12_sum (D + 2) nx sz Q 60 [some (.ref 68), some (.int V), some (.int (nI x2)), none, none] [.int v] g := fun x2 hx ex v g r => by
          refine w_sum (D := D) (c_X12_sum_80 ?_) hx
          rw [← ex]
          cases e : (termF T ln (innN T ln k) (pb T ln b + 1)).1 with
          | none =>
            have l1 := LP_none (T := T) (ln := ln) (el := termF T ln (innN T ln k)) (sg := addS) (pd := some x) e (f + 1)
            have l2 := pre_none (w := w ++ opl pd) l1.1
            have l3 := pre_none (w := W0) l2.1
            have fm := r.of_none e
            exact bad _ _ _ fm (fin _ _ (MPr.bad l3.1 (by rw [l3.2, l2.2, l1.2]; exact fm)))
          | some w' =>
            obtain ⟨o, sp'⟩ := r.of_some e
            obtain ⟨g1, g2, -⟩ := ge.2 w' e
            have er : termF T ln (innN T ln k) (pb T ln b + 1) = (some w', (termF T ln (innN T ln k) (pb T ln b + 1)).2) := Prod.ext e rfl
            refine ih (W0 ++ (w ++ opl pd)) w' (termF T ln (innN T ln k) (pb T ln b + 1)).2 (some x) _ g o (SP_op sp sp' (by omega) (by omega) (by omega)) (by omega) (fun y g r => fin y g ?_)
            rw [← er] at r
            have epq : pre W0 (pre (w ++ opl pd) (LPf T ln (termF T ln (innN T ln k)) addS (f + 1) (termF T ln (innN T ln k) (pb T ln b + 1)) (some x))) = pre (W0 ++ (w ++ opl pd)) (LPf T ln (termF T ln (innN T ln k)) addS (f + 1) (termF T ln (innN T ln k) (pb T ln b + 1)) (some x)) := pre_pre
            rw [epq]
            exact r
        rcases two with ⟨s1, x1⟩ | ⟨s1, x1⟩
        · have y1 := e1.mpr s1
          refine c_X12_sum_17 (P23 := fun _ _ => False) hA0 RO_rm hcs0 (fun _ => t_lookO (d := D + 1) hA0 M o) ?_ (fun z => absurd y1 z) (fun z => absurd y1 z)
          rintro _ _ g ⟨rfl, -, o⟩
          rw [epp] at o ⊢
          refine c_X12_sum_35 (P57 := fun _ _ => False) hA0 RO_rm hcs0 (fun z => absurd y1 z) (fun z => absurd y1 z) (fun _ => by rw [o.2.2.1, nI_1]; exact hE _ _ (o.at (by omega))) ?_
          intro _ v g r
          exact p60 1 (by decide) (by omega) v g r
        · have n1 : ¬ lkI (sgn T ln (pb T ln b)) = 43 := fun z => by have := e1.mp z; omega
          have y2 := e2.mpr s1
          refine c_X12_sum_17 (P32 := fun _ _ => False) hA0 RO_rm hcs0 (fun z => absurd z n1) (fun z => absurd z n1) (fun _ => t_lookO (d := D + 1) hA0 M o) ?_
          rintro _ _ g ⟨rfl, -, o⟩
          rw [epp] at o ⊢
          refine c_X12_sum_26 hA0 RO_rm hcs0 (fun z => absurd y2 z) (fun _ => t_lookO (d := D + 1) hA0 M o) ?_
          rintro _ _ g ⟨rfl, -, o⟩
          rw [epp] at o ⊢
          refine c_X12_sum_35 (P57_1 := fun _ _ => False) hA0 RO_rm hcs0 (fun _ => by rw [o.2.2.1, nI_1]; exact hE _ _ (o.at (by omega))) ?_ (fun z => absurd z n1) (fun z => absurd z n1)
          intro _ v g r
          exact p60 0 (by decide) (by omega) v g r
  have ge := gde a o.2.1
  unfold sumF at fin
  cases e : (termF T ln (innN T ln k) a).1 with
  | none =>
    have l1 := LP_none (T := T) (ln := ln) (el := termF T ln (innN T ln k)) (sg := addS) (pd := none) e 200
    have fm := r0.of_none e
    exact bad _ _ _ fm (fin _ _ (MPr.bad l1.1 (by rw [l1.2]; exact fm)))
  | some w =>
    obtain ⟨o, sp⟩ := r0.of_some e
    obtain ⟨g1, g2, -⟩ := ge.2 w e
    have er : termF T ln (innN T ln k) a = (some w, (termF T ln (innN T ln k) a).2) := Prod.ext e rfl
    refine key 199 [] w _ none v0 g0 o ?_ (by omega) (fun y g r => fin y g ?_)
    · show SP p _ (w ++ []) v0
      rw [List.append_nil]
      exact sp.mono (by omega)
    · rw [← er] at r
      have : pre [] (LPf T ln (termF T ln (innN T ln k)) addS (199 + 1) (termF T ln (innN T ln k) a) none) = LPf T ln (termF T ln (innN T ln k)) addS 200 (termF T ln (innN T ln k) a) none := pre_nil
      rw [this] at r
      exact r
theorem t_sumK (hA0 : 91 ≤ nx) (hF : Fx h0) (M : Mtx h0 rt b0 T ln) (L : Let h0 p) : ∀ k, k ≤ 6 → ∀ D, SumM X (D + 3 * k + 7) nx sz h0 T p ln k
  | 0, hk, D => fun g a o => t_sum (D := D + 5) hA0 hF M hk (fun g a o => t_term (D := D + 4) hA0 hF M hk (fun g a o => t_atom (D := D) hA0 hF M L hk (fun k' e => by cases e) o) o) o
  | k + 1, hk, D => fun g a o => by
    have ih := t_sumK hA0 hF M L k (by omega) D
    refine t_sum (D := D + 3 * k + 8) hA0 hF M hk (fun g a o => t_term (D := D + 3 * k + 7) hA0 hF M hk (fun g a o => t_atom (D := D + 3 * k + 3) hA0 hF M L hk (fun k' e => ?_) o) o) o
    cases e
    exact ih
end OPS

/-! rule text: the class's sums, all levels -/
section OPS
variable {X : CX} {D nx sz : Nat} {h h0 : AH} {T : Nat → Nat} {ln a p : Nat} {c : List Nat}
theorem s_sum {k : Nat} (hA0 : 91 ≤ nx) (hF : Fx h0) (t : Txt h0 T ln) (hk : k ≤ 6) (ih : ∀ k', k = k' + 1 → SumK X (D + 3) nx sz h0 T ln k') : SumK X (D + 5) nx sz h0 T ln k := by
  intro h a c o hc
  have t1 := t.1
  have hB := t.2.2.1
  refine e_X7_sum (c_X7_sum_0 ?_)
  have gda := fun a ha => atom_gd (T := T) (ln := ln) (inn := innN T ln k) (inn_gd k) (a := a) ha
  have key : ∀ (m b : Nat) (c : List Nat) (tp pp : Option Nat) (f F i : Nat) (g : AH) (Q : Option Value → AH → Prop), 200 - b = m → (∀ g, RcP h0 T ln c (LPf T ln (termF T ln (innN T ln k)) addS F (LPf T ln (atomF T ln (innN T ln k)) mulS f (atomF T ln (innN T ln k) b) tp) pp) g → Q none g) → Oc h0 g ln b c → c.length + (opl tp).length + (opl pp).length ≤ b → 2 * i ≤ b → 200 ≤ b + f → 200 ≤ b + F → (∀ w, tp = some w → w < 16) → (∀ w, pp = some w → w < 16) → VM X m_X7_sum (D + 5) nx sz Q 7 [some (.ref 27), some (.int (nI (6 - k))), some (.int (ovI tp)), some (.int (ovI pp)), some (.int (nI i)), none] [] g := by
    intro m
    induction m using Nat.strongRecOn with
    | ind m ihm =>
      intro b c tp pp f F i g Q hm fin o hc hi hf hF2 htp hpp
      have hb := o.2.1
      have no : ¬ (200 : Int32) ≤ nI i := fun z => by
        have z : nI 200 ≤ nI i := z
        rw [le_nI (by decide) (by omega)] at z
        omega
      have etp : ∀ o : Option Nat, (∀ w, o = some w → w < 16) → (ovI o = -1 ↔ o = none) := fun o ho => by
        cases o with
        | none => exact ⟨fun _ => rfl, fun _ => rfl⟩
        | some w => exact ⟨fun z => absurd z (nI_m1 (by have := ho w rfl; omega)), fun z => by cases z⟩
      refine c_X7_sum_7 hA0 RO_rm hcs0 (fun z => absurd z no) (fun _ z => absurd o.2.2.2.1 z) (fun _ _ => s_atom (D := D) hA0 hF t hk ih o (by omega)) ?_
      intro _ _ g r
      cases e : (atomF T ln (innN T ln k) b).1 with
      | none =>
        have dm := r.of_none e
        have l1 := LP_none (T := T) (ln := ln) (el := atomF T ln (innN T ln k)) (sg := mulS) (pd := tp) e f
        have l2 := LP_none (T := T) (ln := ln) (el := termF T ln (innN T ln k)) (sg := addS) (pd := pp) l1.1 F
        have fin : ∀ g, Dm h0 g T ln (atomF T ln (innN T ln k) b).2 → Q none g := fun g d => fin g (RcP.bad l2.1 (by rw [l2.2, l1.2]; exact d))
        generalize (atomF T ln (innN T ln k) b).2 = p at *
        have p38 : ∀ g, Dm h0 g T ln p → VM X m_X7_sum (D + 5) nx sz Q 38 [some (.ref 27), some (.int (nI (6 - k))), none, some (.int (ovI pp)), some (.int (nI i)), none] [] g := fun g dm => by
          refine c_X7_sum_38 hA0 RO_rm hcs0 (s_next_dm (d := D + 3) hA0 hF t dm) ?_
          rintro _ g ⟨⟨s, s1, rfl, s2⟩, rfl⟩
          obtain ⟨m1, m2, -⟩ := mul_dm s2
          refine c_X7_sum_42 RO_rm hcs0 (s_multiplying (d := D + 4) s1) ?_
          rintro _ g ⟨rfl, rfl⟩
          rw [m1]
          have p66 : ∀ g, Dm h0 g T ln p → VM X m_X7_sum (D + 5) nx sz Q 66 [some (.ref 27), some (.int (nI (6 - k))), some (.int (ovI none)), none, some (.int (nI i)), some (.int (nI s))] [] g := fun g dm => by
            refine c_X7_sum_66 RO_rm hcs0 (s_adding (d := D + 4) s1) ?_
            rintro _ g ⟨rfl, rfl⟩
            rw [m2]
            exact c_X7_sum_71 hA0 (fun z => absurd rfl z) (fun _ => fin _ dm)
          refine c_X7_sum_49 hA0 RO_rm hcs0 (fun z => absurd rfl z) (fun _ _ => p66 _ dm) (fun _ _ => s_write_dm (d := D + 4) hA0 hF dm) ?_
          intro _ _ g dm
          exact p66 g dm
        refine c_X7_sum_27 hA0 RO_rm hcs0 (fun _ => p38 g dm) (fun _ => s_write_dm (d := D + 4) hA0 hF dm) ?_
        intro _ g dm
        exact p38 g dm
      | some w =>
        obtain ⟨g1, g2, -⟩ := (gda b hb).2 w e
        have g3 := (gda b hb).1
        have o := r.of_some e
        cases f with
        | zero => omega
        | succ f =>
        cases F with
        | zero => omega
        | succ F =>
        have p38 : ∀ g, Oc h0 g ln (atomF T ln (innN T ln k) b).2 (c ++ w ++ opl tp) → VM X m_X7_sum (D + 5) nx sz Q 38 [some (.ref 27), some (.int (nI (6 - k))), none, some (.int (ovI pp)), some (.int (nI i)), none] [] g := fun g o => by
          obtain ⟨b1, b2, b3⟩ := pb_le (T := T) (ln := ln) (a := (atomF T ln (innN T ln k) b).2) g3
          refine c_X7_sum_38 hA0 RO_rm hcs0 (s_next (d := D + 3) hA0 hF t o) ?_
          rintro _ g ⟨rfl, o⟩
          have s1 := sgn_le (a := pb T ln (atomF T ln (innN T ln k) b).2) hB
          refine c_X7_sum_42 RO_rm hcs0 (s_multiplying (d := D + 4) s1) ?_
          rintro _ g ⟨rfl, rfl⟩
          have eo := etp (mulS (sgn T ln (pb T ln (atomF T ln (innN T ln k) b).2))) (fun x hx => by
            unfold mulS at hx
            split at hx
            · cases hx; decide
            · split at hx
              · cases hx; decide
              · cases hx)
          have eo2 := etp (addS (sgn T ln (pb T ln (atomF T ln (innN T ln k) b).2))) (fun x hx => by
            unfold addS at hx
            split at hx
            · cases hx; decide
            · split at hx
              · cases hx; decide
              · cases hx)
          cases q : mulS (sgn T ln (pb T ln (atomF T ln (innN T ln k) b).2)) with
          | some x =>
            rw [q] at eo
            have lq := sgn_pos (mul_ok q).2
            have x16 : x < 16 := by
              unfold mulS at q
              split at q
              · cases q; decide
              · split at q
                · cases q; decide
                · cases q
            rw [LP_more e q, LP_pre] at fin
            refine c_X7_sum_49 (d := D + 4) (P63 := fun _ => False) hA0 RO_rm hcs0 (fun _ => ?_) (fun z => by cases eo.mp z) (fun z => by cases eo.mp z) (fun z => by cases eo.mp z)
            rw [o.2.2.1, nI_1, nI_1]
            refine ihm (200 - (pb T ln (atomF T ln (innN T ln k) b).2 + 1)) (by omega) (pb T ln (atomF T ln (innN T ln k) b).2 + 1) (c ++ w ++ opl tp) (some x) pp f (F + 1) (i + 1) _ Q rfl (fun g r => fin g ?_) (o.at (by omega)) ?_ (by omega) (by omega) (by omega) (fun w hw => by cases hw; exact x16) hpp
            · rw [List.append_assoc] at r
              exact r.pre
            · rw [List.length_append, List.length_append]
              show c.length + w.length + (opl tp).length + 1 + (opl pp).length ≤ _
              omega
          | none =>
            rw [LP_stop e q] at fin
            have p66 : ∀ g, Oc h0 g ln (pb T ln (atomF T ln (innN T ln k) b).2) (c ++ (w ++ opl tp ++ opl pp)) → VM X m_X7_sum (D + 5) nx sz Q 66 [some (.ref 27), some (.int (nI (6 - k))), some (.int (ovI none)), none, some (.int (nI i)), some (.int (nI (sgn T ln (pb T ln (atomF T ln (innN T ln k) b).2))))] [] g := fun g o => by
              refine c_X7_sum_66 RO_rm hcs0 (s_adding (d := D + 4) s1) ?_
              rintro _ g ⟨rfl, rfl⟩
              have epp : pb T ln (pb T ln (atomF T ln (innN T ln k) b).2) = pb T ln (atomF T ln (innN T ln k) b).2 := pb_pb g3
              cases q2 : addS (sgn T ln (pb T ln (atomF T ln (innN T ln k) b).2)) with
              | some x =>
                rw [q2] at eo2
                have lq := sgn_pos (add_ok q2).2
                have x16 : x < 16 := by
                  unfold addS at q2
                  split at q2
                  · cases q2; decide
                  · split at q2
                    · cases q2; decide
                    · cases q2
                rw [LP_more (r := (some (w ++ opl tp), pb T ln (atomF T ln (innN T ln k) b).2)) rfl (by rw [epp]; exact q2)] at fin
                refine c_X7_sum_71 hA0 (fun _ => ?_) (fun z => by cases eo2.mp z)
                rw [o.2.2.1, nI_1, nI_1]
                refine ihm (200 - (pb T ln (atomF T ln (innN T ln k) b).2 + 1)) (by omega) (pb T ln (atomF T ln (innN T ln k) b).2 + 1) (c ++ (w ++ opl tp ++ opl pp)) none (some x) 200 F (i + 1) _ Q rfl (fun g r => fin g ?_) (o.at (by omega)) ?_ (by omega) (by omega) (by omega) (fun w hw => by cases hw) (fun w hw => by cases hw; exact x16)
                · show RcP h0 T ln c (pre (w ++ opl tp ++ opl pp) (LPf T ln (termF T ln (innN T ln k)) addS F (termF T ln (innN T ln k) (pb T ln (pb T ln (atomF T ln (innN T ln k) b).2) + 1)) (some x))) g
                  rw [epp]
                  exact RcP.pre r
                · rw [List.length_append, List.length_append, List.length_append]
                  show c.length + (w.length + (opl tp).length + (opl pp).length) + 0 + 1 ≤ _
                  omega
              | none =>
                rw [q2] at eo2
                rw [LP_stop (r := (some (w ++ opl tp), pb T ln (atomF T ln (innN T ln k) b).2)) rfl (by rw [epp]; exact q2)] at fin
                refine c_X7_sum_71 hA0 (fun z => absurd (eo2.mpr rfl) z) (fun _ => fin _ (RcP.ok rfl ?_))
                show Oc h0 g ln (pb T ln (pb T ln (atomF T ln (innN T ln k) b).2)) _
                rw [epp]
                exact o
            have ew : c ++ (w ++ opl tp ++ opl pp) = c ++ w ++ opl tp ++ opl pp := by simp only [List.append_assoc]
            rw [ew] at p66
            cases pp with
            | none =>
              have o' : Oc h0 g ln (pb T ln (atomF T ln (innN T ln k) b).2) (c ++ w ++ opl tp ++ opl none) := by
                show Oc h0 g ln _ (c ++ w ++ opl tp ++ [])
                rw [List.append_nil]
                exact o
              exact c_X7_sum_49 (d := D + 4) (P63 := fun _ => False) hA0 RO_rm hcs0 (fun z => absurd rfl z) (fun _ _ => p66 _ o') (fun _ z => absurd rfl z) (fun _ z => absurd rfl z)
            | some x =>
              have hx := hpp x rfl
              refine c_X7_sum_49 hA0 RO_rm hcs0 (fun z => absurd rfl z) (fun _ z => by cases (etp (some x) hpp).mp z) (fun _ _ => s_write (d := D + 4) (s := x) (v := 0) hA0 hF o ?_ (by decide) hx) ?_
              · rw [List.length_append, List.length_append]
                have : (opl (some x)).length = 1 := rfl
                omega
              intro _ _ g o
              refine p66 g ?_
              rw [show 16 * 0 + x = x by omega] at o
              exact o
        cases tp with
        | none =>
          refine c_X7_sum_27 (d := D + 4) (P35 := fun _ => False) hA0 RO_rm hcs0 (fun _ => p38 g ?_) (fun z => absurd rfl z) (fun z => absurd rfl z)
          show Oc h0 g ln _ (c ++ w ++ [])
          rw [List.append_nil]
          exact o
        | some x =>
          have hx := htp x rfl
          refine c_X7_sum_27 hA0 RO_rm hcs0 (fun z => by cases (etp (some x) htp).mp z) (fun _ => s_write (d := D + 4) (s := x) (v := 0) hA0 hF o ?_ (by decide) hx) ?_
          · rw [List.length_append]
            have : (opl (some x)).length = 1 := rfl
            omega
          intro _ g o
          refine p38 g ?_
          rw [show 16 * 0 + x = x by omega] at o
          exact o
  exact key (200 - a) a c none none 200 200 0 h _ rfl (fun g r => ⟨rfl, r⟩) o (by show c.length + 0 + 0 ≤ a; omega) (by omega) (by omega) (by omega) (fun w hw => by cases hw) (fun w hw => by cases hw)
theorem s_sumK (hA0 : 91 ≤ nx) (hF : Fx h0) (t : Txt h0 T ln) : ∀ k, k ≤ 6 → SumK X (D + 2 * k + 5) nx sz h0 T ln k
  | 0, hk => s_sum (D := D) hA0 hF t hk (fun k' e => by cases e)
  | k + 1, hk => by
    have := s_sumK hA0 hF t k (by omega)
    refine s_sum (D := D + 2 * k + 2) hA0 hF t hk (fun k' e => ?_)
    cases e
    exact this
end OPS

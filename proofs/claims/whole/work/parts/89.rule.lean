/-! rule text: the class's conditions, all levels -/
section OPS
variable {X : CX} {D nx sz : Nat} {h h0 : AH} {T : Nat → Nat} {ln a p : Nat} {c : List Nat}
def flg : Option Nat → Int32
  | none => 0
  | some _ => 1
theorem s_cond {k : Nat} (hA0 : 91 ≤ nx) (hF : Fx h0) (t : Txt h0 T ln) (hk : k ≤ 6) (hS : SumK X (D + 2) nx sz h0 T ln k) (hU : UniK X (D + 3) nx sz h0 T ln k) (x2 : Nat) (hx2 : x2 < 2) (r0 : Res) (hr0 : r0 = if x2 = 0 then uN T ln k a else cmpF T ln k a) (o : Oc h0 h ln a c) (hc : c.length ≤ a) : Mk X (D + 4) m_X7_condition [.ref 27, .int (nI (6 - k)), .int (nI x2)] h nx sz (RV fun g => RcP h0 T ln c (cdN T ln k r0) g) := by
  have t1 := t.1
  have hB := t.2.2.1
  refine e_X7_condition (c_X7_condition_0 ?_)
  have key : ∀ (m b : Nat) (c : List Nat) (tp pp : Option Nat) (f F i : Nat) (r : Res) (g : AH) (Q : Option Value → AH → Prop), 200 - b = m → (∀ g, RcP h0 T ln c (LPf T ln (fun a => andF T ln (uN T ln k) (uN T ln k a)) orS F (LPf T ln (uN T ln k) andS f r tp) pp) g → Q none g) → Oc h0 g ln b c → c.length + (opl tp).length + (opl pp).length ≤ b → 2 * i ≤ b → 200 ≤ b + f → 200 ≤ b + F → (tp = none ∨ tp = some 9) → (pp = none ∨ pp = some 10) → ((x2 = 0 ∨ i ≠ 0) ∧ r = uN T ln k b ∨ x2 = 1 ∧ i = 0 ∧ r = cmpF T ln k b) → VM X m_X7_condition (D + 4) nx sz Q 8 [some (.ref 27), some (.int (nI (6 - k))), some (.int (nI x2)), some (.int (flg tp)), some (.int (flg pp)), some (.int (nI i)), none] [] g := by
    intro m
    induction m using Nat.strongRecOn with
    | ind m ihm =>
      intro b c tp pp f F i r g Q hm fin o hc hi hf hF2 htp hpp hr
      have hb := o.2.1
      have no : ¬ (200 : Int32) ≤ nI i := fun z => by
        have z : nI 200 ≤ nI i := z
        rw [le_nI (by decide) (by omega)] at z
        omega
      have ez : nI x2 = 0 ↔ x2 = 0 := nI_eq (b := 0) (by omega) (by decide)
      have ei : nI i = 0 ↔ i = 0 := nI_eq (b := 0) (by omega) (by decide)
      have gdr : Gd pS ln b 0 r := by
        rcases hr with ⟨_, rfl⟩ | ⟨_, _, rfl⟩
        · exact uN_gd k b hb
        · exact cmp_gd hb
      have p42 : ∀ g, RcP h0 T ln c r g → VM X m_X7_condition (D + 4) nx sz Q 42 [some (.ref 27), some (.int (nI (6 - k))), some (.int (nI x2)), some (.int (flg tp)), some (.int (flg pp)), some (.int (nI i)), none] [] g := fun g rr => by
        cases e : r.1 with
        | none =>
          have dm := rr.of_none e
          have l1 := LP_none (T := T) (ln := ln) (el := uN T ln k) (sg := andS) (pd := tp) e f
          have l2 := LP_none (T := T) (ln := ln) (el := fun a => andF T ln (uN T ln k) (uN T ln k a)) (sg := orS) (pd := pp) l1.1 F
          have fin : ∀ g, Dm h0 g T ln r.2 → Q none g := fun g d => fin g (RcP.bad l2.1 (by rw [l2.2, l1.2]; exact d))
          have p53 : ∀ g, Dm h0 g T ln r.2 → VM X m_X7_condition (D + 4) nx sz Q 53 [some (.ref 27), some (.int (nI (6 - k))), some (.int (nI x2)), none, some (.int (flg pp)), some (.int (nI i)), none] [] g := fun g dm => by
            refine c_X7_condition_53 hA0 RO_rm hcs0 (s_next_dm (d := D + 2) hA0 hF t dm) ?_
            rintro _ g ⟨⟨s, s1, rfl, s2⟩, rfl⟩
            obtain ⟨-, -, -, -, -, -, m1, m2⟩ := mul_dm s2
            have n38 : ¬ nI s = 38 := fun z => m1 ((nI_eq (b := 38) (by omega) (by decide)).mp z)
            have n124 : ¬ nI s = 124 := fun z => m2 ((nI_eq (b := 124) (by omega) (by decide)).mp z)
            have p88 : ∀ g, Dm h0 g T ln r.2 → VM X m_X7_condition (D + 4) nx sz Q 88 [some (.ref 27), some (.int (nI (6 - k))), some (.int (nI x2)), some (.int 0), none, some (.int (nI i)), some (.int (nI s))] [] g := fun g dm => c_X7_condition_88 hA0 (fun _ => fin g dm) (fun z => absurd z n124)
            refine c_X7_condition_57 hA0 RO_rm hcs0 (fun _ _ => p88 _ dm) (fun _ _ => s_write_dm (d := D + 3) hA0 hF dm) ?_ (fun z => absurd z n38)
            intro _ _ g dm
            exact p88 g dm
          refine c_X7_condition_42 hA0 RO_rm hcs0 (fun _ => p53 g dm) (fun _ => s_write_dm (d := D + 3) hA0 hF dm) ?_
          intro _ g dm
          exact p53 g dm
        | some w =>
          obtain ⟨g1, g2, -⟩ := gdr.2 w e
          have g3 := gdr.1
          have o := rr.of_some e
          cases f with
          | zero => omega
          | succ f =>
          cases F with
          | zero => omega
          | succ F =>
          have p53 : ∀ g, Oc h0 g ln r.2 (c ++ w ++ opl tp) → VM X m_X7_condition (D + 4) nx sz Q 53 [some (.ref 27), some (.int (nI (6 - k))), some (.int (nI x2)), none, some (.int (flg pp)), some (.int (nI i)), none] [] g := fun g o => by
            obtain ⟨b1, b2, b3⟩ := pb_le (T := T) (ln := ln) (a := r.2) g3
            refine c_X7_condition_53 hA0 RO_rm hcs0 (s_next (d := D + 2) hA0 hF t o) ?_
            rintro _ g ⟨rfl, o⟩
            have s1 := sgn_le (a := pb T ln r.2) hB
            have e38 : nI (sgn T ln (pb T ln r.2)) = 38 ↔ sgn T ln (pb T ln r.2) = 38 := nI_eq (b := 38) (by omega) (by decide)
            have e124 : nI (sgn T ln (pb T ln r.2)) = 124 ↔ sgn T ln (pb T ln r.2) = 124 := nI_eq (b := 124) (by omega) (by decide)
            by_cases q : sgn T ln (pb T ln r.2) = 38
            · have lq := sgn_pos (T := T) (ln := ln) (a := pb T ln r.2) (by omega)
              have qa : andS (sgn T ln (pb T ln r.2)) = some 9 := if_pos q
              rw [LP_more e qa, LP_pre] at fin
              refine c_X7_condition_57 (d := D + 3) (P85 := fun _ => False) hA0 RO_rm hcs0 (fun z => absurd (e38.mpr q) z) (fun z => absurd (e38.mpr q) z) (fun z => absurd (e38.mpr q) z) (fun _ => ?_)
              rw [o.2.2.1, nI_1, nI_1]
              refine ihm (200 - (pb T ln r.2 + 1)) (by omega) (pb T ln r.2 + 1) (c ++ w ++ opl tp) (some 9) pp f (F + 1) (i + 1) _ _ Q rfl (fun g r => fin g ?_) (o.at (by omega)) ?_ (by omega) (by omega) (by omega) (Or.inr rfl) hpp (Or.inl ⟨Or.inr (by omega), rfl⟩)
              · rw [List.append_assoc] at r
                exact r.pre
              · rw [List.length_append, List.length_append]
                show c.length + w.length + (opl tp).length + 1 + (opl pp).length ≤ _
                omega
            · have qa : andS (sgn T ln (pb T ln r.2)) = none := if_neg q
              rw [LP_stop e qa] at fin
              have epp : pb T ln (pb T ln r.2) = pb T ln r.2 := pb_pb g3
              have p88 : ∀ g, Oc h0 g ln (pb T ln r.2) (c ++ w ++ opl tp ++ opl pp) → VM X m_X7_condition (D + 4) nx sz Q 88 [some (.ref 27), some (.int (nI (6 - k))), some (.int (nI x2)), some (.int 0), none, some (.int (nI i)), some (.int (nI (sgn T ln (pb T ln r.2))))] [] g := fun g o => by
                have ew : c ++ (w ++ opl tp ++ opl pp) = c ++ w ++ opl tp ++ opl pp := by simp only [List.append_assoc]
                rw [← ew] at o
                by_cases q2 : sgn T ln (pb T ln r.2) = 124
                · have lq := sgn_pos (T := T) (ln := ln) (a := pb T ln r.2) (by omega)
                  have qo : orS (sgn T ln (pb T ln r.2)) = some 10 := if_pos q2
                  rw [LP_more (r := (some (w ++ opl tp), pb T ln r.2)) rfl (by rw [epp]; exact qo)] at fin
                  refine c_X7_condition_88 hA0 (fun z => absurd (e124.mpr q2) z) (fun _ => ?_)
                  rw [o.2.2.1, nI_1, nI_1]
                  refine ihm (200 - (pb T ln r.2 + 1)) (by omega) (pb T ln r.2 + 1) (c ++ (w ++ opl tp ++ opl pp)) none (some 10) 200 F (i + 1) _ _ Q rfl (fun g r' => fin g ?_) (o.at (by omega)) ?_ (by omega) (by omega) (by omega) (Or.inl rfl) (Or.inr rfl) (Or.inl ⟨Or.inr (by omega), rfl⟩)
                  · show RcP h0 T ln c (pre (w ++ opl tp ++ opl pp) (LPf T ln (fun a => andF T ln (uN T ln k) (uN T ln k a)) orS F (andF T ln (uN T ln k) (uN T ln k (pb T ln (pb T ln r.2) + 1))) (some 10))) g
                    rw [epp]
                    exact RcP.pre r'
                  · rw [List.length_append, List.length_append, List.length_append]
                    show c.length + (w.length + (opl tp).length + (opl pp).length) + 0 + 1 ≤ _
                    omega
                · have qo : orS (sgn T ln (pb T ln r.2)) = none := if_neg q2
                  rw [LP_stop (r := (some (w ++ opl tp), pb T ln r.2)) rfl (by rw [epp]; exact qo)] at fin
                  refine c_X7_condition_88 hA0 (fun _ => fin _ (RcP.ok rfl ?_)) (fun z => absurd (e124.mp z) q2)
                  show Oc h0 g ln (pb T ln (pb T ln r.2)) _
                  rw [epp]
                  exact o
              rcases hpp with rfl | rfl
              · refine c_X7_condition_57 (d := D + 3) (P85 := fun _ => False) hA0 RO_rm hcs0 (fun _ _ => p88 _ ?_) (fun _ z => absurd rfl z) (fun _ z => absurd rfl z) (fun z => absurd (e38.mp z) q)
                show Oc h0 g ln _ (c ++ w ++ opl tp ++ [])
                rw [List.append_nil]
                exact o
              · refine c_X7_condition_57 hA0 RO_rm hcs0 (fun _ z => by cases z) (fun _ _ => s_write (d := D + 3) (s := 10) (v := 0) hA0 hF o ?_ (by decide) (by decide)) ?_ (fun z => absurd (e38.mp z) q)
                · rw [List.length_append, List.length_append]
                  have : (opl (some 10)).length = 1 := rfl
                  omega
                intro _ _ g o
                exact p88 g o
          rcases htp with rfl | rfl
          · refine c_X7_condition_42 (d := D + 3) (P50 := fun _ => False) hA0 RO_rm hcs0 (fun _ => p53 g ?_) (fun z => absurd rfl z) (fun z => absurd rfl z)
            show Oc h0 g ln _ (c ++ w ++ [])
            rw [List.append_nil]
            exact o
          · refine c_X7_condition_42 hA0 RO_rm hcs0 (fun z => by cases z) (fun _ => s_write (d := D + 3) (s := 9) (v := 0) hA0 hF o ?_ (by decide) (by decide)) ?_
            · rw [List.length_append]
              have : (opl (some 9)).length = 1 := rfl
              omega
            intro _ g o
            exact p53 g o
      rcases hr with ⟨h1, rfl⟩ | ⟨h1, h2, rfl⟩
      · refine c_X7_condition_8 (P39_2 := fun _ => False) hA0 RO_rm hcs0 (fun z => absurd z no) (fun _ z => absurd o.2.2.2.1 z) (fun _ _ _ => hU g b c o (by omega)) (fun _ _ _ => p42) (fun _ _ _ _ => hU g b c o (by omega)) (fun _ _ _ _ => p42) (fun _ _ z1 z2 => ?_) (fun _ _ z1 z2 => ?_)
        · rcases h1 with h1 | h1
          · exact absurd (ez.mpr h1) z1
          · exact absurd (ei.mp z2) h1
        · rcases h1 with h1 | h1
          · exact absurd (ez.mpr h1) z1
          · exact absurd (ei.mp z2) h1
      · subst h1 h2
        exact c_X7_condition_8 (P39 := fun _ => False) (P39_1 := fun _ => False) hA0 RO_rm hcs0 (fun z => absurd z no) (fun _ z => absurd o.2.2.2.1 z) (fun _ _ z => by cases z) (fun _ _ z => by cases z) (fun _ _ _ z => absurd rfl z) (fun _ _ _ z => absurd rfl z) (fun _ _ _ _ => s_unit1 (D := D) hA0 hF t hk hS o (by omega)) (fun _ _ _ _ => p42)
  refine key (200 - a) a c none none 200 200 0 r0 h _ rfl (fun g r => ⟨rfl, r⟩) o (by show c.length + 0 + 0 ≤ a; omega) (by omega) (by omega) (by omega) (Or.inl rfl) (Or.inl rfl) ?_
  by_cases q : x2 = 0
  · rw [if_pos q] at hr0
    exact Or.inl ⟨Or.inl q, hr0⟩
  · rw [if_neg q] at hr0
    exact Or.inr ⟨by omega, rfl, hr0⟩
theorem s_conK {k : Nat} (hA0 : 91 ≤ nx) (hF : Fx h0) (t : Txt h0 T ln) (hk : k ≤ 6) (hS : SumK X (D + 2) nx sz h0 T ln k) (hU : UniK X (D + 3) nx sz h0 T ln k) : ConK X (D + 4) nx sz h0 T ln k := fun _ _ _ o hc => s_cond (D := D) hA0 hF t hk hS hU 0 (by decide) _ rfl o hc
theorem s_unitK (hA0 : 91 ≤ nx) (hF : Fx h0) (t : Txt h0 T ln) : ∀ k, k ≤ 6 → ∀ D, UniK X (D + 2 * k + 6) nx sz h0 T ln k := by
  intro k
  induction k using Nat.strongRecOn with
  | ind k ih =>
    intro hk D
    refine s_unit (D := D + 2 * k + 3) hA0 hF t hk (fun k' h' => ?_) (fun k' h' => ?_)
    · have s0 := s_sumK (X := X) (nx := nx) (D := D + 2 * (k - k')) (sz := sz) hA0 hF t k' (by omega)
      rw [show D + 2 * (k - k') + 2 * k' + 5 = D + 2 * k + 3 + 2 by omega] at s0
      exact s0
    · have s0 := s_sumK (X := X) (nx := nx) (D := D + 2 * (k - 1 - k')) (sz := sz) hA0 hF t k' (by omega)
      rw [show D + 2 * (k - 1 - k') + 2 * k' + 5 = D + 2 * k + 1 + 2 by omega] at s0
      have u0 := ih k' h' (by omega) (D + 2 * (k - 1 - k'))
      rw [show D + 2 * (k - 1 - k') + 2 * k' + 6 = D + 2 * k + 1 + 3 by omega] at u0
      exact s_conK (D := D + 2 * k + 1) hA0 hF t (by omega) s0 u0
end OPS

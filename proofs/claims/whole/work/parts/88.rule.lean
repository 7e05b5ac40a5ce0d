/-! rule text: the class's conditions -/
section OPS
variable {X : CX} {d D nx sz : Nat} {h h0 : AH} {T : Nat → Nat} {ln a p : Nat} {c : List Nat}
theorem u12 {Q : Option Value → AH → Prop} {x1 x2 s0 : Int32} {P112 P94 P60 : AH → Prop} (hA0 : 91 ≤ nx)
    (hMu : s0 = 33 → x1 < 6 → Mk X d m_X7_unit [.ref 27, .int (x1 + 1), .int 0] (setI h 27 3 (h.1 27 3 + 1)) nx sz (RV P60)) (qu : s0 = 33 → x1 < 6 → ∀ g, P60 g → VM X m_X7_unit (d + 1) nx sz Q 63 [some (.ref 27), none, none, none, none] [] g) (qu' : s0 = 33 → ¬ x1 < 6 → VM X m_X7_unit (d + 1) nx sz Q 160 [none, none, none, none, none] [] (setI h 27 4 1))
    (hMc : s0 = 40 → x1 < 6 → Mk X d m_X7_condition [.ref 27, .int (x1 + 1), .int 0] (setI h 27 3 (h.1 27 3 + 1)) nx sz (RV P94)) (qc : s0 = 40 → x1 < 6 → ∀ g, P94 g → VM X m_X7_unit (d + 1) nx sz Q 97 [some (.ref 27), none, none, none, none] [] g) (qc' : s0 = 40 → ¬ x1 < 6 → VM X m_X7_unit (d + 1) nx sz Q 160 [none, none, none, none, none] [] (setI h 27 4 1))
    (hMs : ¬ s0 = 33 → ¬ s0 = 40 → x2 = 0 → Mk X d m_X7_sum [.ref 27, .int x1] h nx sz (RV P112)) (qs : ¬ s0 = 33 → ¬ s0 = 40 → x2 = 0 → ∀ g, P112 g → VM X m_X7_unit (d + 1) nx sz Q 115 [some (.ref 27), some (.int x1), none, none, none] [] g) (q1 : ¬ s0 = 33 → ¬ s0 = 40 → ¬ x2 = 0 → VM X m_X7_unit (d + 1) nx sz Q 115 [some (.ref 27), some (.int x1), none, none, none] [] h) : VM X m_X7_unit (d + 1) nx sz Q 12 [some (.ref 27), some (.int x1), some (.int x2), none, none] [.int s0] h :=
  c_X7_unit_12 (P112 := fun _ => False) (P94 := fun _ => False) (P60 := P60) (P112_1 := P112) (P94_1 := fun _ => False) (P60_1 := fun _ => False) (P112_2 := fun _ => False) (P94_2 := P94) (P60_2 := fun _ => False) hA0 RO_rm hcs0
    (fun a _ b => absurd a b) (fun a _ b => absurd a b) (fun a _ b => absurd a b) (fun a _ b => absurd a b) (fun a _ b => absurd a b)
    (fun a b _ => hMu a b) (fun a b _ => qu a b) qu'
    (fun a b _ _ e => q1 a b e) (fun a b _ _ e => hMs a b e) (fun a b _ _ e => qs a b e)
    (fun _ b _ e => absurd e b) (fun _ b _ e => absurd e b) (fun a _ b => absurd b a) (fun a _ b => absurd b a)
    (fun _ b _ _ e => absurd b e) (fun _ b _ _ e => absurd b e) (fun _ b _ _ e => absurd b e)
    (fun _ b x _ _ => hMc b x) (fun _ b x _ _ => qc b x) (fun a _ _ b => absurd b a) (fun a _ _ b => absurd b a)
    (fun _ b x => qc' b x)
theorem u115 {k : Nat} {Q : Option Value → AH → Prop} (hA0 : 91 ≤ nx) (hF : Fx h0) (t : Txt h0 T ln) (hk : k ≤ 6) (hS : SumK X (D + 2) nx sz h0 T ln k) (o : Oc h0 h ln a c) (hc : c.length ≤ a) (hQ : ∀ g, RcP h0 T ln c (cmpF T ln k a) g → Q none g) : VM X m_X7_unit (D + 3) nx sz Q 115 [some (.ref 27), some (.int (nI (6 - k))), none, none, none] [] h := by
  have t1 := t.1
  obtain ⟨p1, p2, p3⟩ := pb_le (T := T) (ln := ln) (a := a) o.2.1
  refine c_X7_unit_115 hA0 RO_rm hcs0 (s_next (d := D + 1) hA0 hF t o) ?_
  rintro _ g ⟨rfl, o⟩
  have hs := sgn_le (a := pb T ln a) t.2.2.1
  refine c_X7_unit_119 RO_rm hcs0 (s_comparing (d := D + 2) hs) ?_
  rintro _ g ⟨rfl, rfl⟩
  unfold cmpF at hQ
  cases q : cmpS (sgn T ln (pb T ln a)) with
  | none =>
    rw [q] at hQ
    exact c_X7_unit_122 (d := D + 2) (P150 := fun _ => False) hA0 RO_rm hcs0 (fun z => absurd rfl z) (fun z => absurd rfl z) (fun _ => c_X7_unit_160 (hQ _ (RcP.bad rfl (o.wr (by omega)).dm)))
  | some w =>
    rw [q] at hQ
    obtain ⟨w1, w2⟩ := cmp_ok q
    have l := sgn_pos w2
    have w16 : w < 16 := by
      have := w1.1
      have h20 := w1.2
      unfold cmpS at q
      split at q
      · cases q; decide
      · split at q
        · cases q; decide
        · split at q
          · cases q; decide
          · cases q
    have nm : ¬ ovI (some w) = -1 := nI_m1 (by omega)
    refine c_X7_unit_122 hA0 RO_rm hcs0 (fun _ => by rw [o.2.2.1, nI_1]; exact hS _ (pb T ln a + 1) c (o.at (by omega)) (by omega)) ?_ (fun z => absurd z nm)
    intro _ g r
    have gd := sumN_gd (T := T) (ln := ln) (k := k) (a := pb T ln a + 1) (by omega)
    have hQ : ∀ g, RcP h0 T ln c (bnd (sumN T ln k (pb T ln a + 1)) fun c' b' => (some (c' ++ [w]), b')) g → Q none g := hQ
    cases e : (sumN T ln k (pb T ln a + 1)).1 with
    | none =>
      rw [bnd_none e] at hQ
      refine c_X7_unit_153 hA0 RO_rm hcs0 (s_write_dm (d := D + 2) hA0 hF (r.of_none e)) ?_
      intro g dm
      exact c_X7_unit_160 (hQ g (RcP.bad rfl dm))
    | some c' =>
      rw [bnd_some e] at hQ
      obtain ⟨g1, g2, g3⟩ := gd.2 c' e
      refine c_X7_unit_153 hA0 RO_rm hcs0 (s_write (d := D + 2) (s := w) (v := 0) hA0 hF (r.of_some e) (by rw [List.length_append]; have := gd.1; omega) (by decide) w16) ?_
      intro g o
      refine c_X7_unit_160 (hQ g (RcP.ok rfl ?_))
      rw [show 16 * 0 + w = w by omega, List.append_assoc] at o
      exact o
def UniK (X : CX) (E nx sz : Nat) (h0 : AH) (T : Nat → Nat) (ln k : Nat) : Prop := ∀ (g : AH) (a : Nat) (c : List Nat), Oc h0 g ln a c → c.length ≤ a → Mk X E m_X7_unit [.ref 27, .int (nI (6 - k)), .int 0] g nx sz (RV fun g' => RcP h0 T ln c (uN T ln k a) g')
def ConK (X : CX) (E nx sz : Nat) (h0 : AH) (T : Nat → Nat) (ln k : Nat) : Prop := ∀ (g : AH) (a : Nat) (c : List Nat), Oc h0 g ln a c → c.length ≤ a → Mk X E m_X7_condition [.ref 27, .int (nI (6 - k)), .int 0] g nx sz (RV fun g' => RcP h0 T ln c (cdN T ln k (uN T ln k a)) g')
theorem s_unit1 {k : Nat} (hA0 : 91 ≤ nx) (hF : Fx h0) (t : Txt h0 T ln) (hk : k ≤ 6) (hS : SumK X (D + 2) nx sz h0 T ln k) (o : Oc h0 h ln a c) (hc : c.length ≤ a) : Mk X (D + 3) m_X7_unit [.ref 27, .int (nI (6 - k)), .int 1] h nx sz (RV fun g => RcP h0 T ln c (cmpF T ln k a) g) := by
  refine e_X7_unit (c_X7_unit_0 (d := D + 2) (P9 := fun _ _ => False) hA0 RO_rm hcs0 (fun z => by cases z) (fun z => by cases z) (fun _ => ?_))
  exact u12 (d := D + 2) (P112 := fun _ => False) (P94 := fun _ => False) (P60 := fun _ => False) hA0 (fun z => by cases z) (fun z => by cases z) (fun z => by cases z) (fun z => by cases z) (fun z => by cases z) (fun z => by cases z) (fun _ _ z => by cases z) (fun _ _ z => by cases z) (fun _ _ _ => u115 hA0 hF t hk hS o hc (fun g r => ⟨rfl, r⟩))
theorem uN_eq {k : Nat} : uN T ln k a = unitF T ln k (match k with
  | 0 => none
  | k' + 1 => some (uN T ln k')) a := by cases k <;> rfl
theorem s_unit {k : Nat} (hA0 : 91 ≤ nx) (hF : Fx h0) (t : Txt h0 T ln) (hk : k ≤ 6) (hS : SumK X (D + 2) nx sz h0 T ln k) (hU : ∀ k', k = k' + 1 → UniK X (D + 2) nx sz h0 T ln k') (hC : ∀ k', k = k' + 1 → ConK X (D + 2) nx sz h0 T ln k') : UniK X (D + 3) nx sz h0 T ln k := by
  intro h a c o hc
  have t1 := t.1
  obtain ⟨p1, p2, p3⟩ := pb_le (T := T) (ln := ln) (a := a) o.2.1
  refine e_X7_unit (c_X7_unit_0 hA0 RO_rm hcs0 (fun _ => s_next (d := D + 1) hA0 hF t o) ?_ (fun z => absurd rfl z))
  rintro _ _ g ⟨rfl, o⟩
  have hs := sgn_le (a := pb T ln a) t.2.2.1
  obtain ⟨Q, hQ⟩ : ∃ Q, Q = (RV fun g => RcP h0 T ln c (uN T ln k a) g) := ⟨_, rfl⟩
  rw [← hQ]
  have fin : ∀ g, RcP h0 T ln c (uN T ln k a) g → Q none g := fun g r => by rw [hQ]; exact ⟨rfl, r⟩
  rw [uN_eq] at fin
  unfold unitF at fin
  have e33 : nI (sgn T ln (pb T ln a)) = 33 ↔ sgn T ln (pb T ln a) = 33 := nI_eq (b := 33) (by omega) (by decide)
  have e40 : nI (sgn T ln (pb T ln a)) = 40 ↔ sgn T ln (pb T ln a) = 40 := nI_eq (b := 40) (by omega) (by decide)
  have e6 : nI (6 - k) < 6 ↔ k ≠ 0 := by
    rw [← Int32.not_le, show (6 : Int32) = nI 6 from rfl, le_nI (by decide) (by omega)]
    omega
  by_cases q33 : sgn T ln (pb T ln a) = 33
  · rw [if_pos q33] at fin
    have y33 := e33.mpr q33
    have n40 : ¬ nI (sgn T ln (pb T ln a)) = 40 := fun z => by have := e40.mp z; omega
    have l := sgn_pos (T := T) (ln := ln) (a := pb T ln a) (by omega)
    cases k with
    | zero => exact u12 (d := D + 2) (P112 := fun _ => False) (P94 := fun _ => False) (P60 := fun _ => False) hA0 (fun _ z => absurd rfl (e6.mp z)) (fun _ z => absurd rfl (e6.mp z)) (fun _ _ => c_X7_unit_160 (fin _ (RcP.bad rfl (o.wr (by omega)).dm))) (fun z => absurd z n40) (fun z => absurd z n40) (fun z => absurd z n40) (fun z => absurd y33 z) (fun z => absurd y33 z) (fun z => absurd y33 z)
    | succ k' =>
      have ek : nI (6 - (k' + 1)) + 1 = nI (6 - k') := by
        rw [nI_1]
        congr 1
        omega
      have fin : ∀ g, RcP h0 T ln c (bnd (uN T ln k' (pb T ln a + 1)) fun c b => (some (c ++ [11]), b)) g → Q none g := fin
      refine u12 (d := D + 2) (P112 := fun _ => False) (P94 := fun _ => False) hA0 (fun _ _ => by rw [ek, o.2.2.1, nI_1]; exact hU k' rfl _ (pb T ln a + 1) c (o.at (by omega)) (by omega)) ?_ (fun _ z => absurd (e6.mpr (by omega)) z) (fun z => absurd z n40) (fun z => absurd z n40) (fun z => absurd z n40) (fun z => absurd y33 z) (fun z => absurd y33 z) (fun z => absurd y33 z)
      intro _ _ g r
      have gd := uN_gd (T := T) (ln := ln) k' (pb T ln a + 1) (by omega)
      cases e : (uN T ln k' (pb T ln a + 1)).1 with
      | none =>
        rw [bnd_none e] at fin
        refine c_X7_unit_63 hA0 RO_rm hcs0 (s_write_dm (d := D + 2) hA0 hF (r.of_none e)) ?_
        intro g dm
        exact c_X7_unit_70 (c_X7_unit_160 (fin g (RcP.bad rfl dm)))
      | some c' =>
        rw [bnd_some e] at fin
        obtain ⟨g1, g2, g3⟩ := gd.2 c' e
        refine c_X7_unit_63 hA0 RO_rm hcs0 (s_write (d := D + 2) (s := 11) (v := 0) hA0 hF (r.of_some e) (by rw [List.length_append]; have := gd.1; omega) (by decide) (by decide)) ?_
        intro g o
        refine c_X7_unit_70 (c_X7_unit_160 (fin g (RcP.ok rfl ?_)))
        rw [List.append_assoc] at o
        exact o
  · rw [if_neg q33] at fin
    have n33 : ¬ nI (sgn T ln (pb T ln a)) = 33 := fun z => q33 (e33.mp z)
    by_cases q40 : sgn T ln (pb T ln a) = 40
    · rw [if_pos q40] at fin
      have y40 := e40.mpr q40
      have l := sgn_pos (T := T) (ln := ln) (a := pb T ln a) (by omega)
      cases k with
      | zero => exact u12 (d := D + 2) (P112 := fun _ => False) (P94 := fun _ => False) (P60 := fun _ => False) hA0 (fun z => absurd z n33) (fun z => absurd z n33) (fun z => absurd z n33) (fun _ z => absurd rfl (e6.mp z)) (fun _ z => absurd rfl (e6.mp z)) (fun _ _ => c_X7_unit_160 (fin _ (RcP.bad rfl (o.wr (by omega)).dm))) (fun _ z => absurd y40 z) (fun _ z => absurd y40 z) (fun _ z => absurd y40 z)
      | succ k' =>
        have ek : nI (6 - (k' + 1)) + 1 = nI (6 - k') := by
          rw [nI_1]
          congr 1
          omega
        have fin : ∀ g, RcP h0 T ln c (clsF T ln 41 (cdN T ln k' (uN T ln k' (pb T ln a + 1)))) g → Q none g := fin
        refine u12 (d := D + 2) (P112 := fun _ => False) (P60 := fun _ => False) hA0 (fun z => absurd z n33) (fun z => absurd z n33) (fun z => absurd z n33) (fun _ _ => by rw [ek, o.2.2.1, nI_1]; exact hC k' rfl _ (pb T ln a + 1) c (o.at (by omega)) (by omega)) ?_ (fun _ z => absurd (e6.mpr (by omega)) z) (fun _ z => absurd y40 z) (fun _ z => absurd y40 z) (fun _ z => absurd y40 z)
        intro _ _ g r
        have gd : Gd pS ln (pb T ln a + 1) 0 (cdN T ln k' (uN T ln k' (pb T ln a + 1))) := cond_gd (uN_gd k') (uN_gd k' (pb T ln a + 1) (by omega))
        cases e : (cdN T ln k' (uN T ln k' (pb T ln a + 1))).1 with
        | none =>
          refine c_X7_unit_97 hA0 RO_rm hcs0 (s_expect_dm (s := 41) (d := D) hA0 hF t (r.of_none e) (by decide) (by decide) rfl) ?_
          intro g w
          refine c_X7_unit_103 (c_X7_unit_160 (fin g ?_))
          unfold clsF
          rw [bnd_none e]
          exact RcP.bad rfl w.dm
        | some c' =>
          obtain ⟨g1, g2, g3⟩ := gd.2 c' e
          have lc : (c ++ c').length ≤ 200 := by
            rw [List.length_append]
            have := gd.1
            omega
          refine c_X7_unit_97 hA0 RO_rm hcs0 (s_expect (s := 41) (d := D) hA0 hF t (r.of_some e) lc (by decide) (by decide)) ?_
          intro g w
          refine c_X7_unit_103 (c_X7_unit_160 (fin g ?_))
          unfold clsF
          rw [bnd_some e]
          by_cases qc : sgn T ln (pb T ln (cdN T ln k' (uN T ln k' (pb T ln a + 1))).2) = 41
          · rw [if_pos qc] at w ⊢
            exact RcP.ok rfl w
          · rw [if_neg qc] at w ⊢
            exact RcP.bad rfl w.dm
    · rw [if_neg q40] at fin
      have n40 : ¬ nI (sgn T ln (pb T ln a)) = 40 := fun z => q40 (e40.mp z)
      refine u12 (d := D + 2) (P94 := fun _ => False) (P60 := fun _ => False) hA0 (fun z => absurd z n33) (fun z => absurd z n33) (fun z => absurd z n33) (fun z => absurd z n40) (fun z => absurd z n40) (fun z => absurd z n40) (fun _ _ _ => hS _ (pb T ln a) c o (by omega)) ?_ (fun _ _ z => absurd rfl z)
      intro _ _ _ g r
      have gd := sumN_gd (T := T) (ln := ln) (k := k) (a := pb T ln a) p2
      cases e : (sumN T ln k (pb T ln a)).1 with
      | none =>
        rw [bnd_none e] at fin
        have dm := r.of_none e
        refine c_X7_unit_115 hA0 RO_rm hcs0 (s_next_dm (d := D + 1) hA0 hF t dm) ?_
        rintro _ g ⟨⟨s, s1, rfl, s2⟩, rfl⟩
        obtain ⟨-, -, m3, -⟩ := mul_dm s2
        refine c_X7_unit_119 RO_rm hcs0 (s_comparing (d := D + 2) s1) ?_
        rintro _ g ⟨rfl, rfl⟩
        rw [m3]
        exact c_X7_unit_122 (d := D + 2) (P150 := fun _ => False) hA0 RO_rm hcs0 (fun z => absurd rfl z) (fun z => absurd rfl z) (fun _ => c_X7_unit_160 (fin _ (RcP.bad rfl dm.wr.dm)))
      | some c' =>
        rw [bnd_some e] at fin
        obtain ⟨g1, g2, g3⟩ := gd.2 c' e
        exact u115 hA0 hF t hk hS (r.of_some e) (by rw [List.length_append]; omega) (fun g r => fin g r.pre)
end OPS

/-! rule text: the class reads it whole -/
section RR
variable {T : Nat → Nat} {ln : Nat}
def pT (w : Nat) : Prop := w < 2 ^ 20
theorem pS_T {w : Nat} (h : pS w) : pT w := h.2
theorem mem_app {p : Nat → Prop} {c c' : List Nat} (h1 : ∀ w, w ∈ c → p w) (h2 : ∀ w, w ∈ c' → p w) : ∀ w, w ∈ c ++ c' → p w := fun w hw => by
  rcases List.mem_append.mp hw with hw | hw
  · exact h1 w hw
  · exact h2 w hw
theorem mem_one {p : Nat → Prop} {x : Nat} (h : p x) : ∀ w, w ∈ [x] → p w := fun w hw => by
  rw [List.mem_singleton.mp hw]
  exact h
theorem cdN_gd {k a : Nat} {r : Res} (hr : Gd pS ln a 0 r) : Gd pS ln a 0 (cdN T ln k r) := cond_gd (uN_gd k) hr
theorem gd_gd {a : Nat} {r : Res} (hr : Gd pS ln a 0 r) : Gd pT ln a 1 (gdF T ln r) := by
  refine Gd.bnd hr.1 (fun c e => ?_)
  obtain ⟨g1, g2, g3⟩ := hr.2 c e
  obtain ⟨b1, b2, b3⟩ := pb_le (T := T) (ln := ln) (a := r.2) hr.1
  by_cases q : sgn T ln (pb T ln r.2) = 63
  · rw [if_pos q]
    have l := sgn_pos (T := T) (ln := ln) (a := pb T ln r.2) (by omega)
    have g := sumN_gd (T := T) (ln := ln) (k := 6) (a := pb T ln r.2 + 1) (by omega)
    refine Gd.bnd g.1 (fun c' e' => ?_)
    obtain ⟨i1, i2, i3⟩ := g.2 c' e'
    refine ⟨g.1, fun c2 e2 => ?_⟩
    cases e2
    refine ⟨?_, ?_, mem_app (mem_app (mem_app (fun w hw => pS_T (g3 w hw)) (mem_one (by decide : (12 : Nat) < 2 ^ 20))) (fun w hw => pS_T (i3 w hw))) (mem_one (by decide : (13 : Nat) < 2 ^ 20))⟩
    · show a + (c ++ [12] ++ c' ++ [13]).length ≤ (sumN T ln 6 (pb T ln r.2 + 1)).2 + 1
      rw [List.length_append, List.length_append, List.length_append]
      show a + (c.length + 1 + c'.length + 1) ≤ _
      omega
    · show a < (sumN T ln 6 (pb T ln r.2 + 1)).2
      omega
  · rw [if_neg q]
    exact Gd.bad b2
theorem bod_gd {a : Nat} (ha : a ≤ ln) : Gd pT ln a 1 (bodF T ln a) := by
  obtain ⟨p1, p2, p3⟩ := pb_le (T := T) (ln := ln) (a := a) ha
  have wk : ∀ {r : Res} {m : Nat}, Gd pT ln (pb T ln a) m r → Gd pT ln a m r := fun g => ⟨g.1, fun c e => ⟨by have := (g.2 c e).1; omega, by have := (g.2 c e).2.1; omega, (g.2 c e).2.2⟩⟩
  unfold bodF
  by_cases q : sgn T ln (pb T ln a) = 33 ∨ sgn T ln (pb T ln a) = 40
  · rw [if_pos q]
    exact wk (gd_gd (cdN_gd (uN_gd 6 _ p2)))
  · rw [if_neg q]
    have g := sumN_gd (T := T) (ln := ln) (k := 6) (a := pb T ln a) p2
    refine wk (Gd.bnd g.1 (fun c e => ?_))
    obtain ⟨g1, g2, g3⟩ := g.2 c e
    by_cases qc : (cmpS (sgn T ln (pb T ln (sumN T ln 6 (pb T ln a)).2))).isSome = true
    · rw [if_pos qc]
      have gc := cdN_gd (T := T) (k := 6) (cmp_gd (T := T) (ln := ln) (k := 6) (b := (sumN T ln 6 (pb T ln a)).2) g.1)
      refine gd_gd (Gd.bnd gc.1 (fun c' e' => ?_))
      obtain ⟨i1, i2, i3⟩ := gc.2 c' e'
      refine ⟨gc.1, fun c2 e2 => ?_⟩
      cases e2
      refine ⟨?_, ?_, mem_app g3 i3⟩
      · show pb T ln a + (c ++ c').length ≤ (cdN T ln 6 (cmpF T ln 6 (sumN T ln 6 (pb T ln a)).2)).2 + 0
        rw [List.length_append]
        omega
      · show pb T ln a < (cdN T ln 6 (cmpF T ln 6 (sumN T ln 6 (pb T ln a)).2)).2
        omega
    · rw [if_neg qc]
      refine ⟨g.1, fun c2 e2 => ?_⟩
      cases e2
      refine ⟨?_, g2, mem_app (fun w hw => pS_T (g3 w hw)) (mem_one (by decide : (13 : Nat) < 2 ^ 20))⟩
      show pb T ln a + (c ++ [13]).length ≤ (sumN T ln 6 (pb T ln a)).2 + 1
      rw [List.length_append]
      show pb T ln a + (c.length + 1) ≤ _
      omega
theorem clau_gd {a : Nat} (ha : a ≤ ln) : Gd pT ln a 0 (clauF T ln a) := by
  obtain ⟨p1, p2, p3⟩ := pb_le (T := T) (ln := ln) (a := a) ha
  unfold clauF
  by_cases q : sgn T ln (pb T ln a) = 121
  · rw [if_pos q]
    have l := sgn_pos (T := T) (ln := ln) (a := pb T ln a) (by omega)
    obtain ⟨b1, b2, b3⟩ := pb_le (T := T) (ln := ln) (a := pb T ln a + 1) (by omega)
    by_cases q2 : sgn T ln (pb T ln (pb T ln a + 1)) = 58
    · rw [if_pos q2]
      have l2 := sgn_pos (T := T) (ln := ln) (a := pb T ln (pb T ln a + 1)) (by omega)
      have g := bod_gd (T := T) (ln := ln) (a := pb T ln (pb T ln a + 1) + 1) (by omega)
      exact ⟨g.1, fun c e => ⟨by have := (g.2 c e).1; omega, by have := (g.2 c e).2.1; omega, (g.2 c e).2.2⟩⟩
    · rw [if_neg q2]
      exact Gd.bad b2
  · rw [if_neg q]
    exact Gd.bad p2
theorem cmpF_pb {k b : Nat} (hb : b ≤ ln) : cmpF T ln k (pb T ln b) = cmpF T ln k b := by
  unfold cmpF
  rw [pb_pb hb]
def FinP (h0 : AH) (ln : Nat) (c : List Nat) (r : Res) (y : Int32) (g : AH) : Prop := F27 h0 g ∧ match r.1 with
  | none => y = nI r.2
  | some c' => if r.2 < ln then y = nI r.2 else y = -1 ∧ CodeOK g (c ++ c') ∧ (c ++ c').length ≤ 200
theorem FinP.pre {h0 g : AH} {c w : List Nat} {r : Res} {y : Int32} (p : FinP h0 ln (c ++ w) r y g) : FinP h0 ln c (pre w r) y g := by
  refine ⟨p.1, ?_⟩
  have p2 := p.2
  cases e : r.1 with
  | none =>
    obtain ⟨e1, e2⟩ := pre_none (w := w) e
    rw [e] at p2
    rw [e1, e2]
    exact p2
  | some c' =>
    rw [e] at p2
    rw [pre_some e]
    show if r.2 < ln then y = nI r.2 else y = -1 ∧ CodeOK g (c ++ (w ++ c')) ∧ (c ++ (w ++ c')).length ≤ 200
    rw [← List.append_assoc]
    exact p2
end RR
section OPS
variable {X : CX} {D nx sz : Nat} {h h0 : AH} {T : Nat → Nat} {ln a p : Nat} {c : List Nat}
theorem s_write_wr {x1 x2 : Int32} (hA0 : 91 ≤ nx) (hF : Fx h0) (o : Wr h0 h ln p) : Mk X D m_X7_write [.ref 27, .int x1, .int x2] h nx sz (RV fun g => Wr h0 g ln p) := by
  obtain ⟨z, z1, z2⟩ := o.2.2.2.2
  refine e_X7_write (c_X7_write_0 hA0 (hF.of o.1.1) (fun _ => ⟨rfl, o⟩) (fun q => ?_) (fun q => ⟨rfl, (o.1.set (by decide)).set28, o.2.1, o.2.2.1, o.2.2.2.1, z + 1, ?_, ?_⟩))
  · rw [z2] at q ⊢
    have q : ¬ nI 200 ≤ nI z := q
    rw [le_nI (by decide) (by omega)] at q
    exact vin (by omega) (by decide)
  · rw [z2] at q
    have q : ¬ nI 200 ≤ nI z := q
    rw [le_nI (by decide) (by omega)] at q
    omega
  · refine Eq.trans (b := h.1 27 2 + 1) rfl ?_
    rw [z2, nI_1]
theorem s_sum_wr {x1 : Int32} (hA0 : 91 ≤ nx) (o : Wr h0 h ln p) : Mk X (D + 1) m_X7_sum [.ref 27, .int x1] h nx sz (RVE h) := by
  have w1 : ¬ h.1 27 4 = 0 := by
    rw [o.2.2.2.1]
    decide
  have no : ¬ (200 : Int32) ≤ 0 := by decide
  exact e_X7_sum (c_X7_sum_0 (c_X7_sum_7 (d := D) (P24 := fun _ => False) hA0 RO_rm hcs0 (fun z => absurd z no) (fun _ _ => ⟨rfl, rfl⟩) (fun _ z => absurd z w1) (fun _ z => absurd z w1)))
theorem s_next_wr (hA0 : 91 ≤ nx) (hF : Fx h0) (o : Wr h0 h ln p) : Mk X (D + 1) m_X7_next [.ref 27] h nx sz (RE 0 h) := by
  have w1 : ¬ h.1 27 4 = 0 := by
    rw [o.2.2.2.1]
    decide
  exact e_X7_next (c_X7_next_0 (d := D) (P18 := fun _ _ => False) hA0 (hF.of o.1.1) RO_rm hcs0 (fun z => absurd z w1) (fun z => absurd z w1) (fun _ => ⟨_, rfl, rfl, rfl⟩))
theorem s_readR (hA0 : 91 ≤ nx) (hF : Fx h) (t : Txt h T ln) : Mk X (D + 20) m_X7_read [.ref 27] h nx sz (RI fun y g => F27 h g ∧ match (ruF T ln).1 with
    | none => y = nI (ruF T ln).2
    | some c => y = -1 ∧ CodeOK g c ∧ c.length ≤ 200) := by
  have t1 := t.1
  have hB := t.2.2.1
  have hS : SumK X (D + 19) nx sz h T ln 6 := s_sumK (D := D + 2) hA0 hF t 6 (by decide)
  have hS' : SumK X (D + 17) nx sz h T ln 6 := s_sumK (D := D) hA0 hF t 6 (by decide)
  have hU : UniK X (D + 18) nx sz h T ln 6 := s_unitK hA0 hF t 6 (by decide) D
  have hC := fun x2 hx2 g a c r0 hr0 (o : Oc h g ln a c) hc => s_cond (X := X) (D := D + 15) (nx := nx) (sz := sz) (k := 6) hA0 hF t (by decide) hS' hU x2 hx2 r0 hr0 o hc
  have key : ∀ (m b : Nat) (c : List Nat) (f i : Nat) (g : AH) (Q : Option Value → AH → Prop), 200 - b = m → (∀ y g, FinP h ln c (clsN T ln f b) y g → Q (some (.int y)) g) → Oc h g ln b c → c.length ≤ b → 2 * i ≤ b → 200 ≤ b + f → VM X m_X7_read (D + 20) nx sz Q 17 [some (.ref 27), some (.int (nI i)), none, none] [] g := by
    intro m
    induction m using Nat.strongRecOn with
    | ind m ihm =>
      intro b c f i g Q hm fin o hc hi hf
      have hb := o.2.1
      have no : ¬ (200 : Int32) ≤ nI i := fun z => by
        have z : nI 200 ≤ nI i := z
        rw [le_nI (by decide) (by omega)] at z
        omega
      have gdc := clau_gd (T := T) (ln := ln) (a := b) hb
      -- a fault
      have p107d : ∀ g p, (clauF T ln b).1 = none → (clauF T ln b).2 = p → Dm h g T ln p → VM X m_X7_read (D + 20) nx sz Q 107 [some (.ref 27), some (.int (nI i)), none, none] [] g := fun g p e1 e2 dm => by
        have e3 : (clsN T ln f b).1 = none ∧ (clsN T ln f b).2 = p := by
          cases f with
          | zero => exact ⟨e1, e2⟩
          | succ f =>
            unfold clsN
            rw [bnd_none e1]
            exact ⟨rfl, e2⟩
        have fin : ∀ g, F27 h g → Q (some (.int (nI p))) g := fun g fg => fin _ g ⟨fg, by rw [e3.1, e3.2]⟩
        refine c_X7_read_107 hA0 RO_rm hcs0 (s_write_dm (d := D + 19) hA0 hF dm) ?_
        intro g dm
        refine c_X7_read_114 hA0 RO_rm hcs0 (s_next_dm (d := D + 18) hA0 hF t dm) ?_
        rintro _ g ⟨⟨s, s1, rfl, s2⟩, rfl⟩
        obtain ⟨-, -, -, -, -, m1, -⟩ := mul_dm s2
        have n59 : ¬ nI s = 59 := fun z => m1 ((nI_eq (b := 59) (by omega) (by decide)).mp z)
        have fd := fin g dm.1
        rw [← dm.2.2.1] at fd
        refine c_X7_read_118 hA0 (hF.of dm.1.1) (fun z => absurd z n59) (fun _ _ => fd) (fun _ z1 z2 => ?_) (fun _ _ _ => fd)
        rcases dm.2.2.2.1 with w | ⟨w, q⟩
        · rw [w] at z1
          cases z1
        · have l := sgn_pos (T := T) (ln := ln) (a := p) (by have := isD_iff.mp q; omega)
          rw [(dm.1.txt t).2.1, dm.2.2.1, le_nI (by omega) (by omega)] at z2
          omega
      -- none
      have p107 : ∀ g b' w0, clauF T ln b = (some (w0 ++ [13]), b') → ∀ b'', b'' ≤ ln → pb T ln b'' = pb T ln b' → c.length + w0.length < 200 → Oc h g ln b'' (c ++ w0) → VM X m_X7_read (D + 20) nx sz Q 107 [some (.ref 27), some (.int (nI i)), none, none] [] g := fun g b' w0 e b'' hb'' ep hl o => by
        have e1 : (clauF T ln b).1 = some (w0 ++ [13]) := by rw [e]
        have e2 : (clauF T ln b).2 = b' := by rw [e]
        obtain ⟨g1, g2, -⟩ := gdc.2 _ e1
        have g3 := gdc.1
        rw [e2] at g1 g2 g3
        rw [List.length_append] at g1
        have g1 : b + (w0.length + 1) ≤ b' + 0 := g1
        obtain ⟨b1, b2, b3⟩ := pb_le (T := T) (ln := ln) (a := b') g3
        refine c_X7_read_107 hA0 RO_rm hcs0 (s_write (d := D + 19) (s := 13) (v := 0) hA0 hF o (by rw [List.length_append]; exact hl) (by decide) (by decide)) ?_
        intro g o
        refine c_X7_read_114 hA0 RO_rm hcs0 (s_next (d := D + 18) hA0 hF t o) ?_
        rintro _ g ⟨rfl, o⟩
        rw [ep] at o ⊢
        have s1 := sgn_le (a := pb T ln b') hB
        have e59 : nI (sgn T ln (pb T ln b')) = 59 ↔ sgn T ln (pb T ln b') = 59 := nI_eq (b := 59) (by omega) (by decide)
        cases f with
        | zero => omega
        | succ f =>
        unfold clsN at fin
        rw [bnd_some e1, e2] at fin
        have ew : c ++ w0 ++ [16 * 0 + 13] = c ++ (w0 ++ [13]) := List.append_assoc _ _ _
        rw [ew] at o
        by_cases q : sgn T ln (pb T ln b') = 59
        · rw [if_pos q] at fin
          have l := sgn_pos (T := T) (ln := ln) (a := pb T ln b') (by omega)
          refine c_X7_read_118 hA0 (hF.of o.1.1) (fun _ => ?_) (fun z => absurd (e59.mpr q) z) (fun z => absurd (e59.mpr q) z) (fun z => absurd (e59.mpr q) z)
          rw [o.2.2.1, nI_1, nI_1]
          refine ihm (200 - (pb T ln b' + 1)) (by omega) (pb T ln b' + 1) (c ++ (w0 ++ [13])) f (i + 1) _ Q rfl (fun y g r => fin y g ?_) (o.at (by omega)) ?_ (by omega) (by omega)
          · exact FinP.pre r
          · rw [List.length_append, List.length_append]
            show c.length + (w0.length + 1) ≤ _
            omega
        · rw [if_neg q] at fin
          have ha := o.2.2.1
          have le : g.1 23 1 ≤ g.1 27 3 ↔ ln ≤ pb T ln b' := by
            rw [(o.1.txt t).2.1, ha]
            exact le_nI (by omega) (by omega)
          refine c_X7_read_118 hA0 (hF.of o.1.1) (fun z => absurd (e59.mp z) q) (fun _ z => absurd o.2.2.2.1 z) (fun _ _ z => ?_) (fun _ _ z => ?_)
          · rw [le] at z
            refine fin _ g ⟨o.1, ?_⟩
            show if pb T ln b' < ln then _ else _
            rw [if_neg (by omega)]
            refine ⟨rfl, o.2.2.2.2, ?_⟩
            rw [List.length_append, List.length_append]
            show c.length + (w0.length + 1) ≤ _
            omega
          · rw [le] at z
            rw [ha]
            refine fin _ g ⟨o.1, ?_⟩
            show if pb T ln b' < ln then _ else _
            rw [if_pos (by omega)]
      -- wrong already
      have p36w : ∀ g p, (clauF T ln b).1 = none → (clauF T ln b).2 = p → Wr h g ln p → VM X m_X7_read (D + 20) nx sz Q 36 [some (.ref 27), some (.int (nI i)), none, none] [] g := fun g p e1 e2 w => by
        refine c_X7_read_36 hA0 RO_rm hcs0 (s_next_wr (D := D + 18) hA0 hF w) ?_
        rintro _ g ⟨rfl, rfl⟩
        refine c_X7_read_40 hA0 RO_rm hcs0 (fun z => by cases z) (fun _ z => by cases z) (fun _ _ => s_sum_wr (D := D + 18) hA0 w) ?_
        rintro _ _ g rfl
        refine c_X7_read_68 (d := D + 19) (P86 := fun _ => False) hA0 RO_rm hcs0 (fun z => by cases z) (fun z => by cases z) (fun _ => s_next_wr (D := D + 18) hA0 hF w) ?_
        rintro _ _ g ⟨rfl, rfl⟩
        refine c_X7_read_76 RO_rm hcs0 (s_comparing (d := D + 19) (s := 0) (by decide)) ?_
        rintro _ g ⟨rfl, rfl⟩
        exact c_X7_read_79 (d := D + 19) (P86 := fun _ => False) hA0 RO_rm hcs0 (fun _ => p107d _ p e1 e2 w.dm) (fun z => absurd rfl z) (fun z => absurd rfl z)
      have p95w : ∀ g p, (clauF T ln b).1 = none → (clauF T ln b).2 = p → Wr h g ln p → VM X m_X7_read (D + 20) nx sz Q 95 [some (.ref 27), some (.int (nI i)), none, none] [] g := fun g p e1 e2 w => by
        refine c_X7_read_95 hA0 RO_rm hcs0 (s_write_wr (D := D + 19) hA0 hF w) ?_
        intro g w
        refine c_X7_read_102 hA0 RO_rm hcs0 (s_sum_wr (D := D + 18) hA0 w) ?_
        rintro g rfl
        exact p107d _ p e1 e2 w.dm
      -- behind a condition
      have p89 : ∀ g r, clauF T ln b = gdF T ln r → Gd pS ln (b + 2) 0 r → RcP h T ln c r g → VM X m_X7_read (D + 20) nx sz Q 89 [some (.ref 27), some (.int (nI i)), none, none] [] g := fun g r ec gr rc => by
        cases e : r.1 with
        | none =>
          have ec : clauF T ln b = (none, r.2) := by rw [ec]; exact bnd_none e
          refine c_X7_read_89 hA0 RO_rm hcs0 (s_expect_dm (s := 63) (d := D + 17) hA0 hF t (rc.of_none e) (by decide) (by decide) rfl) ?_
          intro g w
          exact p95w g r.2 (by rw [ec]) (by rw [ec]) w
        | some c' =>
          obtain ⟨g1, g2, g3⟩ := gr.2 c' e
          have g4 := gr.1
          have ec : clauF T ln b = if sgn T ln (pb T ln r.2) = 63 then (bnd (sumN T ln 6 (pb T ln r.2 + 1)) fun c2 b' => (some (c' ++ [12] ++ c2 ++ [13]), b')) else (none, pb T ln r.2) := by rw [ec]; exact bnd_some e
          have lc : (c ++ c').length ≤ 200 := by
            rw [List.length_append]
            omega
          refine c_X7_read_89 hA0 RO_rm hcs0 (s_expect (s := 63) (d := D + 17) hA0 hF t (rc.of_some e) lc (by decide) (by decide)) ?_
          intro g w
          by_cases q : sgn T ln (pb T ln r.2) = 63
          · rw [if_pos q] at w ec
            have l := sgn_pos (T := T) (ln := ln) (a := pb T ln r.2) (by omega)
            obtain ⟨b1, b2, b3⟩ := pb_le (T := T) (ln := ln) (a := r.2) g4
            refine c_X7_read_95 hA0 RO_rm hcs0 (s_write (d := D + 19) (s := 12) (v := 0) hA0 hF w (by rw [List.length_append]; omega) (by decide) (by decide)) ?_
            intro g o
            refine c_X7_read_102 hA0 RO_rm hcs0 (hS g (pb T ln r.2 + 1) _ o ?_) ?_
            · rw [List.length_append, List.length_append]
              show c.length + c'.length + 1 ≤ _
              omega
            intro g rc
            have gs := sumN_gd (T := T) (ln := ln) (k := 6) (a := pb T ln r.2 + 1) (by omega)
            cases e2 : (sumN T ln 6 (pb T ln r.2 + 1)).1 with
            | none =>
              rw [bnd_none e2] at ec
              exact p107d g _ (by rw [ec]) (by rw [ec]) (rc.of_none e2)
            | some c2 =>
              rw [bnd_some e2] at ec
              obtain ⟨i1, i2, i3⟩ := gs.2 c2 e2
              refine p107 g _ (c' ++ [12] ++ c2) ec _ gs.1 rfl ?_ ?_
              · rw [List.length_append, List.length_append]
                show c.length + (c'.length + 1 + c2.length) < 200
                have := gs.1
                omega
              · have o := rc.of_some e2
                have ew : c ++ c' ++ [16 * 0 + 12] ++ c2 = c ++ (c' ++ [12] ++ c2) := by simp only [List.append_assoc]
                rw [ew] at o
                exact o
          · rw [if_neg q] at w ec
            exact p95w g (pb T ln r.2) (by rw [ec]) (by rw [ec]) w
      refine c_X7_read_17 (d := D + 19) hA0 (hF.of o.1.1) RO_rm hcs0 (fun z => absurd z no) (fun z => absurd z no) (fun z => absurd z no) (fun _ => s_expect (s := 121) (d := D + 17) hA0 hF t o (by omega) (by decide) (by decide)) ?_
      intro _ g w
      obtain ⟨p1, p2, p3⟩ := pb_le (T := T) (ln := ln) (a := b) hb
      by_cases q : sgn T ln (pb T ln b) = 121
      · rw [if_pos q] at w
        have l := sgn_pos (T := T) (ln := ln) (a := pb T ln b) (by omega)
        refine c_X7_read_30 hA0 RO_rm hcs0 (s_expect (s := 58) (d := D + 17) hA0 hF t w (by omega) (by decide) (by decide)) ?_
        intro g w
        obtain ⟨b1, b2, b3⟩ := pb_le (T := T) (ln := ln) (a := pb T ln b + 1) (by omega)
        by_cases q2 : sgn T ln (pb T ln (pb T ln b + 1)) = 58
        · rw [if_pos q2] at w
          have l2 := sgn_pos (T := T) (ln := ln) (a := pb T ln (pb T ln b + 1)) (by omega)
          have ec : clauF T ln b = bodF T ln (pb T ln (pb T ln b + 1) + 1) := by
            unfold clauF
            rw [if_pos q, if_pos q2]
          have h2 : b + 2 ≤ pb T ln (pb T ln b + 1) + 1 := by omega
          generalize pb T ln (pb T ln b + 1) + 1 = a2 at *
          have ha2 := w.2.1
          refine c_X7_read_36 hA0 RO_rm hcs0 (s_next (d := D + 18) hA0 hF t w) ?_
          rintro _ g ⟨rfl, o⟩
          obtain ⟨d1, d2, d3⟩ := pb_le (T := T) (ln := ln) (a := a2) ha2
          have s1 := sgn_le (a := pb T ln a2) hB
          have e33 : nI (sgn T ln (pb T ln a2)) = 33 ↔ sgn T ln (pb T ln a2) = 33 := nI_eq (b := 33) (by omega) (by decide)
          have e40 : nI (sgn T ln (pb T ln a2)) = 40 ↔ sgn T ln (pb T ln a2) = 40 := nI_eq (b := 40) (by omega) (by decide)
          unfold bodF at ec
          have wk : ∀ {r : Res}, Gd pS ln (pb T ln a2) 0 r → Gd pS ln (b + 2) 0 r := fun g => ⟨g.1, fun c e => ⟨by have := (g.2 c e).1; omega, by have := (g.2 c e).2.1; omega, (g.2 c e).2.2⟩⟩
          have cnd : sgn T ln (pb T ln a2) = 33 ∨ sgn T ln (pb T ln a2) = 40 → VM X m_X7_read (D + 20) nx sz Q 68 [some (.ref 27), some (.int (nI i)), none, some (.int 0)] [] g := fun qq => by
            rw [if_pos qq] at ec
            refine c_X7_read_68 (P73 := fun _ _ => False) hA0 RO_rm hcs0 (fun _ => hC 0 (by decide) g (pb T ln a2) c _ rfl o (by omega)) ?_ (fun z => absurd rfl z) (fun z => absurd rfl z)
            intro _ g rc
            exact p89 g _ ec (wk (cdN_gd (uN_gd 6 _ d2))) rc
          refine c_X7_read_40 hA0 RO_rm hcs0 (fun z => cnd (Or.inl (e33.mp z))) (fun _ z => cnd (Or.inr (e40.mp z))) (fun _ _ => hS g (pb T ln a2) c o (by omega)) ?_
          intro z1 z2 g rc
          have qq : ¬ (sgn T ln (pb T ln a2) = 33 ∨ sgn T ln (pb T ln a2) = 40) := fun z => z.elim (fun y => z1 (e33.mpr y)) (fun y => z2 (e40.mpr y))
          rw [if_neg qq] at ec
          have gs := sumN_gd (T := T) (ln := ln) (k := 6) (a := pb T ln a2) d2
          cases e : (sumN T ln 6 (pb T ln a2)).1 with
          | none =>
            rw [bnd_none e] at ec
            have dm := rc.of_none e
            refine c_X7_read_68 (d := D + 19) (P86 := fun _ => False) hA0 RO_rm hcs0 (fun z => by cases z) (fun z => by cases z) (fun _ => s_next_dm (d := D + 18) hA0 hF t dm) ?_
            rintro _ _ g ⟨⟨s, s1, rfl, s2⟩, rfl⟩
            obtain ⟨-, -, m3, -⟩ := mul_dm s2
            refine c_X7_read_76 RO_rm hcs0 (s_comparing (d := D + 19) s1) ?_
            rintro _ g ⟨rfl, rfl⟩
            rw [m3]
            exact c_X7_read_79 (d := D + 19) (P86 := fun _ => False) hA0 RO_rm hcs0 (fun _ => p107d _ _ (by rw [ec]) (by rw [ec]) dm) (fun z => absurd rfl z) (fun z => absurd rfl z)
          | some c' =>
            rw [bnd_some e] at ec
            obtain ⟨g1, g2, g3⟩ := gs.2 c' e
            have g4 := gs.1
            have o := rc.of_some e
            refine c_X7_read_68 (d := D + 19) (P86 := fun _ => False) hA0 RO_rm hcs0 (fun z => by cases z) (fun z => by cases z) (fun _ => s_next (d := D + 18) hA0 hF t o) ?_
            rintro _ _ g ⟨rfl, o⟩
            have s2 := sgn_le (a := pb T ln (sumN T ln 6 (pb T ln a2)).2) hB
            refine c_X7_read_76 RO_rm hcs0 (s_comparing (d := D + 19) s2) ?_
            rintro _ g ⟨rfl, rfl⟩
            obtain ⟨f1, f2, f3⟩ := pb_le (T := T) (ln := ln) (a := (sumN T ln 6 (pb T ln a2)).2) g4
            cases qc : cmpS (sgn T ln (pb T ln (sumN T ln 6 (pb T ln a2)).2)) with
            | none =>
              rw [qc] at ec
              have ec : clauF T ln b = (some (c' ++ [13]), (sumN T ln 6 (pb T ln a2)).2) := ec
              exact c_X7_read_79 (d := D + 19) (P86 := fun _ => False) hA0 RO_rm hcs0 (fun _ => p107 _ _ c' ec _ f2 (pb_pb g4) (by omega) o) (fun z => absurd rfl z) (fun z => absurd rfl z)
            | some x =>
              rw [qc] at ec
              have ec : clauF T ln b = gdF T ln (pre c' (cdN T ln 6 (cmpF T ln 6 (sumN T ln 6 (pb T ln a2)).2))) := ec
              have gp : Gd pS ln (pb T ln a2) 0 (pre c' (cdN T ln 6 (cmpF T ln 6 (sumN T ln 6 (pb T ln a2)).2))) := by
                have gc := cdN_gd (T := T) (k := 6) (cmp_gd (T := T) (ln := ln) (k := 6) (b := (sumN T ln 6 (pb T ln a2)).2) g4)
                refine Gd.bnd gc.1 (fun c2 e2 => ?_)
                obtain ⟨i1, i2, i3⟩ := gc.2 c2 e2
                refine ⟨gc.1, fun c3 e3 => ?_⟩
                cases e3
                refine ⟨?_, ?_, mem_app g3 i3⟩
                · show pb T ln a2 + (c' ++ c2).length ≤ (cdN T ln 6 (cmpF T ln 6 (sumN T ln 6 (pb T ln a2)).2)).2 + 0
                  rw [List.length_append]
                  omega
                · show pb T ln a2 < (cdN T ln 6 (cmpF T ln 6 (sumN T ln 6 (pb T ln a2)).2)).2
                  omega
              have nm : ¬ ovI (some x) = -1 := nI_m1 (by have := (cmp_ok qc).1.2; omega)
              refine c_X7_read_79 hA0 RO_rm hcs0 (fun z => absurd z nm) (fun _ => hC 1 (by decide) _ (pb T ln (sumN T ln 6 (pb T ln a2)).2) (c ++ c') _ rfl o ?_) ?_
              · rw [List.length_append]
                omega
              intro _ g rc
              rw [if_neg (by decide), cmpF_pb g4] at rc
              exact p89 g _ ec (wk gp) rc.pre
        · rw [if_neg q2] at w
          have ec : clauF T ln b = (none, pb T ln (pb T ln b + 1)) := by
            unfold clauF
            rw [if_pos q, if_neg q2]
          exact p36w g _ (by rw [ec]) (by rw [ec]) w
      · rw [if_neg q] at w
        have ec : clauF T ln b = (none, pb T ln b) := by
          unfold clauF
          rw [if_neg q]
        refine c_X7_read_30 hA0 RO_rm hcs0 (s_expect_dm (s := 58) (d := D + 17) hA0 hF t w.dm (by decide) (by decide) rfl) ?_
        intro g w
        exact p36w g _ (by rw [ec]) (by rw [ec]) w
  refine e_X7_read (c_X7_read_0 hA0 ?_)
  have o : Oc h (setI (setI (setI h 27 2 0) 27 3 0) 27 4 0) ln 0 [] := ⟨((F27.set ⟨rfl, fun _ _ _ _ => rfl⟩ (by decide)).set (by decide)).set (by decide), Nat.zero_le _, rfl, rfl, rfl, fun i hi => by cases hi⟩
  refine key 200 0 [] 200 0 _ _ rfl (fun y g r => ⟨_, rfl, r.1, ?_⟩) o (by decide) (by decide) (by omega)
  have r2 := r.2
  unfold ruF
  cases e : (clsN T ln 200 0).1 with
  | none =>
    rw [e] at r2
    rw [bnd_none e]
    exact r2
  | some c =>
    rw [e] at r2
    rw [bnd_some e]
    have r2 : if (clsN T ln 200 0).2 < ln then y = nI (clsN T ln 200 0).2 else y = -1 ∧ CodeOK g c ∧ c.length ≤ 200 := r2
    by_cases q : (clsN T ln 200 0).2 < ln
    · rw [if_pos q] at r2 ⊢
      exact r2
    · rw [if_neg q] at r2 ⊢
      exact r2
end OPS

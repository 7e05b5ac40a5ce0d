/-! rule text: the other side's sums -/
section OPS
variable {X : CX} {D nx sz : Nat} {h h0 : AH} {T : Nat → Nat} {p : Nat → Int32} {rt b0 ln a k q : Nat} {c : List Nat}
/-- the letters' worth -/
def Let (h : AH) (p : Nat → Int32) : Prop := ∀ k, k < 9 → h.1 72 (ltrL.getD k 0) = p k
theorem FM.lett {g : AH} (a : FM h g) (l : Let h p) : Let g p := fun k hk => by
  rw [a.2 72 _ (by omega)]
  exact l k hk
theorem ltr_get {s k : Nat} (hs : s < 256) (h : ltr s = some k) : ltrL.getD k 0 = s ∧ s < 128 := by
  have h1 := (ltr_ok h).1
  have key : ∀ k, k < 9 → ∀ s, s < 256 → ltr s = some k → ltrL.getD k 0 = s ∧ s < 128 := by decide +kernel
  exact key k h1 s hs h
def SumM (X : CX) (D nx sz : Nat) (h0 : AH) (T : Nat → Nat) (p : Nat → Int32) (ln k : Nat) : Prop := ∀ (g : AH) (a : Nat), Om h0 g ln a k → Mk X D m_X12_sum [.ref 68] g nx sz (RI (MPr h0 p ln (2 * k + 3) k (sumN T ln k a)))
theorem Om.deep (o : Om h0 h ln a k) (hk : k + 1 ≤ 6) : Om h0 (setI h 68 13 (h.1 68 13 - 1)) ln a (k + 1) := by
  refine ⟨o.1.set (by decide) (by decide), o.2.1, o.2.2.1, o.2.2.2.1, ?_⟩
  show h.1 68 13 - 1 = _
  rw [o.2.2.2.2, show 6 - k = 6 - (k + 1) + 1 by omega, nI_sub1 (by omega)]
theorem t_atomN {a : Nat} {Q : Option Value → AH → Prop} (hA0 : 91 ≤ nx) (M : Mtx h0 rt b0 T ln) (o : Om h0 h ln a k) (hq : isD (sgn T ln a) = true) (fin : ∀ y g, MPr h0 p ln (2 * k + 1) k (numF T ln a) y g → Q (some (.int y)) g) : VM X m_X12_atom (D + 1) nx sz Q 90 [some (.ref 68), none, some (.int 0), some (.int 0)] [] h := by
  have t1 := M.2.2.2.1
  have l := sgn_pos (T := T) (ln := ln) (a := a) (by have := isD_iff.mp hq; omega)
  have key : ∀ (f i v b : Nat) (g : AH), i + f = 4 → v < 10 ^ i → NM T ln f v b = NM T ln 4 0 a → Om h0 g ln b k → VM X m_X12_atom (D + 1) nx sz Q 90 [some (.ref 68), none, some (.int (nI v)), some (.int (nI i))] [] g := by
    intro f
    induction f with
    | zero =>
      intro i v b g hi hv e o
      have hi : i = 4 := by omega
      subst hi
      have m := o.1.mtx M
      obtain ⟨N, hN, hb, hN2, h91⟩ := m.kd (X := X)
      have e1 : (NM T ln 4 0 a).2 = b := by rw [← e]; rfl
      have e2 : (NM T ln 4 0 a).1 = v := by rw [← e]; rfl
      unfold numF at fin
      rw [e1, e2] at fin
      refine c_X12_atom_90 hA0 RO_rm hcs0 (t_isDgM (d := D) hA0 m o.2.1 o.2.2.1) ?_
      rintro _ g ⟨rfl, rfl⟩
      by_cases q : isD (sgn T ln b) = true
      · rw [if_pos q] at fin ⊢
        refine c_X12_atom_94 hA0 m.1 hN (by omega) RO_rm hcs0 (fun z => by cases z) (fun _ z => absurd o.2.2.2.1 z) (fun _ _ z => absurd rfl z) (fun _ _ z => absurd rfl z) (fun _ _ _ => t_failsO (d := D) hA0 o) ?_
        rintro _ _ _ _ g ⟨rfl, -, f⟩
        exact c_X12_atom_114 (fin _ _ (MPr.bad rfl f))
      · rw [if_neg q] at fin ⊢
        have sp : SP p 1 [16 * v] (nI v) := by
          have := SP_push (p := p) (w := 16 * v) (by omega)
          unfold toV at this
          rw [if_pos (by omega), show 16 * v / 16 = v by omega] at this
          exact this
        refine c_X12_atom_94 (d := D) (P111 := fun _ _ => False) hA0 m.1 hN (by omega) RO_rm hcs0 (fun _ => fin _ _ (MPr.ok rfl o (sp.mono (by omega)))) (fun z => absurd rfl z) (fun z => absurd rfl z) (fun z => absurd rfl z) (fun z => absurd rfl z) (fun z => absurd rfl z)
    | succ f ih =>
      intro i v b g hi hv e o
      have m := o.1.mtx M
      obtain ⟨N, hN, hb, hN2, h91⟩ := m.kd (X := X)
      have h4 : v < 10 ^ 4 := Nat.lt_of_lt_of_le hv (Nat.pow_le_pow_right (by decide) (by omega))
      refine c_X12_atom_90 hA0 RO_rm hcs0 (t_isDgM (d := D) hA0 m o.2.1 o.2.2.1) ?_
      rintro _ g ⟨rfl, rfl⟩
      have e0 := e
      unfold NM at e
      by_cases q : isD (sgn T ln b) = true
      · rw [if_pos q] at e ⊢
        have qd := isD_iff.mp q
        have lb := sgn_pos (T := T) (ln := ln) (a := b) (by omega)
        have n4 : ¬ nI i = 4 := fun z => by
          have := nI_inj (b := 4) (by omega) (by decide) z
          omega
        have es : sgn T ln b = T b := if_pos lb
        have ei : g.1 68 9 + g.1 68 11 = nI (b0 + b) := by rw [m.2.1, o.2.2.1, nI_add]
        have er : g.1 rt (g.1 68 9 + g.1 68 11).toNatClampNeg = nI (T b) := by
          rw [ei, tN (by omega)]
          refine (m.2.2.2.2.2.2 b (by omega)).trans ?_
          rw [es] at qd
          exact (byt_f (T b) (by omega)).2.2.2.1 qd
        refine c_X12_atom_94 (d := D) (P111 := fun _ _ => False) hA0 m.1 hN (by omega) RO_rm hcs0 (fun z => by cases z) (fun _ z => absurd o.2.2.2.1 z) (fun _ _ _ => ?_) (fun _ _ _ => ?_) (fun _ _ z => absurd z n4) (fun _ _ z => absurd z n4)
        · rw [ei]
          exact vin (by omega) (by omega)
        · have ev : (10 : Int32) * nI v + nI (T b) - 48 = nI (10 * v + (sgn T ln b - 48)) := by
            rw [es] at qd ⊢
            rw [show (10 : Int32) = nI 10 from rfl, pk_mul, nI_add, show (48 : Int32) = nI 48 from rfl, pk_sub (by omega)]
            congr 1
            omega
          rw [er, ev, o.2.2.1, nI_1, nI_1]
          exact ih (i + 1) _ (b + 1) _ (by omega) (by rw [Nat.pow_succ]; omega) e (o.at (by omega))
      · have ee : NM T ln (f + 1) v b = (v, b) := if_neg q
        rw [ee] at e0
        rw [if_neg q]
        have e1 : (NM T ln 4 0 a).2 = b := by rw [← e0]
        have e2 : (NM T ln 4 0 a).1 = v := by rw [← e0]
        unfold numF at fin
        rw [e1, e2, if_neg q] at fin
        have sp : SP p 1 [16 * v] (nI v) := by
          have := SP_push (p := p) (w := 16 * v) (by omega)
          unfold toV at this
          rw [if_pos (by omega), show 16 * v / 16 = v by omega] at this
          exact this
        refine c_X12_atom_94 (d := D) (P111 := fun _ _ => False) hA0 m.1 hN (by omega) RO_rm hcs0 (fun _ => fin _ _ (MPr.ok rfl o (sp.mono (by omega)))) (fun z => absurd rfl z) (fun z => absurd rfl z) (fun z => absurd rfl z) (fun z => absurd rfl z) (fun z => absurd rfl z)
  exact key 4 0 0 a h rfl (by decide) rfl o
theorem t_atom (hA0 : 91 ≤ nx) (hF : Fx h0) (M : Mtx h0 rt b0 T ln) (L : Let h0 p) (hk : k ≤ 6) (ih : ∀ k', k = k' + 1 → SumM X (D + 4) nx sz h0 T p ln k') (o : Om h0 h ln a k) : Mk X (D + 5) m_X12_atom [.ref 68] h nx sz (RI (MPr h0 p ln (2 * k + 1) k (atomF T ln (innN T ln k) a))) := by
  have t1 := M.2.2.2.1
  obtain ⟨p1, p2, p3⟩ := pb_le (T := T) (ln := ln) (a := a) o.2.1
  refine e_X12_atom (c_X12_atom_0 hA0 RO_rm hcs0 (t_lookO (d := D + 4) hA0 M o) ?_)
  rintro _ g ⟨rfl, -, o⟩
  have hs := sgn_le (a := pb T ln a) M.2.2.2.2.2.1
  obtain ⟨am, -⟩ := am_0 (sgn T ln (pb T ln a)) (by omega)
  refine c_X12_atom_4 RO_rm hcs0 (t_isAmong (d := D) (r := 0) (by decide)) ?_
  rintro _ g ⟨rfl, rfl⟩
  rw [am]
  obtain ⟨Q, hQ⟩ : ∃ Q, Q = (RI (MPr h0 p ln (2 * k + 1) k (atomF T ln (innN T ln k) a))) := ⟨_, rfl⟩
  rw [← hQ]
  have fin : ∀ y g, MPr h0 p ln (2 * k + 1) k (atomF T ln (innN T ln k) a) y g → Q (some (.int y)) g := fun y g r => by rw [hQ]; exact ⟨_, rfl, r⟩
  unfold atomF at fin
  have e91 := lkI_eq (c := 91) hs (by decide) (by decide)
  have hFg := hF.of o.1.1
  cases el : ltr (sgn T ln (pb T ln a)) with
  | some x =>
    have nd : isD (sgn T ln (pb T ln a)) = false := by
      have : ∀ s, s < 256 → (ltr s).isSome = true → isD s = false := by decide +kernel
      exact this _ (by omega) (by rw [el]; rfl)
    rw [nd, el] at fin
    have fin : ∀ y g, MPr h0 p ln (2 * k + 1) k (some [16 * x + 1], pb T ln a + 1) y g → Q (some (.int y)) g := fin
    obtain ⟨x1, x2⟩ := ltr_ok el
    have l := sgn_pos x2
    obtain ⟨g1, g2⟩ := ltr_get (by omega) el
    have ek : lkI (sgn T ln (pb T ln a)) = nI (sgn T ln (pb T ln a)) := if_neg (by omega)
    rw [ek]
    refine c_X12_atom_11 (d := D + 4) (P75 := fun _ _ => False) (P38 := fun _ _ => False) hA0 hFg RO_rm hcs0 (fun z => by cases z) (fun z => by cases z) (fun z => by cases z) (fun z => by cases z) (fun _ => vin (by omega) (by decide)) (fun _ => ?_)
    rw [tN (by omega), o.2.2.1, nI_1, ← g1, (o.1.lett L) x x1]
    refine fin _ _ (MPr.ok rfl (o.at (by omega)) ?_)
    have sp := SP_push (p := p) (w := 16 * x + 1) (by omega)
    unfold toV at sp
    rw [if_neg (by omega), show (16 * x + 1) / 16 = x by omega] at sp
    exact sp.mono (by omega)
  | none =>
    by_cases q91 : sgn T ln (pb T ln a) = 91
    · have nd : ¬ isD (sgn T ln (pb T ln a)) = true := by rw [q91]; decide
      rw [if_neg nd, el] at fin
      have fin : ∀ y g, MPr h0 p ln (2 * k + 1) k (if sgn T ln (pb T ln a) = 91 then (match innN T ln k with
        | none => (none, pb T ln a)
        | some f => clsF T ln 93 (f (pb T ln a + 1))) else (none, pb T ln a)) y g → Q (some (.int y)) g := fin
      rw [if_pos q91] at fin
      have l := sgn_pos (T := T) (ln := ln) (a := pb T ln a) (by omega)
      have y91 := e91.mpr q91
      cases k with
      | zero =>
        have fin : ∀ y g, MPr h0 p ln 1 0 (none, pb T ln a) y g → Q (some (.int y)) g := fin
        refine c_X12_atom_11 (P75 := fun _ _ => False) hA0 hFg RO_rm hcs0 (fun _ z => absurd y91 z) (fun _ z => absurd y91 z) (fun _ _ => t_goesIn0 (d := D + 3) hA0 o) ?_ (fun z => absurd rfl z) (fun z => absurd rfl z)
        rintro _ _ _ g ⟨rfl, f⟩
        exact c_X12_atom_41 (d := D + 4) (P47 := fun _ _ => False) hA0 RO_rm hcs0 (fun z => absurd rfl z) (fun z => absurd rfl z) (fun _ => fin _ _ (MPr.bad rfl f))
      | succ k' =>
        have fin : ∀ y g, MPr h0 p ln (2 * (k' + 1) + 1) (k' + 1) (clsF T ln 93 (sumN T ln k' (pb T ln a + 1))) y g → Q (some (.int y)) g := fin
        refine c_X12_atom_11 (P75 := fun _ _ => False) hA0 hFg RO_rm hcs0 (fun _ z => absurd y91 z) (fun _ z => absurd y91 z) (fun _ _ => t_goesIn (d := D + 3) hA0 o hk l) ?_ (fun z => absurd rfl z) (fun z => absurd rfl z)
        rintro _ _ _ g ⟨rfl, o⟩
        refine c_X12_atom_41 hA0 RO_rm hcs0 (fun _ => ih k' rfl g (pb T ln a + 1) o) ?_ (fun z => by cases z)
        intro _ v g r
        unfold clsF at fin
        cases e : (sumN T ln k' (pb T ln a + 1)).1 with
        | none =>
          rw [bnd_none e] at fin
          refine c_X12_atom_50 hA0 RO_rm hcs0 (t_takesF (d := D + 3) hA0 t1 (r.of_none e)) ?_
          rintro _ g ⟨rfl, f⟩
          exact c_X12_atom_57 hA0 (fun z => absurd rfl z) (fun _ => fin _ _ (MPr.bad rfl f))
        | some c' =>
          rw [bnd_some e] at fin
          obtain ⟨o, sp⟩ := r.of_some e
          refine c_X12_atom_50 hA0 RO_rm hcs0 (t_takes (s := 93) (d := D + 3) hA0 M o (by decide) (by decide)) ?_
          intro y g w
          by_cases qc : sgn T ln (pb T ln (sumN T ln k' (pb T ln a + 1)).2) = 93
          · rw [if_pos qc] at w fin
            obtain ⟨rfl, o⟩ := w
            exact c_X12_atom_57 hA0 (fun _ => fin _ _ (MPr.ok rfl (o.deep hk) (sp.mono (by omega)))) (fun z => by cases z)
          · rw [if_neg qc] at w fin
            obtain ⟨rfl, f⟩ := w
            exact c_X12_atom_57 hA0 (fun z => absurd rfl z) (fun _ => fin _ _ (MPr.bad rfl f))
    · have n91 : ¬ lkI (sgn T ln (pb T ln a)) = 91 := fun z => q91 (e91.mp z)
      have m := o.1.mtx M
      refine c_X12_atom_11 (P38 := fun _ _ => False) hA0 hFg RO_rm hcs0 (fun _ _ => t_isDgM (d := D + 4) hA0 m o.2.1 o.2.2.1) ?_ (fun _ z => absurd z n91) (fun _ z => absurd z n91) (fun z => absurd rfl z) (fun z => absurd rfl z)
      rintro _ _ _ g ⟨rfl, rfl⟩
      by_cases nd : isD (sgn T ln (pb T ln a)) = true
      · rw [if_pos nd] at fin ⊢
        exact c_X12_atom_78 (d := D + 4) (P82 := fun _ _ => False) hA0 RO_rm hcs0 (fun _ => t_atomN (D := D + 4) hA0 M o nd fin) (fun z => by cases z) (fun z => by cases z)
      · rw [if_neg nd, el] at fin
        have fin : ∀ y g, MPr h0 p ln (2 * k + 1) k (if sgn T ln (pb T ln a) = 91 then (match innN T ln k with
          | none => (none, pb T ln a)
          | some f => clsF T ln 93 (f (pb T ln a + 1))) else (none, pb T ln a)) y g → Q (some (.int y)) g := fin
        rw [if_neg q91] at fin
        rw [if_neg nd]
        refine c_X12_atom_78 hA0 RO_rm hcs0 (fun z => absurd rfl z) (fun _ => t_failsO (d := D + 4) hA0 o) ?_
        rintro _ _ g2 ⟨rfl, e2, f⟩
        refine c_X12_atom_85 ?_
        have m2 := f.1.mtx M
        obtain ⟨N, hN, hb, hN2, h91⟩ := m2.kd (X := X)
        have ea : g2.1 68 11 = nI (pb T ln a) := by
          rw [e2]
          exact o.2.2.1
        refine c_X12_atom_90 hA0 RO_rm hcs0 (t_isDgM (d := D + 4) hA0 m2 p2 ea) ?_
        rintro _ g3 ⟨rfl, rfl⟩
        rw [if_neg nd]
        exact c_X12_atom_94 (d := D + 4) (P111 := fun _ _ => False) hA0 m2.1 hN (by omega) RO_rm hcs0 (fun _ => fin _ _ (MPr.bad rfl f)) (fun z => absurd rfl z) (fun z => absurd rfl z) (fun z => absurd rfl z) (fun z => absurd rfl z) (fun z => absurd rfl z)
end OPS

/-! the other side's reader, and its net -/
section RD
/-- what a look gives -/
def lkI (s : Nat) : Int32 := if s = 0 then -1 else nI s
theorem lkI_eq {s c : Nat} (hs : s ≤ 255) (h0 : 0 < c) (hc : c ≤ 255) : lkI s = nI c ↔ s = c := by
  unfold lkI
  by_cases q : s = 0
  · rw [if_pos q]
    refine ⟨fun z => absurd z.symm (nI_m1 (by omega)), fun z => by omega⟩
  · rw [if_neg q]
    exact nI_eq (by omega) (by omega)
theorem lkI_m1 {s : Nat} (hs : s ≤ 255) : lkI s = -1 ↔ s = 0 := by
  unfold lkI
  by_cases q : s = 0
  · rw [if_pos q]
    exact ⟨fun _ => q, fun _ => rfl⟩
  · rw [if_neg q]
    exact ⟨fun z => absurd z (nI_m1 (by omega)), fun z => absurd z q⟩
theorem sgn_0 {T : Nat → Nat} {ln a : Nat} (h : Byt T ln) : sgn T ln a = 0 ↔ ln ≤ a := by
  unfold sgn
  by_cases q : a < ln
  · rw [if_pos q]
    have := h a q
    omega
  · rw [if_neg q]
    exact ⟨fun _ => by omega, fun _ => rfl⟩
theorem let_lk : ∀ n, n < 21 → ∀ s, s < 256 → (lkI s < 97 → ltN n s = none) ∧ (¬ lkI s < 97 → 97 + nI n ≤ lkI s → ltN n s = none) ∧ (¬ lkI s < 97 → ¬ 97 + nI n ≤ lkI s → (ltN n s).isSome = true) := by decide +kernel
/-- what the reader reads: many signs of row rt from place b on -/
def Mtx (h : AH) (rt b : Nat) (T : Nat → Nat) (ln : Nat) : Prop := h.2.2 68 6 = some rt ∧ h.1 68 9 = nI b ∧ h.1 68 10 = nI ln ∧ ln ≤ 200 ∧ ((rt = 69 ∧ b = 0) ∨ (rt = 70 ∧ b + 200 ≤ 1200)) ∧ Byt T ln ∧ ∀ i, i < ln → h.1 rt (b + i) = byt (T i)
theorem Mtx.of {h g : AH} {rt b ln : Nat} {T : Nat → Nat} (m : Mtx h rt b T ln) (e1 : g.2.2 68 6 = h.2.2 68 6) (e2 : g.1 68 9 = h.1 68 9) (e3 : g.1 68 10 = h.1 68 10) (e4 : g.1 69 = h.1 69) (e5 : g.1 70 = h.1 70) : Mtx g rt b T ln := by
  obtain ⟨m1, m2, m3, m4, m5, m6, m7⟩ := m
  refine ⟨e1.trans m1, e2.trans m2, e3.trans m3, m4, m5, m6, ?_⟩
  rcases m5 with ⟨rfl, _⟩ | ⟨rfl, _⟩
  · rw [e4]
    exact m7
  · rw [e5]
    exact m7
end RD
section OPS
variable {X : CX} {d nx sz : Nat} {h : AH} {n : Nat}
theorem Mtx.kd {rt b ln : Nat} {T : Nat → Nat} (m : Mtx h rt b T ln) : ∃ N, kd X rt = (21, N) ∧ b + ln ≤ N ∧ N ≤ 1200 ∧ rt < 91 := by
  obtain ⟨m1, m2, m3, m4, m5, m6, m7⟩ := m
  rcases m5 with ⟨rfl, rfl⟩ | ⟨rfl, _⟩
  · exact ⟨200, rfl, by omega, by decide, by decide⟩
  · exact ⟨1200, rfl, by omega, by decide, by decide⟩
theorem Mtx.at {rt b ln : Nat} {T : Nat → Nat} {x : Int32} (m : Mtx h rt b T ln) : Mtx (setI h 68 11 x) rt b T ln := m.of rfl rfl rfl rfl rfl
theorem t_look {rt b ln a : Nat} {T : Nat → Nat} (hA0 : 91 ≤ nx) (m : Mtx h rt b T ln) (ha : a ≤ ln) (e : h.1 68 11 = nI a) : Mk X d m_X12_look [.ref 68] h nx sz (RE (lkI (sgn T ln (pb T ln a))) (setI h 68 11 (nI (pb T ln a)))) := by
  obtain ⟨N, hN, hb, hN2, h91⟩ := m.kd (X := X)
  have m4 := m.2.2.2.1
  refine Mk.re fun Q hq => e_X12_look ?_
  have key : ∀ (k i : Nat), i + k = ln → pb T ln i = pb T ln a → VM X m_X12_look d nx sz Q 0 [some (.ref 68)] [] (setI h 68 11 (nI i)) := by
    intro k
    induction k with
    | zero =>
      intro i hi ep
      have hi : i = ln := by omega
      subst hi
      rw [pb_stop (Or.inl (Nat.le_refl _))] at ep
      rw [← ep] at hq
      have ev : sgn T i i = 0 := if_neg (by omega)
      rw [ev] at hq
      have yes : (setI h 68 11 (nI i)).1 68 10 ≤ (setI h 68 11 (nI i)).1 68 11 := by
        show h.1 68 10 ≤ nI i
        rw [m.2.2.1]
        exact Int32.le_refl _
      exact c_X12_look_0 hA0 m.1 hN (by omega) (fun _ _ => hq) (fun _ z => absurd yes z) (fun _ z => absurd yes z) (fun z => absurd yes z) (fun z => absurd yes z) (fun z => absurd yes z) (fun z => absurd yes z) (fun z => absurd yes z)
    | succ k ih =>
      intro i hi ep
      have no : ¬ (setI h 68 11 (nI i)).1 68 10 ≤ (setI h 68 11 (nI i)).1 68 11 := fun z => by
        have z : h.1 68 10 ≤ nI i := z
        rw [m.2.2.1, le_nI (by omega) (by omega)] at z
        omega
      have ei : (setI h 68 11 (nI i)).1 68 9 + (setI h 68 11 (nI i)).1 68 11 = nI (b + i) := by
        show h.1 68 9 + nI i = _
        rw [m.2.1, nI_add]
      have iv : vp_in ((setI h 68 11 (nI i)).1 68 9 + (setI h 68 11 (nI i)).1 68 11) N := by
        rw [ei]
        exact vin (by omega) (by omega)
      have er : (setI h 68 11 (nI i)).1 rt ((setI h 68 11 (nI i)).1 68 9 + (setI h 68 11 (nI i)).1 68 11).toNatClampNeg = byt (T i) := by
        rw [ei, tN (by omega)]
        exact (m.at).2.2.2.2.2.2 i (by omega)
      obtain ⟨b1, b2⟩ := m.2.2.2.2.2.1 i (by omega)
      obtain ⟨f1, f2, -⟩ := byt_f (T i) (by omega)
      have stop : ¬ byt (T i) = 32 → Q (some (.int (nI (T i)))) (setI h 68 11 (nI i)) := fun z => by
        have z : T i ≠ 32 := fun y => z (f2.mpr y)
        rw [pb_stop (Or.inr z)] at ep
        rw [← ep] at hq
        have ev : sgn T ln i = T i := if_pos (by omega)
        rw [ev] at hq
        have el : lkI (T i) = nI (T i) := if_neg (by omega)
        rw [el] at hq
        exact hq
      refine c_X12_look_0 hA0 m.1 hN (by omega) (fun z => absurd z no) (fun z => absurd z no) (fun z => absurd z no) (fun _ => iv) (fun _ _ z => absurd z no) (fun _ _ _ => iv) (fun _ z _ => ?_) (fun _ z => ?_)
      · rw [er] at z ⊢
        rw [f1]
        exact stop z
      · rw [er] at z
        have z := f2.mp z
        have ea : (setI h 68 11 (nI i)).1 68 11 = nI i := rfl
        rw [ea, nI_1, setI_I]
        exact ih (i + 1) (by omega) (by rw [← pb_blank (by omega) z]; exact ep)
  have := key (ln - a) a (by omega) rfl
  rw [← e, setI_id] at this
  exact this
theorem t_fails_0 {Q : Option Value → AH → Prop} {a : Nat} (hA0 : 91 ≤ nx) (e : h.1 68 11 = nI a) (c : h.1 68 12 = -1) (hq : Q (some (.int 0)) (setI h 68 12 (nI a))) : Mk X d m_X12_fails [.ref 68] h nx sz Q :=
  e_X12_fails (c_X12_fails_0 hA0 (fun z => absurd c z) (fun _ => by rw [e]; exact hq))
theorem t_fails_1 (hA0 : 91 ≤ nx) (c : ¬ h.1 68 12 = -1) : Mk X d m_X12_fails [.ref 68] h nx sz (RE 0 h) :=
  Mk.re fun Q hq => e_X12_fails (c_X12_fails_0 hA0 (fun _ => hq) (fun z => absurd z c))
def opn (h : AH) (rt b ln : Nat) : AH := setI (setI (setI (setI (setR h 68 6 (some rt)) 68 9 (nI b)) 68 10 (nI ln)) 68 11 0) 68 12 (-1)
theorem t_opens {rt b ln N : Nat} (hA0 : 91 ≤ nx) : Mk X d m_X12_opens [.ref 68, .ref rt, .int (nI b), .int (nI ln)] h nx sz (RVE (opn h rt b ln)) :=
  Mk.rv fun Q hq => e_X12_opens (n_r1 := N) (c_X12_opens_0 (n_r1 := N) hA0 hq)
theorem opn_mtx {rt b ln : Nat} {T : Nat → Nat} (h1 : ln ≤ 200) (h2 : (rt = 69 ∧ b = 0) ∨ (rt = 70 ∧ b + 200 ≤ 1200)) (h3 : Byt T ln) (h4 : ∀ i, i < ln → h.1 rt (b + i) = byt (T i)) : Mtx (opn h rt b ln) rt b T ln := by
  refine ⟨rfl, rfl, rfl, h1, h2, h3, fun i hi => ?_⟩
  rcases h2 with ⟨rfl, rfl⟩ | ⟨rfl, h2⟩
  · exact h4 i hi
  · exact h4 i hi
theorem opn_sc {rt b ln : Nat} (h2 : rt = 69 ∨ rt = 70) : Sc h (opn h rt b ln) := by
  have s0 : Sc h (setR h 68 6 (some rt)) := ⟨fun _ _ _ => rfl, fun k j hk => if_neg hk, fun _ => by
    rcases h2 with rfl | rfl
    · exact Or.inl rfl
    · exact Or.inr rfl⟩
  exact ((((s0.setI rfl).setI rfl).setI rfl).setI rfl)
theorem t_isLetterOf {s : Nat} (hA0 : 91 ≤ nx) (hp : MP h n) (hs : s ≤ 255) : Mk X d m_X12_isLetterOf [.ref 68, .int (lkI s)] h nx sz (RE (if (ltN n s).isSome = true then 1 else 0) h) := by
  obtain ⟨h0, h2, h20⟩ := hp
  obtain ⟨l1, l2, l3⟩ := let_lk n (by omega) s (by omega)
  refine Mk.re fun Q hq => e_X12_isLetterOf (c_X12_isLetterOf_0 hA0 (fun z => ?_) (fun z z2 => ?_) (fun z z2 => ?_))
  · rw [l1 z] at hq
    exact hq
  · rw [h0] at z2
    rw [l2 z z2] at hq
    exact hq
  · rw [h0] at z2
    rw [l3 z z2] at hq
    exact hq
theorem lk_sub {s x : Nat} (h : ltN n s = some x) (hn : n ≤ 20) : lkI s - 97 = nI x := by
  obtain ⟨h1, h2⟩ := ltN_lt h
  have e : lkI s = nI s := if_neg (by omega)
  rw [e, sub_97 (by omega), h2]
  congr 1
  omega
/-- rows and place of the net's reader -/
def ns (h : AH) (R : Nat → Int32) (a : Nat) : AH := setI (setA h 74 R) 68 11 (nI a)
theorem ns_at {R : Nat → Int32} {a b : Nat} : setI (ns h R a) 68 11 (nI b) = ns h R b := setI_I
theorem Mtx.ns {rt b ln a : Nat} {T : Nat → Nat} {R : Nat → Int32} (m : Mtx h rt b T ln) : Mtx (ns h R a) rt b T ln := m.of rfl rfl rfl rfl rfl
theorem ns_sc {R : Nat → Int32} {a : Nat} {g : AH} (s : Sc g h) : Sc g (ns h R a) := (s.setA rfl).setI rfl
def rtP (T : Nat → Nat) (ln n : Nat) (h : AH) (R : Nat → Int32) (a : Nat) (v : Int32) (g : AH) : Prop :=
  (ltN n (sgn T ln a) = none ∧ v = 0 ∧ g = setI (ns h R a) 68 12 (nI a)) ∨
  (∃ x, ltN n (sgn T ln a) = some x ∧ (∀ y, ltN n (sgn T ln (pb T ln (a + 1))) = some y → ¬ cbB R (h.1 75) x none y none = true) ∧ v = 0 ∧ g = setI (ns h R (pb T ln (a + 1))) 68 12 (nI (pb T ln (a + 1)))) ∨
  (∃ x y, ltN n (sgn T ln a) = some x ∧ ltN n (sgn T ln (pb T ln (a + 1))) = some y ∧ cbB R (h.1 75) x none y none = true ∧ v = 1 ∧ g = ns h (joinK R x y) (pb T ln (a + 1) + 1))
theorem bc_ne {R L : Nat → Int32} {i : Nat} (hn : n ≤ 20) (r : RN n L R) (hi : i < n) : bc (R i) = L i ↔ ¬ bc (R i) < L i := r.2.full r.1 hn hi
theorem t_readTie {rt b ln c : Nat} {T : Nat → Nat} {R : Nat → Int32} (hA0 : 91 ≤ nx) (hF : Fx h) (hp : MP h n) (m : Mtx h rt b T ln) (f0 : h.1 68 12 = -1) (hc : c ≤ ln) (R' : Nat → Int32) (hR : ∀ i, i < n → R i = R' i) (r : RN n (h.1 75) R') : Mk X (d + 1) m_X12_readTie [.ref 68] (ns h R c) nx sz (RI (rtP T ln n h R (pb T ln c))) := by
  obtain ⟨h0, h2, h20⟩ := id hp
  have hB := m.2.2.2.2.2.1
  have hl2 := m.2.2.2.1
  obtain ⟨p1, p2, p3⟩ := pb_le (T := T) (ln := ln) (a := c) hc
  have hFn : ∀ R a, Fx (ns h R a) := fun R a => hF.of rfl
  have fz : ∀ (R : Nat → Int32) (a : Nat) (P : Int32 → AH → Prop), P 0 (setI (ns h R a) 68 12 (nI a)) → Mk X d m_X12_fails [.ref 68] (ns h R a) nx sz (RI P) := fun R a P q => t_fails_0 (d := d) hA0 rfl f0 ⟨_, rfl, q⟩
  refine e_X12_readTie (c_X12_readTie_0 hA0 RO_rm hcs0 (t_look (d := d) hA0 m.ns hc rfl) ?_)
  rintro _ g ⟨rfl, rfl⟩
  rw [ns_at]
  generalize ea : pb T ln c = a at *
  have hs := sgn_le (a := a) hB
  refine c_X12_readTie_5 hA0 RO_rm hcs0 (t_isLetterOf (d := d) hA0 hp hs) ?_
  rintro _ g ⟨rfl, rfl⟩
  cases q1 : ltN n (sgn T ln a) with
  | none =>
    refine c_X12_readTie_8 (P19 := fun _ _ => False) hA0 RO_rm hcs0 (fun z => absurd rfl z) (fun z => absurd rfl z) (fun _ => fz R a (fun y g => y = 0 ∧ g = setI (ns h R a) 68 12 (nI a)) ⟨rfl, rfl⟩) ?_
    rintro _ _ g ⟨rfl, rfl⟩
    exact c_X12_readTie_15 ⟨_, rfl, Or.inl ⟨q1, rfl, rfl⟩⟩
  | some x =>
    obtain ⟨hx, -⟩ := ltN_lt q1
    have hal := ltN_pos q1
    refine c_X12_readTie_8 (P12 := fun _ _ => False) hA0 RO_rm hcs0 (fun _ => t_look (d := d) (a := a) hA0 m.ns p2 rfl) ?_ (fun z => by cases z) (fun z => by cases z)
    rintro _ _ g ⟨rfl, rfl⟩
    rw [ns_at]
    have epa : pb T ln a = a := by rw [← ea]; exact pb_pb hc
    rw [epa]
    refine c_X12_readTie_22 hA0 RO_rm hcs0 (P37 := fun y g => y = lkI (sgn T ln (pb T ln (a + 1))) ∧ ns h R (pb T ln (a + 1)) = g) ?_ ?_
    · have e1 : (ns h R a).1 68 11 = nI a := rfl
      rw [e1, nI_1, ns_at]
      have := t_look (X := X) (d := d) (sz := sz) (h := ns h R (a + 1)) (a := a + 1) hA0 m.ns (by omega) rfl
      rw [ns_at] at this
      exact this
    rintro _ g ⟨rfl, rfl⟩
    obtain ⟨b1, b2, b3⟩ := pb_le (T := T) (ln := ln) (a := a + 1) (by omega)
    have epa1 : pb T ln (pb T ln (a + 1)) = pb T ln (a + 1) := pb_pb (by omega)
    generalize ea1 : pb T ln (a + 1) = a1 at *
    refine c_X12_readTie_40 hA0 RO_rm hcs0 (t_look (d := d) (a := a1) hA0 m.ns b2 rfl) ?_
    rintro _ g ⟨rfl, rfl⟩
    rw [ns_at, epa1, lk_sub q1 h20]
    have hs1 := sgn_le (a := a1) hB
    refine c_X12_readTie_49 hA0 RO_rm hcs0 (t_isLetterOf (d := d) hA0 hp hs1) ?_
    rintro _ g ⟨rfl, rfl⟩
    have bad : (∀ y, ltN n (sgn T ln a1) = some y → ¬ cbB R (h.1 75) x none y none = true) → rtP T ln n h R a 0 (setI (ns h R a1) 68 12 (nI a1)) := fun z => by
      refine Or.inr (Or.inl ⟨x, q1, ?_, rfl, ?_⟩)
      · rw [ea1]
        exact z
      · rw [ea1]
    have fb : (∀ y, ltN n (sgn T ln a1) = some y → ¬ cbB R (h.1 75) x none y none = true) → Mk X d m_X12_fails [.ref 68] (ns h R a1) nx sz (RI fun _ g => rtP T ln n h R a 0 g) := fun z => fz R a1 _ (bad z)
    cases q2 : ltN n (sgn T ln a1) with
    | none =>
      refine c_X12_readTie_52 (P110_1 := fun _ _ => False) (P67 := fun _ _ => False) hA0 (hFn _ _) RO_rm hcs0 (fun _ => fb (fun y z => by rw [q2] at z; cases z)) ?_ (fun z => absurd rfl z) (fun z => absurd rfl z) (fun z => absurd rfl z) (fun z => absurd rfl z) (fun z => absurd rfl z)
      rintro _ y g w
      exact c_X12_readTie_113 ⟨_, rfl, w⟩
    | some y =>
      obtain ⟨hy, -⟩ := ltN_lt q2
      have fb : ¬ cbB R (h.1 75) x none y none = true → Mk X d m_X12_fails [.ref 68] (ns h R a1) nx sz (RI fun _ g => rtP T ln n h R a 0 g) := fun z => fb (fun y' e => by
        rw [q2] at e
        cases e
        exact z)
      have exy : nI y = nI x ↔ y = x := nI_eq (by omega) (by omega)
      have tx : (nI x).toNatClampNeg = x := tN (by omega)
      have ty : (nI y).toNatClampNeg = y := tN (by omega)
      have rx : (ns h R a1).1 74 x = R x := rfl
      have ry : (ns h R a1).1 74 y = R y := rfl
      rw [lk_sub q2 h20]
      refine c_X12_readTie_52 hA0 (hFn _ _) RO_rm hcs0 (fun z => by cases z) (fun z => by cases z) (P110 := fun _ _ => False) (P110_1 := fun _ g => rtP T ln n h R a 0 g) (fun _ z => fb (fun w => (cbB_iff.mp w).1 (exy.mp z).symm)) ?_ (fun _ _ => vin (by omega) (by decide)) (fun _ _ => t_has (d := d) (by omega)) ?_
      · rintro _ _ v g w
        exact c_X12_readTie_113 ⟨_, rfl, w⟩
      rintro _ z1 _ g ⟨rfl, rfl⟩
      have z1 : x ≠ y := fun w => z1 (exy.mpr w.symm)
      rw [tx, rx]
      by_cases tz : tb (R x) y = true
      · rw [if_pos tz]
        refine c_X12_readTie_70 (P79 := fun _ _ => False) hA0 (hFn _ _) RO_rm hcs0 (fun _ => fb (fun w => by have := (cbB_iff.mp w).2.1; rw [tz] at this; cases this)) ?_ (fun z => by cases z) (fun z => by cases z) (fun z => by cases z)
        rintro _ v g w
        exact c_X12_readTie_113 ⟨_, rfl, w⟩
      rw [if_neg tz]
      refine c_X12_readTie_70 (P110 := fun _ _ => False) hA0 (hFn _ _) RO_rm hcs0 (fun z => absurd rfl z) (fun z => absurd rfl z) (fun _ => vin (by omega) (by decide)) (fun _ => s_bitCount (d := d)) ?_
      rintro _ _ g ⟨rfl, rfl⟩
      rw [tx, rx]
      have sx : bc (R x) = (h.1 75) x ↔ ¬ bc (R x) < (h.1 75) x := by
        rw [hR x hx]
        exact bc_ne h20 r hx
      have sy : bc (R y) = (h.1 75) y ↔ ¬ bc (R y) < (h.1 75) y := by
        rw [hR y hy]
        exact bc_ne h20 r hy
      refine c_X12_readTie_82 hA0 (hFn _ _) RO_rm hcs0 (vin (by omega) (by decide)) (fun z => fb (fun w => ?_)) ?_ (fun _ => vin (by omega) (by decide)) (fun _ => s_bitCount (d := d)) ?_
      · rw [tx] at z
        exact sx.mp z (of_decide_eq_true (cbB_iff.mp w).2.2.1)
      · rintro _ v g w
        exact c_X12_readTie_113 ⟨_, rfl, w⟩
      rintro z2 _ g ⟨rfl, rfl⟩
      rw [tx] at z2
      have z2 : bc (R x) < (h.1 75) x := Decidable.byContradiction fun w => z2 (sx.mpr w)
      rw [ty, ry]
      refine c_X12_readTie_100 hA0 (hFn _ _) RO_rm hcs0 (vin (by omega) (by decide)) (fun _ => vin (by omega) (by decide)) (fun _ => vin (by omega) (by decide)) (fun _ => vin (by omega) (by decide)) (fun _ => vin (by omega) (by decide)) (fun z => ?_) (fun z => fb (fun w => ?_)) ?_
      · rw [ty] at z
        have z3 : bc (R y) < (h.1 75) y := Decidable.byContradiction fun w => z (sy.mpr w)
        refine ⟨_, rfl, Or.inr (Or.inr ⟨x, y, q1, ?_, cbB_iff.mpr ⟨z1, Bool.eq_false_iff.mpr tz, decide_eq_true z2, decide_eq_true z3⟩, rfl, ?_⟩)⟩
        · rw [ea1]
          exact q2
        · rw [ea1, tx, ty, bt_toInt32, bt_toInt32]
          have e1 : (ns h R a1).1 68 11 = nI a1 := rfl
          rw [e1, nI_1, ns_at]
          refine Prod.ext (funext fun b => funext fun k => ?_) rfl
          by_cases e : b = 74
          · subst e
            by_cases e1 : k = y
            · subst e1
              by_cases e2 : k = x <;> simp [ns, setI, setA, joinK, e2]
            · by_cases e2 : k = x <;> simp [ns, setI, setA, joinK, e1, e2]
          · simp [ns, setI, setA, e]
      · rw [ty] at z
        exact sy.mp z (of_decide_eq_true (cbB_iff.mp w).2.2.2)
      · rintro _ v g w
        exact c_X12_readTie_113 ⟨_, rfl, w⟩
theorem cbB_congr {R R' L : Nat → Int32} {x y : Nat} (hx : R x = R' x) (hy : R y = R' y) : cbB R L x none y none = cbB R' L x none y none := by
  unfold cbB mdB
  rw [hx, hy]
theorem t_readNet {T : Nat → Nat} {ln : Nat} (hA0 : 91 ≤ nx) (hF : Fx h) (hp : MP h n) (hL : ∀ i, i < n → ∃ l, l ≤ 9 ∧ h.1 75 i = nI l) (t : MxH h (ln, T)) : Mk X (d + 2) m_X12_readNet [.ref 68] h nx sz (RV fun g => Sc h g ∧ g.1 68 12 = ovI (ntV T ln n (h.1 75)).1 ∧ ∀ i, i < n → g.1 74 i = (ntV T ln n (h.1 75)).2 i) := by
  obtain ⟨h0, h2, h20⟩ := id hp
  obtain ⟨t1, t2, t3, t4⟩ := t
  have t1 : ln ≤ 200 := t1
  have t2 : h.1 68 7 = nI ln := t2
  refine e_X12_readNet (c_X12_readNet_0 hA0 hF RO_rm hcs0 (P10 := fun g => opn h 69 0 ln = g) ?_ ?_)
  · rw [t2]
    exact t_opens (N := 200) (b := 0) hA0
  rintro _ rfl
  have so : Sc h (opn h 69 0 ln) := opn_sc (Or.inl rfl)
  have mo : Mtx (opn h 69 0 ln) 69 0 T ln := opn_mtx t1 (Or.inl ⟨rfl, rfl⟩) t3 (fun i hi => by rw [Nat.zero_add]; exact t4 i hi)
  have fo : (opn h 69 0 ln).1 68 12 = -1 := rfl
  have ao : (opn h 69 0 ln).1 68 11 = nI 0 := rfl
  have Lo : (opn h 69 0 ln).1 75 = h.1 75 := rfl
  have po : MP (opn h 69 0 ln) n := hp
  have hFo := hF.sc so
  generalize opn h 69 0 ln = o at *
  obtain ⟨Q, hQ⟩ : ∃ Q, Q = (RV fun g => Sc h g ∧ g.1 68 12 = ovI (ntV T ln n (h.1 75)).1 ∧ ∀ i, i < n → g.1 74 i = (ntV T ln n (h.1 75)).2 i) := ⟨_, rfl⟩
  rw [← hQ]
  refine c_X12_readNet_13 ?_
  have hB := mo.2.2.2.2.2.1
  have hFn : ∀ R a, Fx (ns o R a) := fun R a => hFo.of rfl
  have key : ∀ (f a b : Nat) (R R' : Nat → Int32), 200 ≤ a + f → b ≤ ln → a = pb T ln b → (∀ i, i < n → R i = R' i) → RN n (h.1 75) R' → ntF T ln n (h.1 75) f a R' = ntV T ln n (h.1 75) → VM X m_X12_readNet (d + 2) nx sz Q 50 [some (.ref 68), some (.int 1)] [] (ns o R b) := by
    intro f
    induction f with
    | zero =>
      intro a b R R' hf hb ea hR r e
      subst ea
      obtain ⟨p1, p2, p3⟩ := pb_le (T := T) (ln := ln) (a := b) hb
      have es : sgn T ln (pb T ln b) = 0 := if_neg (by omega)
      have el : ltN n (sgn T ln (pb T ln b)) = none := by rw [es]; rfl
      refine c_X12_readNet_50 (P95 := fun _ _ => False) hA0 RO_rm hcs0 (fun z => by cases z) (fun z => by cases z) (fun _ => t_readTie (d := d) hA0 hFo po mo fo hb R' hR (by rw [Lo]; exact r)) ?_
      rintro _ y g w
      rcases w with ⟨-, rfl, rfl⟩ | ⟨x, w1, -⟩ | ⟨x, y', w1, -⟩
      · refine c_X12_readNet_58 (d := d + 1) (P63 := fun _ _ => False) hA0 RO_rm hcs0 (fun z => absurd rfl z) (fun z => absurd rfl z) (fun _ => ?_)
        rw [hQ]
        refine ⟨rfl, (ns_sc so).setI rfl, ?_⟩
        rw [← e]
        exact ⟨rfl, hR⟩
      · rw [el] at w1
        cases w1
      · rw [el] at w1
        cases w1
    | succ f ih =>
      intro a b R R' hf hb ea hR r e
      subst ea
      obtain ⟨p1, p2, p3⟩ := pb_le (T := T) (ln := ln) (a := b) hb
      refine c_X12_readNet_50 (P95 := fun _ _ => False) hA0 RO_rm hcs0 (fun z => by cases z) (fun z => by cases z) (fun _ => t_readTie (d := d) hA0 hFo po mo fo hb R' hR (by rw [Lo]; exact r)) ?_
      have bad : ∀ q, ntF T ln n (h.1 75) (f + 1) (pb T ln b) R' = (some q, R') → VM X m_X12_readNet (d + 2) nx sz Q 58 [some (.ref 68), none] [.int 0] (setI (ns o R q) 68 12 (nI q)) := fun q eq => by
        refine c_X12_readNet_58 (d := d + 1) (P63 := fun _ _ => False) hA0 RO_rm hcs0 (fun z => absurd rfl z) (fun z => absurd rfl z) (fun _ => ?_)
        rw [hQ]
        refine ⟨rfl, (ns_sc so).setI rfl, ?_⟩
        rw [← e, eq]
        exact ⟨rfl, hR⟩
      unfold ntF at bad e
      rintro _ y g w
      rcases w with ⟨w1, rfl, rfl⟩ | ⟨x, w1, w2, rfl, rfl⟩ | ⟨x, y', w1, w2, w3, rfl, rfl⟩
      · rw [w1] at bad
        exact bad _ rfl
      · rw [w1] at bad
        refine bad _ ?_
        cases q2 : ltN n (sgn T ln (pb T ln (pb T ln b + 1))) with
        | none => rfl
        | some y' =>
          refine if_neg ?_
          rw [← cbB_congr (hR x (ltN_lt w1).1) (hR y' (ltN_lt q2).1), ← Lo]
          exact w2 y' q2
      · rw [Lo, cbB_congr (hR x (ltN_lt w1).1) (hR y' (ltN_lt w2).1)] at w3
        have hj : ∀ i, i < n → joinK R x y' i = joinK R' x y' i := fun i hi => joinK_eq (ltN_lt w1).1 (ltN_lt w2).1 hR i hi
        have rj := RN_join r h20 (ltN_lt w1).1 (ltN_lt w2).1 w3
        have l1 := ltN_pos w1
        obtain ⟨b1, b2, b3⟩ := pb_le (T := T) (ln := ln) (a := pb T ln b + 1) (by omega)
        have l2 := ltN_pos w2
        rw [w1] at e
        rw [w2] at e
        have e : (if cbB R' (h.1 75) x none y' none = true then
                (if pb T ln (pb T ln (pb T ln b + 1) + 1) = ln then (none, joinK R' x y') else
                  if sgn T ln (pb T ln (pb T ln (pb T ln b + 1) + 1)) = 44 then ntF T ln n (h.1 75) f (pb T ln (pb T ln (pb T ln (pb T ln b + 1) + 1) + 1)) (joinK R' x y')
                  else (some (pb T ln (pb T ln (pb T ln b + 1) + 1)), joinK R' x y'))
              else (some (pb T ln (pb T ln b + 1)), R')) = ntV T ln n (h.1 75) := e
        rw [if_pos w3] at e
        generalize ea1 : pb T ln (pb T ln b + 1) = a1 at *
        have lk := fun g (m : Mtx g 69 0 T ln) (q : g.1 68 11 = nI (a1 + 1)) => t_look (X := X) (d := d + 1) (nx := nx) (sz := sz) (h := g) (a := a1 + 1) hA0 m (by omega) q
        refine c_X12_readNet_58 (d := d + 1) hA0 RO_rm hcs0 (fun _ => lk _ mo.ns rfl) ?_ (fun z => by cases z)
        rintro _ _ g ⟨rfl, rfl⟩
        rw [ns_at]
        obtain ⟨c1, c2, c3⟩ := pb_le (T := T) (ln := ln) (a := a1 + 1) (by omega)
        have ep : pb T ln (pb T ln (a1 + 1)) = pb T ln (a1 + 1) := pb_pb (by omega)
        generalize ea2 : pb T ln (a1 + 1) = a2 at *
        have hs := sgn_le (a := a2) hB
        have e44 : lkI (sgn T ln a2) = 44 ↔ sgn T ln a2 = 44 := lkI_eq (c := 44) hs (by decide) (by decide)
        have em1 : lkI (sgn T ln a2) = -1 ↔ a2 = ln := by
          rw [lkI_m1 hs, sgn_0 hB]
          omega
        by_cases q44 : sgn T ln a2 = 44
        · have hl : a2 < ln := sgn_pos (T := T) (by omega)
          rw [if_neg (by omega), if_pos q44] at e
          refine c_X12_readNet_66 hA0 (fun z => absurd (e44.mpr q44) z) (fun _ => ?_)
          have e1 : (ns o (joinK R x y') a2).1 68 11 = nI a2 := rfl
          rw [e1, nI_1, ns_at]
          exact ih _ (a2 + 1) _ _ (by have := (pb_le (T := T) (ln := ln) (a := a2 + 1) (by omega)).1; omega) (by omega) rfl hj rj e
        · refine c_X12_readNet_66 hA0 (fun _ => ?_) (fun z => absurd (e44.mp z) q44)
          have lk2 := t_look (X := X) (d := d + 1) (nx := nx) (sz := sz) (h := ns o (joinK R x y') a2) (a := a2) hA0 mo.ns c2 rfl
          refine c_X12_readNet_50 (P55 := fun _ _ => False) hA0 RO_rm hcs0 (fun _ => lk2) ?_ (fun z => absurd rfl z) (fun z => absurd rfl z)
          rintro _ _ g ⟨rfl, rfl⟩
          rw [ns_at, ep]
          by_cases q : a2 = ln
          · rw [if_pos q] at e
            refine c_X12_readNet_98 (d := d + 1) (P103 := fun _ _ => False) hA0 RO_rm hcs0 (fun _ => ?_) (fun z => absurd (em1.mpr q) z) (fun z => absurd (em1.mpr q) z)
            rw [hQ]
            refine ⟨rfl, ns_sc so, ?_⟩
            rw [← e]
            exact ⟨fo, hj⟩
          · rw [if_neg q, if_neg q44] at e
            refine c_X12_readNet_98 (d := d + 1) hA0 RO_rm hcs0 (fun z => absurd (em1.mp z) q) (P103 := fun _ g => g = setI (ns o (joinK R x y') a2) 68 12 (nI a2)) (fun _ => t_fails_0 hA0 rfl fo ⟨_, rfl, rfl⟩) ?_
            rintro _ _ g rfl
            refine c_X12_readNet_106 ?_
            rw [hQ]
            refine ⟨rfl, (ns_sc so).setI rfl, ?_⟩
            rw [← e]
            exact ⟨rfl, hj⟩
  have o1 : o.1 68 1 = nI n := po.1
  have e0 : setA o 74 (upto 0 (fun _ => 0) (o.1 74)) = o := by
    have : upto 0 (fun _ => (0 : Int32)) (o.1 74) = o.1 74 := funext fun k => if_neg (by omega)
    rw [this, setA_id]
  have fin := down_ind (N := n) (P := fun i => VM X m_X12_readNet (d + 2) nx sz Q 15 [some (.ref 68), some (.int (nI i))] [] (setA o 74 (upto i (fun _ => 0) (o.1 74)))) ?_ (fun i hi q => ?_)
  · have fin : VM X m_X12_readNet (d + 2) nx sz Q 15 [some (.ref 68), some (.int (nI 0))] [] (setA o 74 (upto 0 (fun _ => 0) (o.1 74))) := fin
    rw [e0] at fin
    exact fin
  · have ex : o.1 68 1 ≤ nI n := by rw [o1]; exact Int32.le_refl _
    have er : setA o 74 (upto n (fun _ => 0) (o.1 74)) = ns o (upto n (fun _ => 0) (o.1 74)) 0 := by
      unfold ns
      rw [← ao]
      exact setI_id.symm
    have r0 : RN n (h.1 75) (fun _ => 0) := RN_0 hL
    have h00 : ∀ i, i < n → upto n (fun _ => 0) (o.1 74) i = (fun _ => 0 : Nat → Int32) i := fun i hi => if_pos hi
    show VM X m_X12_readNet (d + 2) nx sz Q 15 [some (.ref 68), some (.int (nI n))] [] (setA o 74 (upto n (fun _ => 0) (o.1 74)))
    rw [er]
    have lk := t_look (X := X) (d := d + 1) (nx := nx) (sz := sz) (h := ns o (upto n (fun _ => 0) (o.1 74)) 0) (a := 0) hA0 mo.ns (Nat.zero_le _) rfl
    refine c_X12_readNet_15 hA0 (hFn _ _) RO_rm hcs0 (fun _ => lk) ?_ (fun z => absurd ex z) (fun z => absurd ex z)
    rintro _ _ g ⟨rfl, rfl⟩
    rw [ns_at]
    obtain ⟨p1, p2, p3⟩ := pb_le (T := T) (ln := ln) (a := 0) (Nat.zero_le _)
    have ep : pb T ln (pb T ln 0) = pb T ln 0 := pb_pb (Nat.zero_le _)
    have hs := sgn_le (a := pb T ln 0) hB
    have em1 : lkI (sgn T ln (pb T ln 0)) = -1 ↔ pb T ln 0 = ln := by
      rw [lkI_m1 hs, sgn_0 hB]
      omega
    by_cases q : pb T ln 0 = ln
    · refine c_X12_readNet_40 (fun _ => ?_) (fun z => absurd (em1.mpr q) z)
      have lk2 := t_look (X := X) (d := d + 1) (nx := nx) (sz := sz) (h := ns o (upto n (fun _ => 0) (o.1 74)) (pb T ln 0)) (a := pb T ln 0) hA0 mo.ns p2 rfl
      refine c_X12_readNet_50 (P55 := fun _ _ => False) hA0 RO_rm hcs0 (fun _ => lk2) ?_ (fun z => absurd rfl z) (fun z => absurd rfl z)
      rintro _ _ g ⟨rfl, rfl⟩
      rw [ns_at, ep]
      refine c_X12_readNet_98 (d := d + 1) (P103 := fun _ _ => False) hA0 RO_rm hcs0 (fun _ => ?_) (fun z => absurd (em1.mpr q) z) (fun z => absurd (em1.mpr q) z)
      rw [hQ]
      have ev : ntV T ln n (h.1 75) = (none, fun _ => 0) := if_pos q
      refine ⟨rfl, ns_sc so, ?_⟩
      rw [ev]
      exact ⟨fo, h00⟩
    · refine c_X12_readNet_40 (fun z => absurd (em1.mp z) q) (fun _ => ?_)
      exact key 200 (pb T ln 0) (pb T ln 0) _ _ (by omega) p2 ep.symm h00 r0 (if_neg q).symm
  · refine c_X12_readNet_15 (d := d + 1) (P37 := fun _ _ => False) hA0 (hFo.of rfl) RO_rm hcs0 (fun z => ?_) (fun z => ?_) (fun _ => vin (by omega) (by decide)) (fun _ => ?_)
    · have z : o.1 68 1 ≤ nI i := z
      rw [o1, le_nI (by omega) (by omega)] at z
      omega
    · have z : o.1 68 1 ≤ nI i := z
      rw [o1, le_nI (by omega) (by omega)] at z
      omega
    · rw [tN (by omega), nI_1, setI_upto (f := fun _ => 0)]
      exact q
end OPS

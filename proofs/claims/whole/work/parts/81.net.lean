/-! the tape read as a net -/
section NT
def ltN (n c : Nat) : Option Nat := if 97 ≤ c ∧ c < 97 + n then some (c - 97) else none
def ntF (T : Nat → Nat) (ln n : Nat) (L : Nat → Int32) : Nat → Nat → (Nat → Int32) → Option Nat × (Nat → Int32)
  | 0, a, R => (some a, R)
  | f + 1, a, R => match ltN n (sgn T ln a) with
    | none => (some a, R)
    | some x => match ltN n (sgn T ln (pb T ln (a + 1))) with
      | none => (some (pb T ln (a + 1)), R)
      | some y => if cbB R L x none y none = true then
          (if pb T ln (pb T ln (a + 1) + 1) = ln then (none, joinK R x y) else
            if sgn T ln (pb T ln (pb T ln (a + 1) + 1)) = 44 then ntF T ln n L f (pb T ln (pb T ln (pb T ln (a + 1) + 1) + 1)) (joinK R x y)
            else (some (pb T ln (pb T ln (a + 1) + 1)), joinK R x y))
        else (some (pb T ln (a + 1)), R)
def ntV (T : Nat → Nat) (ln n : Nat) (L : Nat → Int32) : Option Nat × (Nat → Int32) := if pb T ln 0 = ln then (none, fun _ => 0) else ntF T ln n L 200 (pb T ln 0) (fun _ => 0)
theorem ltN_lt {n c x : Nat} (h : ltN n c = some x) : x < n ∧ c = 97 + x := by
  unfold ltN at h
  split at h
  · cases h
    omega
  · cases h
theorem has_lt : ∀ n, n < 21 → ∀ c, c < 256 → hasI n (nI c - 97) = if (ltN n c).isSome = true then 1 else 0 := by decide +kernel
theorem sub_97 {c : Nat} (h : 97 ≤ c) : nI c - 97 = nI (c - 97) := by
  rw [show (97 : Int32) = nI 97 from rfl, pk_sub h]
theorem has_lts {n c x : Nat} (hn : n ≤ 20) (hc : c ≤ 255) (h : ltN n c = some x) : hasI n (nI c - 97) = 1 ∧ nI c - 97 = nI x := by
  have e := has_lt n (by omega) c (by omega)
  rw [h] at e
  obtain ⟨h1, h2⟩ := ltN_lt h
  refine ⟨e, ?_⟩
  rw [h2, sub_97 (by omega), show 97 + x - 97 = x by omega]
theorem sgn_pos {T : Nat → Nat} {ln a : Nat} (h : 0 < sgn T ln a) : a < ln := by
  unfold sgn at h
  split at h
  · assumption
  · omega
theorem ltN_pos {T : Nat → Nat} {ln a n x : Nat} (h : ltN n (sgn T ln a) = some x) : a < ln := sgn_pos (T := T) (ln := ln) (a := a) (by have := (ltN_lt h).2; omega)
/-- rows are a net -/
def RN (n : Nat) (L R : Nat → Int32) : Prop := Gr n R ∧ Lm n R L
theorem RN_0 {n : Nat} {L : Nat → Int32} (hL : ∀ i, i < n → ∃ l, l ≤ 9 ∧ L i = nI l) : RN n L (fun _ => 0) := by
  refine ⟨fun i j h => (by rw [tb_0] at h; cases h), fun i hi => ?_⟩
  obtain ⟨l, l1, l2⟩ := hL i hi
  exact ⟨l, l1, l2, by rw [cnt_0]; exact Nat.zero_le _⟩
theorem RN_join {n x y : Nat} {L R : Nat → Int32} (h : RN n L R) (hn : n ≤ 20) (hx : x < n) (hy : y < n) (c : cbB R L x none y none = true) : RN n L (joinK R x y) :=
  ⟨h.1.join hn hx hy (cbB_iff.mp c).1, mk_lm (o := none) (p := none) h.1 h.2 hn hx hy c⟩
theorem ntF_rn {T : Nat → Nat} {ln n : Nat} {L : Nat → Int32} (hn : n ≤ 20) : ∀ (f a : Nat) (R : Nat → Int32), RN n L R → RN n L (ntF T ln n L f a R).2
  | 0, a, R, h => h
  | f + 1, a, R, h => by
    unfold ntF
    cases e1 : ltN n (sgn T ln a) with
    | none => exact h
    | some x =>
      cases e2 : ltN n (sgn T ln (pb T ln (a + 1))) with
      | none => exact h
      | some y =>
        show RN n L (if cbB R L x none y none = true then _ else _ : Option Nat × (Nat → Int32)).2
        by_cases c : cbB R L x none y none = true
        · rw [if_pos c]
          have hj := RN_join h hn (ltN_lt e1).1 (ltN_lt e2).1 c
          split
          · exact hj
          · split
            · exact ntF_rn hn f _ _ hj
            · exact hj
        · rw [if_neg c]
          exact h
end NT
section OPS
variable {X : CX} {d nx sz : Nat} {h : AH} {n : Nat}
/-- the row of a net's text -/
def r26 (g : AH) (R : Nat → Int32) : Prop := ∀ i, i < 20 → g.1 26 i = R i
def F26 (h g : AH) : Prop := g.2 = h.2 ∧ ∀ c, c ≠ 26 → g.1 c = h.1 c
theorem F26.trans {g k : AH} (a : F26 h g) (b : F26 g k) : F26 h k := ⟨b.1.trans a.1, fun c x => (b.2 c x).trans (a.2 c x)⟩
theorem F26.txt {g : AH} {T : Nat → Nat} {ln : Nat} (a : F26 h g) (t : Txt h T ln) : Txt g T ln := by
  unfold Txt
  rw [a.2 23 (by decide), a.2 24 (by decide)]
  exact t
theorem s_whose {T : Nat → Nat} {ln a : Nat} (hA0 : 91 ≤ nx) (hF : Fx h) (hP : NP h 1 n) (t : Txt h T ln) (ha : a ≤ ln) : Mk X (d + 1) m_X4_whose [.ref 25, .int (nI a)] h nx sz (RE (ovI (ltN n (sgn T ln a))) h) := by
  have hs := sgn_le (a := a) t.2.2.1
  have h20 := hP.2.2.2.2
  refine Mk.re fun Q hq => e_X4_whose (c_X4_whose_0 hA0 hF RO_rm hcs0 (s_sign (d := d) hA0 hF t ha) ?_)
  rintro _ g ⟨rfl, rfl⟩
  refine c_X4_whose_8 hA0 hF RO_rm hcs0 (s_has (d := d) hA0 hP) ?_
  rintro _ g ⟨rfl, rfl⟩
  cases e : ltN n (sgn T ln a) with
  | none =>
    have eh := has_lt n (by omega) (sgn T ln a) (by omega)
    rw [e] at eh hq
    have eh : hasI n (nI (sgn T ln a) - 97) = 0 := eh
    rw [eh]
    exact c_X4_whose_20 (fun _ => hq) (fun z => absurd rfl z)
  | some x =>
    obtain ⟨e1, e2⟩ := has_lts h20 hs e
    rw [e1, e2]
    rw [e] at hq
    exact c_X4_whose_20 (fun z => by cases z) (fun _ => hq)
theorem s_hasMost {R : Nat → Int32} {x : Nat} (hA0 : 91 ≤ nx) (hF : Fx h) (r : r26 h R) (hx : x < 20) : Mk X (d + 1) m_X4_hasMost [.ref 25, .int (nI x)] h nx sz (RE (if bc (R x) < h.1 3 x then 0 else 1) h) := by
  refine Mk.re fun Q hq => e_X4_hasMost (c_X4_hasMost_0 hA0 hF RO_rm hcs0 (vin hx (by decide)) (s_bitCount (d := d)) ?_)
  rintro _ g ⟨rfl, rfl⟩
  rw [tN (by omega), r x hx]
  refine c_X4_hasMost_9 hA0 hF (vin hx (by decide)) (fun z => ?_) (fun z => ?_)
  · rw [tN (by omega)] at z
    rw [if_pos z] at hq
    exact hq
  · rw [tN (by omega)] at z
    rw [if_neg z] at hq
    exact hq
theorem joinK_eq {R R' : Nat → Int32} {x y m : Nat} (hx : x < m) (hy : y < m) (e : ∀ i, i < m → R i = R' i) (i : Nat) (hi : i < m) : joinK R x y i = joinK R' x y i := by
  unfold joinK
  rw [e x hx, e y hy, e i hi]
def joP (h g : AH) (R : Nat → Int32) (x : Nat) (v : Int32) : Option Nat → Prop
  | none => v = 0 ∧ g = h
  | some y => if cbB R (h.1 3) x none y none = true then v = 1 ∧ F26 h g ∧ r26 g (joinK R x y) else v = 0 ∧ g = h
theorem s_joinedN {R : Nat → Int32} {x : Nat} {o : Option Nat} (hA0 : 91 ≤ nx) (hF : Fx h) (hn : n ≤ 20) (r : r26 h R) (hx : x < n) (ho : ∀ y, o = some y → y < n) : Mk X (d + 2) m_X4_joined [.ref 25, .int (nI x), .int (ovI o)] h nx sz (RI fun v g => joP h g R x v o) := by
  refine e_X4_joined ?_
  cases o with
  | none => exact c_X4_joined_0 (d := d + 1) (P25 := fun _ _ => False) hA0 hF RO_rm hcs0 (fun _ => ⟨_, rfl, rfl, rfl⟩) (fun z => absurd rfl z) (fun z => absurd rfl z) (fun z => absurd rfl z) (fun z => absurd rfl z) (fun z => absurd rfl z)
  | some y =>
    have hy := ho y rfl
    have ym : ¬ ovI (some y) = -1 := nI_m1 (by omega)
    have tx : (nI x).toNatClampNeg = x := tN (by omega)
    have ty : (nI y).toNatClampNeg = y := tN (by omega)
    obtain ⟨Q, hQ⟩ : ∃ Q, Q = (RI fun v g => joP h g R x v (some y)) := ⟨_, rfl⟩
    rw [← hQ]
    have no : ¬ cbB R (h.1 3) x none y none = true → Q (some (.int 0)) h := fun z => by
      rw [hQ]
      refine ⟨_, rfl, ?_⟩
      show if cbB R (h.1 3) x none y none = true then _ else _
      rw [if_neg z]
      exact ⟨rfl, rfl⟩
    have exy : ovI (some y) = nI x ↔ y = x := nI_eq (by omega) (by omega)
    have etb : ((h.1 26 (nI x).toNatClampNeg >>> (nI y &&& 31)) &&& 1) = 0 ↔ tb (R x) y = false := by
      rw [tx, r x (by omega)]
      exact shr_eq0 (by omega)
    refine c_X4_joined_0 hA0 hF RO_rm hcs0 (fun z => absurd z ym) (fun _ z => no (fun w => (cbB_iff.mp w).1 (exy.mp z).symm)) (fun _ _ => vin (by omega) (by decide)) (fun _ _ z => no (fun w => z (etb.mpr (cbB_iff.mp w).2.1))) (fun _ _ _ => s_hasMost (d := d) hA0 hF r (by omega)) ?_
    rintro _ z2 z3 _ g ⟨rfl, rfl⟩
    have z2 : x ≠ y := fun w => z2 (exy.mpr w.symm)
    have z3 := etb.mp z3
    refine c_X4_joined_28 hA0 RO_rm hcs0 (fun z => no (fun w => ?_)) (fun _ => s_hasMost (d := d) hA0 hF r (by omega)) ?_
    · have := of_decide_eq_true (cbB_iff.mp w).2.2.1
      rw [if_pos this] at z
      exact z rfl
    rintro z4 _ g ⟨rfl, rfl⟩
    have z4 : bc (R x) < h.1 3 x := Decidable.byContradiction fun w => by rw [if_neg w] at z4; cases z4
    refine c_X4_joined_36 hA0 hF (fun _ => vin (by omega) (by decide)) (fun _ => vin (by omega) (by decide)) (fun _ => vin (by show y < 20; omega) (by decide)) (fun _ => vin (by show y < 20; omega) (by decide)) (fun z => ?_) (fun z => no (fun w => ?_))
    · have z5 : bc (R y) < h.1 3 y := Decidable.byContradiction fun w => by rw [if_neg w] at z; cases z
      have cb : cbB R (h.1 3) x none y none = true := cbB_iff.mpr ⟨z2, z3, decide_eq_true z4, decide_eq_true z5⟩
      rw [hQ]
      refine ⟨_, rfl, ?_⟩
      show if cbB R (h.1 3) x none y none = true then _ else _
      rw [if_pos cb]
      have e : ovI (some y) = nI y := rfl
      rw [e, tx, ty, bt_toInt32, bt_toInt32]
      have eg : setI (setI h 26 x (h.1 26 x ||| bt y)) 26 y ((setI h 26 x (h.1 26 x ||| bt y)).1 26 y ||| bt x) = setA h 26 (joinK (h.1 26) x y) := by
        refine Prod.ext (funext fun b => funext fun k => ?_) rfl
        by_cases e : b = 26
        · subst e
          by_cases e1 : k = y
          · subst e1
            by_cases e2 : k = x <;> simp [setI, setA, joinK, e2]
          · by_cases e2 : k = x <;> simp [setI, setA, joinK, e1, e2]
        · simp [setI, setA, e]
      rw [eg]
      refine ⟨rfl, ⟨rfl, fun c hc => setA_get_ne hc⟩, fun i hi => ?_⟩
      rw [setA_self]
      exact joinK_eq (by omega) (by omega) r i hi
    · have := of_decide_eq_true (cbB_iff.mp w).2.2.2
      rw [if_pos this] at z
      exact z rfl
theorem s_readNet {T : Nat → Nat} {ln : Nat} (hA0 : 91 ≤ nx) (hF : Fx h) (hP : NP h 1 n) (t : Txt h T ln) : Mk X (d + 3) m_X4_read [.ref 25] h nx sz (RI fun y g => y = ovI (ntV T ln n (h.1 3)).1 ∧ F26 h g ∧ r26 g (ntV T ln n (h.1 3)).2) := by
  obtain ⟨hn, h0, e1, h2, h20⟩ := id hP
  have hl := t.1
  refine e_X4_read (c_X4_read_0 hA0 hF RO_rm hcs0 (s_fill (d := d + 2) (N := 20) (v := 0) rfl (by omega) (by decide)) ?_)
  rintro g1 ⟨f2, f1, f0, -⟩
  have F1 : F26 h g1 := ⟨f2, fun c hc => f1 c hc⟩
  have R1 : r26 g1 (fun _ => 0) := fun i hi => f0 i hi
  refine c_X4_read_8 hA0 (hF.of f2) RO_rm hcs0 (s_pastBlanks (d := d + 2) (a := 0) hA0 (hF.of f2) (F1.txt t) (Nat.zero_le _)) ?_
  rintro _ g ⟨rfl, rfl⟩
  obtain ⟨p1, p2, p3⟩ := pb_le (T := T) (ln := ln) (a := 0) (Nat.zero_le _)
  have g231 : g1.1 23 1 = nI ln := (F1.txt t).2.1
  have eqE : ∀ a, a ≤ ln → (nI a = g1.1 23 1 ↔ a = ln) := fun a ha => by rw [g231]; exact nI_eq (by omega) (by omega)
  obtain ⟨Q, hQ⟩ : ∃ Q, Q = (RI fun y g => y = ovI (ntV T ln n (h.1 3)).1 ∧ F26 h g ∧ r26 g (ntV T ln n (h.1 3)).2) := ⟨_, rfl⟩
  rw [← hQ]
  have key : ∀ (f i a : Nat) (R : Nat → Int32) (g : AH), i + f = 200 → a ≤ ln → F26 h g → r26 g R → ntF T ln n (h.1 3) f a R = ntV T ln n (h.1 3) → VM X m_X4_read (d + 3) nx sz Q 32 [some (.ref 25), some (.int (nI a)), some (.int (nI i)), none] [] g := by
    intro f
    induction f with
    | zero =>
      intro i a R g hi ha fr rr e
      have hi : i = 200 := by omega
      subst hi
      have yes : (200 : Int32) ≤ nI 200 := Int32.le_refl _
      refine c_X4_read_32 (d := d + 2) (P41 := fun _ _ => False) hA0 RO_rm hcs0 (fun _ => ?_) (fun z => absurd yes z) (fun z => absurd yes z)
      rw [hQ]
      refine ⟨_, rfl, ?_⟩
      rw [← e]
      exact ⟨rfl, fr, rr⟩
    | succ f ih =>
      intro i a R g hi ha fr rr e
      have no : ¬ (200 : Int32) ≤ nI i := fun z => by
        have z : nI 200 ≤ nI i := z
        rw [le_nI (by decide) (by omega)] at z
        omega
      have hFg := hF.of fr.1
      have tg := fr.txt t
      have np : NP g 1 n := ⟨hn, by rw [fr.2 1 (by decide)]; exact h0, by rw [fr.2 1 (by decide)]; exact e1, h2, h20⟩
      have g3 : g.1 3 = h.1 3 := fr.2 3 (by decide)
      have fin : ∀ (o : Option Nat) (R' : Nat → Int32) (g' : AH), F26 h g' → r26 g' R' → ntF T ln n (h.1 3) (f + 1) a R = (o, R') → Q (some (.int (ovI o))) g' := fun o R' g' a1 a2 a3 => by
        rw [hQ]
        refine ⟨_, rfl, ?_⟩
        rw [← e, a3]
        exact ⟨rfl, a1, a2⟩
      unfold ntF at fin e
      refine c_X4_read_32 hA0 RO_rm hcs0 (fun z => absurd z no) (fun _ => s_whose (d := d + 1) hA0 hFg np tg ha) ?_
      rintro _ _ g' ⟨rfl, rfl⟩
      cases q1 : ltN n (sgn T ln a) with
      | none =>
        rw [q1] at fin
        exact c_X4_read_44 (d := d + 2) (P59 := fun _ _ => False) hA0 hFg RO_rm hcs0 (fun z => absurd rfl z) (fun z => absurd rfl z) (fun _ => fin (some a) R g fr rr rfl)
      | some x =>
        rw [q1] at fin e
        obtain ⟨hx, -⟩ := ltN_lt q1
        have hal := ltN_pos q1
        have xm : ¬ ovI (some x) = -1 := nI_m1 (by omega)
        refine c_X4_read_44 hA0 hFg RO_rm hcs0 (P59 := fun y g' => y = nI (pb T ln (a + 1)) ∧ g = g') (fun _ => by rw [nI_1]; exact s_pastBlanks (d := d + 2) hA0 hFg tg (by omega)) ?_ (fun z => absurd z xm)
        rintro _ _ g' ⟨rfl, rfl⟩
        obtain ⟨b1, b2, b3⟩ := pb_le (T := T) (ln := ln) (a := a + 1) (by omega)
        refine c_X4_read_62 hA0 RO_rm hcs0 (s_whose (d := d + 1) hA0 hFg np tg b2) ?_
        rintro _ g' ⟨rfl, rfl⟩
        have e0 : ovI (some x) = nI x := rfl
        rw [e0]
        refine c_X4_read_70 hA0 RO_rm hcs0 (s_joinedN (d := d) hA0 hFg h20 rr hx (fun y hy => (ltN_lt hy).1)) ?_
        rintro v g2 pj
        cases q2 : ltN n (sgn T ln (pb T ln (a + 1))) with
        | none =>
          rw [q2] at pj fin
          obtain ⟨rfl, rfl⟩ := pj
          exact c_X4_read_73 (d := d + 2) (P85 := fun _ _ => False) hA0 hFg RO_rm hcs0 (fun z => absurd rfl z) (fun z => absurd rfl z) (fun _ => fin (some _) R g2 fr rr rfl)
        | some y =>
          rw [q2] at pj fin e
          unfold joP at pj
          rw [g3] at pj
          have pj : if cbB R (h.1 3) x none y none = true then v = 1 ∧ F26 g g2 ∧ r26 g2 (joinK R x y) else v = 0 ∧ g2 = g := pj
          have fin : ∀ (o : Option Nat) (R' : Nat → Int32) (g' : AH), F26 h g' → r26 g' R' → (if cbB R (h.1 3) x none y none = true then
              (if pb T ln (pb T ln (a + 1) + 1) = ln then (none, joinK R x y) else
                if sgn T ln (pb T ln (pb T ln (a + 1) + 1)) = 44 then ntF T ln n (h.1 3) f (pb T ln (pb T ln (pb T ln (a + 1) + 1) + 1)) (joinK R x y)
                else (some (pb T ln (pb T ln (a + 1) + 1)), joinK R x y))
            else (some (pb T ln (a + 1)), R)) = (o, R') → Q (some (.int (ovI o))) g' := fin
          have e : (if cbB R (h.1 3) x none y none = true then
              (if pb T ln (pb T ln (a + 1) + 1) = ln then (none, joinK R x y) else
                if sgn T ln (pb T ln (pb T ln (a + 1) + 1)) = 44 then ntF T ln n (h.1 3) f (pb T ln (pb T ln (pb T ln (a + 1) + 1) + 1)) (joinK R x y)
                else (some (pb T ln (pb T ln (a + 1) + 1)), joinK R x y))
            else (some (pb T ln (a + 1)), R)) = ntV T ln n (h.1 3) := e
          have hbl := ltN_pos q2
          by_cases cb : cbB R (h.1 3) x none y none = true
          · rw [if_pos cb] at pj e
            obtain ⟨rfl, fr2, rr2⟩ := pj
            have fr2 := fr.trans fr2
            have hF2 := hF.of fr2.1
            have t2 := fr2.txt t
            refine c_X4_read_73 hA0 hF2 RO_rm hcs0 (P85 := fun y g' => y = nI (pb T ln (pb T ln (a + 1) + 1)) ∧ g2 = g') (fun _ => by rw [nI_1]; exact s_pastBlanks (d := d + 2) hA0 hF2 t2 (by omega)) ?_ (fun z => by cases z)
            rintro _ _ g' ⟨rfl, rfl⟩
            obtain ⟨c1, c2, c3⟩ := pb_le (T := T) (ln := ln) (a := pb T ln (a + 1) + 1) (by omega)
            have eqE : nI (pb T ln (pb T ln (a + 1) + 1)) = g2.1 23 1 ↔ pb T ln (pb T ln (a + 1) + 1) = ln := by
              rw [t2.2.1]
              exact nI_eq (by omega) (by omega)
            by_cases qe : pb T ln (pb T ln (a + 1) + 1) = ln
            · refine c_X4_read_88 (d := d + 2) (P107 := fun _ _ => False) hA0 hF2 RO_rm hcs0 (fun z => absurd (eqE.mpr qe) z) (fun z => absurd (eqE.mpr qe) z) (fun _ => fin none _ g2 fr2 rr2 ?_)
              rw [if_pos cb, if_pos qe]
            · refine c_X4_read_88 hA0 hF2 RO_rm hcs0 (fun _ => s_sign (d := d + 2) hA0 hF2 t2 c2) ?_ (fun z => absurd (eqE.mp z) qe)
              rintro _ _ g' ⟨rfl, rfl⟩
              have hs := sgn_le (a := pb T ln (pb T ln (a + 1) + 1)) t.2.2.1
              have e44 : nI (sgn T ln (pb T ln (pb T ln (a + 1) + 1))) = 44 ↔ sgn T ln (pb T ln (pb T ln (a + 1) + 1)) = 44 := nI_eq (b := 44) (by omega) (by decide)
              rw [if_neg qe] at e
              by_cases q44 : sgn T ln (pb T ln (pb T ln (a + 1) + 1)) = 44
              · rw [if_pos q44] at e
                have hql := sgn_pos (T := T) (ln := ln) (a := pb T ln (pb T ln (a + 1) + 1)) (by omega)
                refine c_X4_read_110 hA0 hF2 RO_rm hcs0 (P124 := fun y g' => y = nI (pb T ln (pb T ln (pb T ln (a + 1) + 1) + 1)) ∧ g2 = g') (fun _ => by rw [nI_1]; exact s_pastBlanks (d := d + 2) hA0 hF2 t2 (by omega)) ?_ (fun z => absurd (e44.mpr q44) z)
                rintro _ _ g' ⟨rfl, rfl⟩
                refine c_X4_read_127 ?_
                rw [nI_1]
                exact ih (i + 1) _ _ g2 (by omega) (pb_le (by omega)).2.1 fr2 rr2 e
              · refine c_X4_read_110 (d := d + 2) (P124 := fun _ _ => False) hA0 hF2 RO_rm hcs0 (fun z => absurd (e44.mp z) q44) (fun z => absurd (e44.mp z) q44) (fun _ => fin (some _) _ g2 fr2 rr2 ?_)
                rw [if_pos cb, if_neg qe, if_neg q44]
          · rw [if_neg cb] at pj
            obtain ⟨rfl, rfl⟩ := pj
            refine c_X4_read_73 (d := d + 2) (P85 := fun _ _ => False) hA0 hFg RO_rm hcs0 (fun z => absurd rfl z) (fun z => absurd rfl z) (fun _ => fin (some _) R g2 fr rr ?_)
            rw [if_neg cb]
  by_cases q : pb T ln 0 = ln
  · refine c_X4_read_16 hA0 (hF.of f2) (fun z => absurd ((eqE _ p2).mpr q) z) (fun _ => ?_)
    rw [hQ]
    have ev : ntV T ln n (h.1 3) = (none, fun _ => 0) := if_pos q
    refine ⟨_, rfl, ?_⟩
    rw [ev]
    exact ⟨rfl, F1, R1⟩
  · refine c_X4_read_16 hA0 (hF.of f2) (fun _ => ?_) (fun z => absurd ((eqE _ p2).mp z) q)
    exact key 200 0 (pb T ln 0) (fun _ => 0) g1 rfl p2 F1 R1 (if_neg q).symm
end OPS

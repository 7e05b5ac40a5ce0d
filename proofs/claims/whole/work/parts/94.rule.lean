/-! rule text: the other side's conditions -/
section OPS
variable {X : CX} {D nx sz : Nat} {h h0 : AH} {T : Nat → Nat} {p : Nat → Int32} {rt b0 ln a k q : Nat} {c : List Nat}
def B01 (y : Int32) : Prop := y = 0 ∨ y = 1
def MB (h0 : AH) (p : Nat → Int32) (ln m k : Nat) (r : Res) (y : Int32) (g : AH) : Prop := B01 y ∧ MPr h0 p ln m k r y g
theorem B01.nar {y : Int32} (b : B01 y) : narrow .boolean (.int y) = .int y := by
  rcases b with rfl | rfl
  · rfl
  · rfl
theorem sig_f : ∀ s, s < 256 → (lkI s = 61 ∨ lkI s = 60 ∨ lkI s = 62 ↔ (cmpS s).isSome = true) := by decide +kernel
theorem t_isSign {s : Nat} (hs : s ≤ 255) : Mk X D m_X12_isSign [.int (lkI s)] h nx sz (RE (if (cmpS s).isSome = true then 1 else 0) h) := by
  have e := sig_f s (by omega)
  have yes : lkI s = 61 ∨ lkI s = 60 ∨ lkI s = 62 → (if (cmpS s).isSome = true then (1 : Int32) else 0) = 1 := fun z => if_pos (e.mp z)
  refine Mk.re fun Q hq => e_X12_isSign (c_X12_isSign_0 (fun z => ?_) (fun _ z => ?_) (fun z z2 z3 => ?_) (fun _ _ z => ?_))
  · rw [yes (Or.inl z)] at hq
    exact hq
  · rw [yes (Or.inr (Or.inl z))] at hq
    exact hq
  · rw [if_neg (fun y => (e.mpr y).elim z (fun y => y.elim z2 z3))] at hq
    exact hq
  · rw [yes (Or.inr (Or.inr z))] at hq
    exact hq
theorem cmp_three {s x : Nat} (h : cmpS s = some x) : (s = 60 ∧ x = 7) ∨ (s = 61 ∧ x = 6) ∨ (s = 62 ∧ x = 8) := by
  unfold cmpS at h
  split at h
  · cases h; exact Or.inl ⟨by assumption, rfl⟩
  · split at h
    · cases h; exact Or.inr (Or.inl ⟨by assumption, rfl⟩)
    · split at h
      · cases h; exact Or.inr (Or.inr ⟨by assumption, rfl⟩)
      · cases h
theorem w_cmp {Q : Option Value → AH → Prop} {V v : Int32} {s x : Nat} (hs : cmpS s = some x) (q : Q (some (.int (opV x V v))) h) : VM X m_X12_compares D nx sz Q 56 [none, none, none, some (.int V), some (.int (lkI s)), none] [.int v] h := by
  rcases cmp_three hs with ⟨rfl, rfl⟩ | ⟨rfl, rfl⟩ | ⟨rfl, rfl⟩
  · have n1 : ¬ lkI 60 = 61 := by decide
    have y2 : lkI 60 = 60 := rfl
    have e : opV 7 V v = if V < v then 1 else 0 := rfl
    rw [e] at q
    refine c_X12_compares_56 (fun _ z => absurd y2 z) (fun _ z => absurd y2 z) (fun _ _ z => ?_) (fun _ _ z => ?_) (fun z => absurd z n1) (fun z => absurd z n1)
    · rw [if_neg (Int32.not_lt.mpr z)] at q
      exact q
    · rw [if_pos (Int32.not_le.mp z)] at q
      exact q
  · have y1 : lkI 61 = 61 := rfl
    have e : opV 6 V v = if V = v then 1 else 0 := rfl
    rw [e] at q
    refine c_X12_compares_56 (fun z => absurd y1 z) (fun z => absurd y1 z) (fun z => absurd y1 z) (fun z => absurd y1 z) (fun _ z => ?_) (fun _ z => ?_)
    · rw [if_neg z] at q
      exact q
    · rw [if_pos z] at q
      exact q
  · have n1 : ¬ lkI 62 = 61 := by decide
    have n2 : ¬ lkI 62 = 60 := by decide
    have e : opV 8 V v = if v < V then 1 else 0 := rfl
    rw [e] at q
    refine c_X12_compares_56 (fun _ _ z => ?_) (fun _ _ z => ?_) (fun _ z => absurd z n2) (fun _ z => absurd z n2) (fun z => absurd z n1) (fun z => absurd z n1)
    · rw [if_neg (Int32.not_lt.mpr z)] at q
      exact q
    · rw [if_pos (Int32.not_le.mp z)] at q
      exact q
theorem opV_b {x : Nat} {V v : Int32} (h : 6 ≤ x) (h8 : x ≤ 8) : B01 (opV x V v) := by
  unfold opV
  rw [if_neg (by omega), if_neg (by omega), if_neg (by omega), if_neg (by omega)]
  split
  · split
    · exact Or.inr rfl
    · exact Or.inl rfl
  · split
    · split
      · exact Or.inr rfl
      · exact Or.inl rfl
    · rw [if_pos (by omega)]
      split
      · exact Or.inr rfl
      · exact Or.inl rfl
theorem p_cmp {Q : Option Value → AH → Prop} {b : Nat} {W : List Nat} {V : Int32} (hA0 : 91 ≤ nx) (M : Mtx h0 rt b0 T ln) (hS : SumM X (D + 1) nx sz h0 T p ln k) (o : Om h0 h ln b k) (sp : SP p (2 * k + 4) W V) (fin : ∀ y g, MB h0 p ln (2 * k + 4) k (pre W (cmpF T ln k b)) y g → Q (some (.int y)) g) : VM X m_X12_compares (D + 2) nx sz Q 12 [some (.ref 68), none, none, none, none, none] [.int V] h := by
  have t1 := M.2.2.2.1
  obtain ⟨p1, p2, p3⟩ := pb_le (T := T) (ln := ln) (a := b) o.2.1
  have hs := sgn_le (a := pb T ln b) M.2.2.2.2.2.1
  refine c_X12_compares_12 hA0 RO_rm hcs0 (fun _ => t_lookO (d := D + 1) hA0 M o) ?_ (fun z => absurd o.2.2.2.1 z)
  rintro _ _ g ⟨rfl, -, o⟩
  refine c_X12_compares_27 RO_rm hcs0 (t_isSign (D := D + 1) hs) ?_
  rintro _ g ⟨rfl, rfl⟩
  unfold cmpF at fin
  cases q : cmpS (sgn T ln (pb T ln b)) with
  | none =>
    rw [q] at fin
    refine c_X12_compares_34 (P53 := fun _ _ => False) hA0 RO_rm hcs0 (fun z => absurd rfl z) (fun z => absurd rfl z) (fun _ => t_failsO (d := D + 1) hA0 o) ?_
    rintro _ _ g ⟨rfl, -, f⟩
    refine c_X12_compares_41 (fin 0 g ⟨Or.inl rfl, ?_⟩) rfl
    exact MPr.bad rfl f
  | some x =>
    rw [q] at fin
    have l := sgn_pos (cmp_ok q).2
    have fin : ∀ y g, MB h0 p ln (2 * k + 4) k (pre W (bnd (sumN T ln k (pb T ln b + 1)) fun c' b' => (some (c' ++ [x]), b'))) y g → Q (some (.int y)) g := fin
    have x68 : 6 ≤ x ∧ x ≤ 8 := by
      have := cmp_three q
      omega
    refine c_X12_compares_34 (P38 := fun _ _ => False) hA0 RO_rm hcs0 (fun _ => by rw [o.2.2.1, nI_1]; exact hS _ (pb T ln b + 1) (o.at (by omega))) ?_ (fun z => by cases z) (fun z => by cases z)
    intro _ v g r
    refine w_cmp q (fin _ g ⟨opV_b x68.1 x68.2, ?_⟩)
    cases e : (sumN T ln k (pb T ln b + 1)).1 with
    | none =>
      rw [bnd_none e]
      have f := r.of_none e
      exact MPr.bad rfl f
    | some c' =>
      obtain ⟨o, sp'⟩ := r.of_some e
      rw [bnd_some e, pre_some (c := c' ++ [x]) rfl]
      exact MPr.ok rfl o (SP_op sp sp' (by omega) (by omega) (by omega))
def UniM (X : CX) (E nx sz : Nat) (h0 : AH) (T : Nat → Nat) (p : Nat → Int32) (ln k : Nat) : Prop := ∀ g a, Om h0 g ln a k → Mk X E m_X12_unit [.ref 68] g nx sz (RI (MB h0 p ln (2 * k + 4) k (uN T ln k a)))
def ConM (X : CX) (E nx sz : Nat) (h0 : AH) (T : Nat → Nat) (p : Nat → Int32) (ln k : Nat) : Prop := ∀ g a, Om h0 g ln a k → Mk X E m_X12_condition [.ref 68, .int 0, .int 0] g nx sz (RI (MB h0 p ln (2 * k + 6) k (cdN T ln k (uN T ln k a))))
theorem t_cmp1 {b : Nat} {W : List Nat} {V : Int32} (hA0 : 91 ≤ nx) (M : Mtx h0 rt b0 T ln) (hS : SumM X (D + 1) nx sz h0 T p ln k) (o : Om h0 h ln b k) (sp : SP p (2 * k + 4) W V) : Mk X (D + 2) m_X12_compares [.ref 68, .int 1, .int V] h nx sz (RI (MB h0 p ln (2 * k + 4) k (pre W (cmpF T ln k b)))) :=
  e_X12_compares (c_X12_compares_0 (d := D + 1) (P9 := fun _ _ => False) hA0 RO_rm hcs0 (fun z => by cases z) (fun z => by cases z) (fun _ => p_cmp hA0 M hS o sp (fun y g r => ⟨_, rfl, r⟩)))
theorem t_cmp0 (hA0 : 91 ≤ nx) (M : Mtx h0 rt b0 T ln) (hS : SumM X (D + 1) nx sz h0 T p ln k) (o : Om h0 h ln a k) : Mk X (D + 2) m_X12_compares [.ref 68, .int 0, .int 0] h nx sz (RI (MB h0 p ln (2 * k + 4) k (bnd (sumN T ln k a) fun c b => bnd (cmpF T ln k b) fun c' b' => (some (c ++ c'), b')))) := by
  have t1 := M.2.2.2.1
  refine e_X12_compares (c_X12_compares_0 hA0 RO_rm hcs0 (fun _ => hS h a o) ?_ (fun z => absurd rfl z))
  intro _ v g r
  cases e : (sumN T ln k a).1 with
  | none =>
    have f := r.of_none e
    exact c_X12_compares_12 (d := D + 1) (P24 := fun _ _ => False) hA0 RO_rm hcs0 (fun z => absurd z (f.ne t1)) (fun z => absurd z (f.ne t1)) (fun _ => ⟨_, rfl, Or.inl rfl, by rw [bnd_none e]; exact MPr.bad rfl f⟩)
  | some c' =>
    obtain ⟨o, sp⟩ := r.of_some e
    rw [bnd_some e]
    exact p_cmp hA0 M hS o (sp.mono (by omega)) (fun y g r => ⟨_, rfl, r⟩)
theorem t_unit (hA0 : 91 ≤ nx) (M : Mtx h0 rt b0 T ln) (hk : k ≤ 6) (hS : SumM X (D + 1) nx sz h0 T p ln k) (hU : ∀ k', k = k' + 1 → UniM X (D + 2) nx sz h0 T p ln k') (hC : ∀ k', k = k' + 1 → ConM X (D + 2) nx sz h0 T p ln k') : UniM X (D + 3) nx sz h0 T p ln k := by
  intro h a o
  have t1 := M.2.2.2.1
  obtain ⟨p1, p2, p3⟩ := pb_le (T := T) (ln := ln) (a := a) o.2.1
  have hs := sgn_le (a := pb T ln a) M.2.2.2.2.2.1
  have e33 := lkI_eq (c := 33) hs (by decide) (by decide)
  have e40 := lkI_eq (c := 40) hs (by decide) (by decide)
  refine e_X12_unit (c_X12_unit_0 hA0 RO_rm hcs0 (t_lookO (d := D + 2) hA0 M o) ?_)
  rintro _ g ⟨rfl, -, o⟩
  obtain ⟨Q, hQ⟩ : ∃ Q, Q = (RI (MB h0 p ln (2 * k + 4) k (uN T ln k a))) := ⟨_, rfl⟩
  rw [← hQ]
  have fin : ∀ y g, MB h0 p ln (2 * k + 4) k (uN T ln k a) y g → Q (some (.int y)) g := fun y g r => by rw [hQ]; exact ⟨_, rfl, r⟩
  rw [uN_eq] at fin
  unfold unitF at fin
  by_cases q33 : sgn T ln (pb T ln a) = 33
  · rw [if_pos q33] at fin
    have y33 := e33.mpr q33
    have l := sgn_pos (T := T) (ln := ln) (a := pb T ln a) (by omega)
    cases k with
    | zero =>
      have fin : ∀ y g, MB h0 p ln 4 0 (none, pb T ln a) y g → Q (some (.int y)) g := fin
      refine c_X12_unit_4 (P93 := fun _ _ => False) (P52 := fun _ _ => False) hA0 RO_rm hcs0 (fun z => absurd y33 z) (fun z => absurd y33 z) (fun z => absurd y33 z) (fun z => absurd y33 z) (fun _ => t_goesIn0 (d := D + 1) hA0 o) ?_
      rintro _ _ g ⟨rfl, f⟩
      exact c_X12_unit_15 (d := D + 2) (P21 := fun _ _ => False) hA0 RO_rm hcs0 (fun z => absurd rfl z) (fun z => absurd rfl z) (fun _ => fin _ _ ⟨Or.inl rfl, MPr.bad rfl f⟩)
    | succ k' =>
      have fin : ∀ y g, MB h0 p ln (2 * (k' + 1) + 4) (k' + 1) (bnd (uN T ln k' (pb T ln a + 1)) fun c b => (some (c ++ [11]), b)) y g → Q (some (.int y)) g := fin
      refine c_X12_unit_4 (P93 := fun _ _ => False) (P52 := fun _ _ => False) hA0 RO_rm hcs0 (fun z => absurd y33 z) (fun z => absurd y33 z) (fun z => absurd y33 z) (fun z => absurd y33 z) (fun _ => t_goesIn (d := D + 1) hA0 o hk l) ?_
      rintro _ _ g ⟨rfl, o⟩
      refine c_X12_unit_15 hA0 RO_rm hcs0 (fun _ => hU k' rfl g (pb T ln a + 1) o) ?_ (fun z => by cases z)
      rintro _ v g ⟨b01, r⟩
      cases e : (uN T ln k' (pb T ln a + 1)).1 with
      | none =>
        rw [bnd_none e] at fin
        have f := r.of_none e
        have f : Fm h0 (setI g 68 13 (g.1 68 13 - 1)) ln (uN T ln k' (pb T ln a + 1)).2 := ⟨f.1.set (by decide) (by decide), f.2.1, f.2.2⟩
        exact c_X12_unit_24 hA0 (fun _ => fin _ _ ⟨Or.inl rfl, MPr.bad rfl f⟩) (fun _ => fin _ _ ⟨Or.inr rfl, MPr.bad rfl f⟩)
      | some c' =>
        rw [bnd_some e] at fin
        obtain ⟨o, sp⟩ := r.of_some e
        have sp := SP_not (sp.mono (m' := 2 * (k' + 1) + 4) (by omega))
        have o := o.deep hk
        rcases b01 with rfl | rfl
        · exact c_X12_unit_24 hA0 (fun z => absurd rfl z) (fun _ => fin _ _ ⟨Or.inr rfl, MPr.ok rfl o sp⟩)
        · exact c_X12_unit_24 hA0 (fun _ => fin _ _ ⟨Or.inl rfl, MPr.ok rfl o sp⟩) (fun z => by cases z)
  · rw [if_neg q33] at fin
    have n33 : ¬ lkI (sgn T ln (pb T ln a)) = 33 := fun z => q33 (e33.mp z)
    by_cases q40 : sgn T ln (pb T ln a) = 40
    · rw [if_pos q40] at fin
      have y40 := e40.mpr q40
      have l := sgn_pos (T := T) (ln := ln) (a := pb T ln a) (by omega)
      cases k with
      | zero =>
        have fin : ∀ y g, MB h0 p ln 4 0 (none, pb T ln a) y g → Q (some (.int y)) g := fin
        refine c_X12_unit_4 (P93 := fun _ _ => False) (P12 := fun _ _ => False) hA0 RO_rm hcs0 (fun _ z => absurd y40 z) (fun _ z => absurd y40 z) (fun _ _ => t_goesIn0 (d := D + 1) hA0 o) ?_ (fun z => absurd z n33) (fun z => absurd z n33)
        rintro _ _ _ g ⟨rfl, f⟩
        exact c_X12_unit_55 (d := D + 2) (P63 := fun _ _ => False) hA0 RO_rm hcs0 (fun z => absurd rfl z) (fun z => absurd rfl z) (fun _ => fin _ _ ⟨Or.inl rfl, MPr.bad rfl f⟩)
      | succ k' =>
        have fin : ∀ y g, MB h0 p ln (2 * (k' + 1) + 4) (k' + 1) (clsF T ln 41 (cdN T ln k' (uN T ln k' (pb T ln a + 1)))) y g → Q (some (.int y)) g := fin
        refine c_X12_unit_4 (P93 := fun _ _ => False) (P12 := fun _ _ => False) hA0 RO_rm hcs0 (fun _ z => absurd y40 z) (fun _ z => absurd y40 z) (fun _ _ => t_goesIn (d := D + 1) hA0 o hk l) ?_ (fun z => absurd z n33) (fun z => absurd z n33)
        rintro _ _ _ g ⟨rfl, o⟩
        refine c_X12_unit_55 hA0 RO_rm hcs0 (fun _ => hC k' rfl g (pb T ln a + 1) o) ?_ (fun z => by cases z)
        rintro _ v g ⟨b01, r⟩
        unfold clsF at fin
        cases e : (cdN T ln k' (uN T ln k' (pb T ln a + 1))).1 with
        | none =>
          rw [bnd_none e] at fin
          refine c_X12_unit_66 hA0 RO_rm hcs0 (t_takesF (d := D + 1) hA0 t1 (r.of_none e)) ?_
          rintro _ g ⟨rfl, f⟩
          exact c_X12_unit_73 hA0 (fun z => absurd rfl z) (fun z => absurd rfl z) (fun _ => fin _ _ ⟨Or.inl rfl, MPr.bad rfl f⟩)
        | some c' =>
          rw [bnd_some e] at fin
          obtain ⟨o, sp⟩ := r.of_some e
          refine c_X12_unit_66 hA0 RO_rm hcs0 (t_takes (s := 41) (d := D + 1) hA0 M o (by decide) (by decide)) ?_
          intro y g w
          by_cases qc : sgn T ln (pb T ln (cdN T ln k' (uN T ln k' (pb T ln a + 1))).2) = 41
          · rw [if_pos qc] at w fin
            obtain ⟨rfl, o⟩ := w
            exact c_X12_unit_73 hA0 (fun _ => fin _ _ ⟨b01, MPr.ok rfl (o.deep hk) (sp.mono (by omega))⟩) (fun _ => b01.nar) (fun z => by cases z)
          · rw [if_neg qc] at w fin
            obtain ⟨rfl, f⟩ := w
            exact c_X12_unit_73 hA0 (fun z => absurd rfl z) (fun z => absurd rfl z) (fun _ => fin _ _ ⟨Or.inl rfl, MPr.bad rfl f⟩)
    · rw [if_neg q40] at fin
      have n40 : ¬ lkI (sgn T ln (pb T ln a)) = 40 := fun z => q40 (e40.mp z)
      refine c_X12_unit_4 (P52 := fun _ _ => False) (P12 := fun _ _ => False) hA0 RO_rm hcs0 (fun _ _ => t_cmp0 (D := D) hA0 M hS o) ?_ (fun _ z => absurd z n40) (fun _ z => absurd z n40) (fun z => absurd z n33) (fun z => absurd z n33)
      rintro _ _ v g r
      exact c_X12_unit_96 (fin _ _ r) r.1.nar
def andN (T : Nat → Nat) (ln k a : Nat) : Res := andF T ln (uN T ln k) (uN T ln k a)
theorem p49a {Q : Option Value → AH → Prop} (q : VM X m_X12_part (D + 2) nx sz Q 18 [some (.ref 68), none, none, some (.int (opV 9 0 0)), none] [] h) : VM X m_X12_part (D + 2) nx sz Q 49 [some (.ref 68), none, none, some (.int 0), none] [.int 0] h := c_X12_part_49 (fun _ => q) (fun z => absurd rfl z) (fun z => absurd rfl z)
theorem p49b {Q : Option Value → AH → Prop} (q : VM X m_X12_part (D + 2) nx sz Q 18 [some (.ref 68), none, none, some (.int (opV 9 0 1)), none] [] h) : VM X m_X12_part (D + 2) nx sz Q 49 [some (.ref 68), none, none, some (.int 0), none] [.int 1] h := c_X12_part_49 (fun _ => q) (fun z => absurd rfl z) (fun z => absurd rfl z)
theorem p49c {Q : Option Value → AH → Prop} (q : VM X m_X12_part (D + 2) nx sz Q 18 [some (.ref 68), none, none, some (.int (opV 9 1 0)), none] [] h) : VM X m_X12_part (D + 2) nx sz Q 49 [some (.ref 68), none, none, some (.int 1), none] [.int 0] h := c_X12_part_49 (fun z => by cases z) (fun _ _ => q) (fun _ z => absurd rfl z)
theorem p49d {Q : Option Value → AH → Prop} (q : VM X m_X12_part (D + 2) nx sz Q 18 [some (.ref 68), none, none, some (.int (opV 9 1 1)), none] [] h) : VM X m_X12_part (D + 2) nx sz Q 49 [some (.ref 68), none, none, some (.int 1), none] [.int 1] h := c_X12_part_49 (fun z => by cases z) (fun _ z => by cases z) (fun _ _ => q)
theorem p40a {Q : Option Value → AH → Prop} (q : VM X m_X12_condition (D + 2) nx sz Q 7 [some (.ref 68), none, none, some (.int (opV 10 0 0)), none] [] h) : VM X m_X12_condition (D + 2) nx sz Q 40 [some (.ref 68), none, none, some (.int 0), none] [.int 0] h := c_X12_condition_40 (fun z => absurd rfl z) (fun _ _ => q) (fun _ z => absurd rfl z)
theorem p40b {Q : Option Value → AH → Prop} (q : VM X m_X12_condition (D + 2) nx sz Q 7 [some (.ref 68), none, none, some (.int (opV 10 0 1)), none] [] h) : VM X m_X12_condition (D + 2) nx sz Q 40 [some (.ref 68), none, none, some (.int 0), none] [.int 1] h := c_X12_condition_40 (fun z => absurd rfl z) (fun _ z => by cases z) (fun _ _ => q)
theorem p40c {Q : Option Value → AH → Prop} (q : VM X m_X12_condition (D + 2) nx sz Q 7 [some (.ref 68), none, none, some (.int (opV 10 1 0)), none] [] h) : VM X m_X12_condition (D + 2) nx sz Q 40 [some (.ref 68), none, none, some (.int 1), none] [.int 0] h := c_X12_condition_40 (fun _ => q) (fun z => by cases z) (fun z => by cases z)
theorem p40d {Q : Option Value → AH → Prop} (q : VM X m_X12_condition (D + 2) nx sz Q 7 [some (.ref 68), none, none, some (.int (opV 10 1 1)), none] [] h) : VM X m_X12_condition (D + 2) nx sz Q 40 [some (.ref 68), none, none, some (.int 1), none] [.int 1] h := c_X12_condition_40 (fun _ => q) (fun z => by cases z) (fun z => by cases z)
theorem p_part {Q : Option Value → AH → Prop} {r0 : Res} {v0 : Int32} (hA0 : 91 ≤ nx) (M : Mtx h0 rt b0 T ln) (hE : ∀ g a, Om h0 g ln a k → Mk X (D + 1) m_X12_unit [.ref 68] g nx sz (RI (MB h0 p ln (2 * k + 4) k (uN T ln k a)))) (h1 : ∀ c, r0.1 = some c → 1 ≤ r0.2) (rr : MB h0 p ln (2 * k + 4) k r0 v0 h) (fin : ∀ y g, MB h0 p ln (2 * k + 5) k (LPf T ln (fun a => uN T ln k a) andS 200 r0 none) y g → Q (some (.int y)) g) : VM X m_X12_part (D + 2) nx sz Q 18 [some (.ref 68), none, none, some (.int v0), none] [] h := by
  have t1 := M.2.2.2.1
  have hB := M.2.2.2.2.2.1
  have gde : ∀ a, a ≤ ln → Gd pS ln a 0 (uN T ln k a) := fun a ha => uN_gd k a ha
  have bad : ∀ V g q, B01 V → Fm h0 g ln q → Q (some (.int V)) g → VM X m_X12_part (D + 2) nx sz Q 18 [some (.ref 68), none, none, some (.int V), none] [] g := fun V g q bv f z => c_X12_part_18 (d := D + 1) (P27 := fun _ _ => False) hA0 RO_rm hcs0 (fun _ => z) (fun _ => bv.nar) (fun z => absurd z (f.ne t1)) (fun z => absurd z (f.ne t1))
  have key : ∀ (f : Nat) (W0 w : List Nat) (b : Nat) (pd : Option Nat) (V : Int32) (g : AH), Om h0 g ln b k → B01 V → SP p (2 * k + 5) (W0 ++ (w ++ opl pd)) V → 200 ≤ b + f → (∀ y g, MB h0 p ln (2 * k + 5) k (pre W0 (LPf T ln (fun a => uN T ln k a) andS (f + 1) (some w, b) pd)) y g → Q (some (.int y)) g) → VM X m_X12_part (D + 2) nx sz Q 18 [some (.ref 68), none, none, some (.int V), none] [] g := by
    intro f
    induction f with
    | zero =>
      intro W0 w b pd V g o bv sp hb fin
      obtain ⟨b1, b2, b3⟩ := pb_le (T := T) (ln := ln) (a := b) o.2.1
      have e0 : sgn T ln (pb T ln b) = 0 := if_neg (by have := o.2.1; omega)
      have q : andS (sgn T ln (pb T ln b)) = none := by rw [e0]; rfl
      rw [LP_stop (r := (some w, b)) rfl q] at fin
      refine c_X12_part_18 hA0 RO_rm hcs0 (fun z => absurd o.2.2.2.1 z) (fun z => absurd o.2.2.2.1 z) (fun _ => t_lookO (d := D + 1) hA0 M o) ?_
      rintro _ _ g ⟨rfl, -, o⟩
      rw [e0]
      have n1 : ¬ lkI 0 = 38 := by decide
      exact c_X12_part_30 (d := D + 1) (P46 := fun _ _ => False) hA0 RO_rm hcs0 (fun _ => fin _ _ ⟨bv, by rw [pre_some (c := w ++ opl pd) rfl]; exact MPr.ok rfl o sp⟩) (fun _ => bv.nar) (fun z => absurd z n1) (fun z => absurd z n1)
    | succ f ih =>
      intro W0 w b pd V g o bv sp hb fin
      have hbl := o.2.1
      obtain ⟨b1, b2, b3⟩ := pb_le (T := T) (ln := ln) (a := b) o.2.1
      have hs := sgn_le (a := pb T ln b) hB
      have e1 := lkI_eq (c := 38) hs (by decide) (by decide)
      refine c_X12_part_18 hA0 RO_rm hcs0 (fun z => absurd o.2.2.2.1 z) (fun z => absurd o.2.2.2.1 z) (fun _ => t_lookO (d := D + 1) hA0 M o) ?_
      rintro _ _ g ⟨rfl, -, o⟩
      by_cases qs : sgn T ln (pb T ln b) = 38
      · have q : andS (sgn T ln (pb T ln b)) = some 9 := if_pos qs
        have lq := sgn_pos (and_ok q).2
        rw [LP_more (r := (some w, b)) rfl q] at fin
        have fin : ∀ y g, MB h0 p ln (2 * k + 5) k (pre W0 (pre (w ++ opl pd) (LPf T ln (fun a => uN T ln k a) andS (f + 1) (uN T ln k (pb T ln b + 1)) (some 9)))) y g → Q (some (.int y)) g := fin
        have ge := gde (pb T ln b + 1) (by omega)
        refine c_X12_part_30 hA0 RO_rm hcs0 (fun z => absurd (e1.mpr qs) z) (fun z => absurd (e1.mpr qs) z) (fun _ => by rw [o.2.2.1, nI_1]; exact hE _ _ (o.at (by omega))) ?_
        intro _ v g r
        have nxt : B01 (opV 9 V v) → VM X m_X12_part (D + 2) nx sz Q 18 [some (.ref 68), none, none, some (.int (opV 9 V v)), none] [] g := fun bo => by
          cases e : (uN T ln k (pb T ln b + 1)).1 with
          | none =>
            have l1 := LP_none (T := T) (ln := ln) (el := fun a => uN T ln k a) (sg := andS) (pd := some 9) e (f + 1)
            have l2 := pre_none (w := w ++ opl pd) l1.1
            have l3 := pre_none (w := W0) l2.1
            have fm := r.2.of_none e
            exact bad _ _ _ bo fm (fin _ _ ⟨bo, MPr.bad l3.1 (by rw [l3.2, l2.2, l1.2]; exact fm)⟩)
          | some w' =>
            obtain ⟨o, sp'⟩ := r.2.of_some e
            obtain ⟨g1, g2, -⟩ := ge.2 w' e
            have er : (uN T ln k (pb T ln b + 1)) = (some w', (uN T ln k (pb T ln b + 1)).2) := Prod.ext e rfl
            refine ih (W0 ++ (w ++ opl pd)) w' (uN T ln k (pb T ln b + 1)).2 (some 9) _ g o bo (SP_op sp sp' (by omega) (by decide) (by decide)) (by omega) (fun y g r => fin y g ?_)
            rw [← er] at r
            rw [pre_pre]
            exact r
        have b2 := r.1
        rcases bv with rfl | rfl
        · rcases b2 with rfl | rfl
          · exact p49a (nxt (Or.inl rfl))
          · exact p49b (nxt (Or.inl rfl))
        · rcases b2 with rfl | rfl
          · exact p49c (nxt (Or.inl rfl))
          · exact p49d (nxt (Or.inr rfl))
      · have q : andS (sgn T ln (pb T ln b)) = none := if_neg qs
        rw [LP_stop (r := (some w, b)) rfl q] at fin
        exact c_X12_part_30 (d := D + 1) (P46 := fun _ _ => False) hA0 RO_rm hcs0 (fun _ => fin _ _ ⟨bv, by rw [pre_some (c := w ++ opl pd) rfl]; exact MPr.ok rfl o sp⟩) (fun _ => bv.nar) (fun z => absurd (e1.mp z) qs) (fun z => absurd (e1.mp z) qs)
  cases e : r0.1 with
  | none =>
    have l1 := LP_none (T := T) (ln := ln) (el := fun a => uN T ln k a) (sg := andS) (pd := none) e 200
    have fm := rr.2.of_none e
    exact bad _ _ _ rr.1 fm (fin _ _ ⟨rr.1, MPr.bad l1.1 (by rw [l1.2]; exact fm)⟩)
  | some w =>
    obtain ⟨o, sp⟩ := rr.2.of_some e
    have g1 := h1 w e
    have er : r0 = (some w, r0.2) := Prod.ext e rfl
    refine key 199 [] w _ none v0 h o rr.1 ?_ (by omega) (fun y g r => fin y g ?_)
    · show SP p _ (w ++ []) v0
      rw [List.append_nil]
      exact sp.mono (by omega)
    · rw [← er, pre_nil] at r
      exact r
theorem p_condition {Q : Option Value → AH → Prop} {r0 : Res} {v0 : Int32} (hA0 : 91 ≤ nx) (M : Mtx h0 rt b0 T ln) (hE : ∀ g a, Om h0 g ln a k → Mk X (D + 1) m_X12_part [.ref 68, .int 0, .int 0] g nx sz (RI (MB h0 p ln (2 * k + 5) k (andN T ln k a)))) (h1 : ∀ c, r0.1 = some c → 1 ≤ r0.2) (rr : MB h0 p ln (2 * k + 5) k r0 v0 h) (fin : ∀ y g, MB h0 p ln (2 * k + 6) k (LPf T ln (fun a => andN T ln k a) orS 200 r0 none) y g → Q (some (.int y)) g) : VM X m_X12_condition (D + 2) nx sz Q 7 [some (.ref 68), none, none, some (.int v0), none] [] h := by
  have t1 := M.2.2.2.1
  have hB := M.2.2.2.2.2.1
  have gde : ∀ a, a ≤ ln → Gd pS ln a 0 (andN T ln k a) := fun a ha => and_gd (uN_gd k) (uN_gd k a ha)
  have bad : ∀ V g q, B01 V → Fm h0 g ln q → Q (some (.int V)) g → VM X m_X12_condition (D + 2) nx sz Q 7 [some (.ref 68), none, none, some (.int V), none] [] g := fun V g q bv f z => c_X12_condition_7 (d := D + 1) (P16 := fun _ _ => False) hA0 RO_rm hcs0 (fun _ => z) (fun _ => bv.nar) (fun z => absurd z (f.ne t1)) (fun z => absurd z (f.ne t1))
  have key : ∀ (f : Nat) (W0 w : List Nat) (b : Nat) (pd : Option Nat) (V : Int32) (g : AH), Om h0 g ln b k → B01 V → SP p (2 * k + 6) (W0 ++ (w ++ opl pd)) V → 200 ≤ b + f → (∀ y g, MB h0 p ln (2 * k + 6) k (pre W0 (LPf T ln (fun a => andN T ln k a) orS (f + 1) (some w, b) pd)) y g → Q (some (.int y)) g) → VM X m_X12_condition (D + 2) nx sz Q 7 [some (.ref 68), none, none, some (.int V), none] [] g := by
    intro f
    induction f with
    | zero =>
      intro W0 w b pd V g o bv sp hb fin
      obtain ⟨b1, b2, b3⟩ := pb_le (T := T) (ln := ln) (a := b) o.2.1
      have e0 : sgn T ln (pb T ln b) = 0 := if_neg (by have := o.2.1; omega)
      have q : orS (sgn T ln (pb T ln b)) = none := by rw [e0]; rfl
      rw [LP_stop (r := (some w, b)) rfl q] at fin
      refine c_X12_condition_7 hA0 RO_rm hcs0 (fun z => absurd o.2.2.2.1 z) (fun z => absurd o.2.2.2.1 z) (fun _ => t_lookO (d := D + 1) hA0 M o) ?_
      rintro _ _ g ⟨rfl, -, o⟩
      rw [e0]
      have n1 : ¬ lkI 0 = 124 := by decide
      exact c_X12_condition_19 (d := D + 1) (P37 := fun _ _ => False) hA0 RO_rm hcs0 (fun _ => fin _ _ ⟨bv, by rw [pre_some (c := w ++ opl pd) rfl]; exact MPr.ok rfl o sp⟩) (fun _ => bv.nar) (fun z => absurd z n1) (fun z => absurd z n1)
    | succ f ih =>
      intro W0 w b pd V g o bv sp hb fin
      have hbl := o.2.1
      obtain ⟨b1, b2, b3⟩ := pb_le (T := T) (ln := ln) (a := b) o.2.1
      have hs := sgn_le (a := pb T ln b) hB
      have e1 := lkI_eq (c := 124) hs (by decide) (by decide)
      refine c_X12_condition_7 hA0 RO_rm hcs0 (fun z => absurd o.2.2.2.1 z) (fun z => absurd o.2.2.2.1 z) (fun _ => t_lookO (d := D + 1) hA0 M o) ?_
      rintro _ _ g ⟨rfl, -, o⟩
      by_cases qs : sgn T ln (pb T ln b) = 124
      · have q : orS (sgn T ln (pb T ln b)) = some 10 := if_pos qs
        have lq := sgn_pos (or_ok q).2
        rw [LP_more (r := (some w, b)) rfl q] at fin
        have fin : ∀ y g, MB h0 p ln (2 * k + 6) k (pre W0 (pre (w ++ opl pd) (LPf T ln (fun a => andN T ln k a) orS (f + 1) (andN T ln k (pb T ln b + 1)) (some 10)))) y g → Q (some (.int y)) g := fin
        have ge := gde (pb T ln b + 1) (by omega)
        refine c_X12_condition_19 hA0 RO_rm hcs0 (fun z => absurd (e1.mpr qs) z) (fun z => absurd (e1.mpr qs) z) (fun _ => by rw [o.2.2.1, nI_1]; exact hE _ _ (o.at (by omega))) ?_
        intro _ v g r
        have nxt : B01 (opV 10 V v) → VM X m_X12_condition (D + 2) nx sz Q 7 [some (.ref 68), none, none, some (.int (opV 10 V v)), none] [] g := fun bo => by
          cases e : (andN T ln k (pb T ln b + 1)).1 with
          | none =>
            have l1 := LP_none (T := T) (ln := ln) (el := fun a => andN T ln k a) (sg := orS) (pd := some 10) e (f + 1)
            have l2 := pre_none (w := w ++ opl pd) l1.1
            have l3 := pre_none (w := W0) l2.1
            have fm := r.2.of_none e
            exact bad _ _ _ bo fm (fin _ _ ⟨bo, MPr.bad l3.1 (by rw [l3.2, l2.2, l1.2]; exact fm)⟩)
          | some w' =>
            obtain ⟨o, sp'⟩ := r.2.of_some e
            obtain ⟨g1, g2, -⟩ := ge.2 w' e
            have er : (andN T ln k (pb T ln b + 1)) = (some w', (andN T ln k (pb T ln b + 1)).2) := Prod.ext e rfl
            refine ih (W0 ++ (w ++ opl pd)) w' (andN T ln k (pb T ln b + 1)).2 (some 10) _ g o bo (SP_op sp sp' (by omega) (by decide) (by decide)) (by omega) (fun y g r => fin y g ?_)
            rw [← er] at r
            rw [pre_pre]
            exact r
        have b2 := r.1
        rcases bv with rfl | rfl
        · rcases b2 with rfl | rfl
          · exact p40a (nxt (Or.inl rfl))
          · exact p40b (nxt (Or.inr rfl))
        · rcases b2 with rfl | rfl
          · exact p40c (nxt (Or.inr rfl))
          · exact p40d (nxt (Or.inr rfl))
      · have q : orS (sgn T ln (pb T ln b)) = none := if_neg qs
        rw [LP_stop (r := (some w, b)) rfl q] at fin
        exact c_X12_condition_19 (d := D + 1) (P37 := fun _ _ => False) hA0 RO_rm hcs0 (fun _ => fin _ _ ⟨bv, by rw [pre_some (c := w ++ opl pd) rfl]; exact MPr.ok rfl o sp⟩) (fun _ => bv.nar) (fun z => absurd (e1.mp z) qs) (fun z => absurd (e1.mp z) qs)
  cases e : r0.1 with
  | none =>
    have l1 := LP_none (T := T) (ln := ln) (el := fun a => andN T ln k a) (sg := orS) (pd := none) e 200
    have fm := rr.2.of_none e
    exact bad _ _ _ rr.1 fm (fin _ _ ⟨rr.1, MPr.bad l1.1 (by rw [l1.2]; exact fm)⟩)
  | some w =>
    obtain ⟨o, sp⟩ := rr.2.of_some e
    have g1 := h1 w e
    have er : r0 = (some w, r0.2) := Prod.ext e rfl
    refine key 199 [] w _ none v0 h o rr.1 ?_ (by omega) (fun y g r => fin y g ?_)
    · show SP p _ (w ++ []) v0
      rw [List.append_nil]
      exact sp.mono (by omega)
    · rw [← er, pre_nil] at r
      exact r
theorem cdN_pre {W : List Nat} {r : Res} : cdN T ln k (pre W r) = pre W (cdN T ln k r) := by
  show LPf T ln (fun a => andF T ln (uN T ln k) (uN T ln k a)) orS (199 + 1) (LPf T ln (uN T ln k) andS (199 + 1) (pre W r) none) none = _
  rw [LP_pre, LP_pre]
  rfl
theorem t_prt0 (hA0 : 91 ≤ nx) (M : Mtx h0 rt b0 T ln) (hU : UniM X (D + 1) nx sz h0 T p ln k) (o : Om h0 h ln a k) : Mk X (D + 2) m_X12_part [.ref 68, .int 0, .int 0] h nx sz (RI (MB h0 p ln (2 * k + 5) k (andN T ln k a))) := by
  refine e_X12_part (c_X12_part_0 (P7 := fun _ _ => False) hA0 RO_rm hcs0 (fun _ => hU h a o) ?_ (fun z => absurd rfl z) (fun z => absurd rfl z))
  intro _ v g r
  refine c_X12_part_17 (p_part hA0 M hU (fun c e => ?_) r (fun y g r => ⟨_, rfl, r⟩))
  have := ((uN_gd k a o.2.1).2 c e).2.1
  omega
theorem t_prt1 {b : Nat} {W : List Nat} {V : Int32} (hA0 : 91 ≤ nx) (M : Mtx h0 rt b0 T ln) (hS : SumM X D nx sz h0 T p ln k) (hU : UniM X (D + 1) nx sz h0 T p ln k) (o : Om h0 h ln b k) (sp : SP p (2 * k + 4) W V) (hD : 0 < D) : Mk X (D + 2) m_X12_part [.ref 68, .int 1, .int V] h nx sz (RI (MB h0 p ln (2 * k + 5) k (andF T ln (uN T ln k) (pre W (cmpF T ln k b))))) := by
  obtain ⟨D, rfl⟩ : ∃ D', D = D' + 1 := ⟨D - 1, by omega⟩
  refine e_X12_part (c_X12_part_0 (P14 := fun _ _ => False) hA0 RO_rm hcs0 (fun z => by cases z) (fun z => by cases z) (fun _ => t_cmp1 (D := D) hA0 M hS o sp) ?_)
  intro _ v g r
  refine c_X12_part_10 (c_X12_part_17 (p_part hA0 M hU (fun c e => ?_) r (fun y g r => ⟨_, rfl, r⟩)))
  cases e2 : (cmpF T ln k b).1 with
  | none =>
    have := (pre_none (w := W) e2).1
    rw [this] at e
    cases e
  | some c' =>
    rw [pre_some e2]
    have := ((cmp_gd (T := T) (k := k) o.2.1).2 c' e2).2.1
    show 1 ≤ (cmpF T ln k b).2
    omega
theorem t_con0 (hA0 : 91 ≤ nx) (M : Mtx h0 rt b0 T ln) (hU : UniM X (D + 1) nx sz h0 T p ln k) : ConM X (D + 3) nx sz h0 T p ln k := by
  intro h a o
  refine e_X12_condition (c_X12_condition_0 hA0 RO_rm hcs0 (t_prt0 hA0 M hU o) ?_)
  intro v g r
  refine c_X12_condition_6 (p_condition hA0 M (fun g a o => t_prt0 hA0 M hU o) (fun c e => ?_) r (fun y g r => ⟨_, rfl, r⟩))
  have gd : Gd pS ln a 0 (andN T ln k a) := and_gd (uN_gd k) (uN_gd k a o.2.1)
  have := (gd.2 c e).2.1
  omega
theorem t_con1 {b : Nat} {W : List Nat} {V : Int32} (hA0 : 91 ≤ nx) (M : Mtx h0 rt b0 T ln) (hS : SumM X D nx sz h0 T p ln k) (hU : UniM X (D + 1) nx sz h0 T p ln k) (o : Om h0 h ln b k) (sp : SP p (2 * k + 4) W V) (hD : 0 < D) : Mk X (D + 3) m_X12_condition [.ref 68, .int 1, .int V] h nx sz (RI (MB h0 p ln (2 * k + 6) k (pre W (cdN T ln k (cmpF T ln k b))))) := by
  refine e_X12_condition (c_X12_condition_0 hA0 RO_rm hcs0 (t_prt1 hA0 M hS hU o sp hD) ?_)
  intro v g r
  rw [← cdN_pre]
  refine c_X12_condition_6 (p_condition hA0 M (fun g a o => t_prt0 hA0 M hU o) (fun c e => ?_) r (fun y g r => ⟨_, rfl, r⟩))
  have gd : Gd pS ln b 0 (andF T ln (uN T ln k) (cmpF T ln k b)) := and_gd (uN_gd k) (cmp_gd o.2.1)
  have e2 : andF T ln (uN T ln k) (pre W (cmpF T ln k b)) = pre W (andF T ln (uN T ln k) (cmpF T ln k b)) := LP_pre 199
  rw [e2] at e ⊢
  cases e3 : (andF T ln (uN T ln k) (cmpF T ln k b)).1 with
  | none =>
    have := (pre_none (w := W) e3).1
    rw [this] at e
    cases e
  | some c' =>
    rw [pre_some e3]
    have := (gd.2 c' e3).2.1
    show 1 ≤ (andF T ln (uN T ln k) (cmpF T ln k b)).2
    omega
theorem t_unitK (hA0 : 91 ≤ nx) (hF : Fx h0) (M : Mtx h0 rt b0 T ln) (L : Let h0 p) : ∀ k, k ≤ 6 → ∀ D, UniM X (D + 3 * k + 9) nx sz h0 T p ln k
  | 0, hk, D => t_unit (D := D + 6) hA0 M hk (t_sumK hA0 hF M L 0 hk D) (fun k' e => by cases e) (fun k' e => by cases e)
  | k + 1, hk, D => by
    have s0 := t_sumK (X := X) (nx := nx) (sz := sz) hA0 hF M L (k + 1) hk D
    have u1 := t_unitK hA0 hF M L k (by omega) (D + 2)
    have u0 := t_unitK hA0 hF M L k (by omega) D
    have c0 := t_con0 (D := D + 3 * k + 8) hA0 M u0
    refine t_unit (D := D + 3 * k + 9) hA0 M hk s0 (fun k' e => ?_) (fun k' e => ?_)
    · cases e
      rw [show D + 3 * k + 9 + 2 = D + 2 + 3 * k + 9 by omega]
      exact u1
    · cases e
      exact c0
end OPS

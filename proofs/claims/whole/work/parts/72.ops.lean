/-! turn of the other side -/
section OPS
variable {X : CX} {d nx sz : Nat} {h : AH} {n : Nat} {K L : Nat → Int32} {M : Nat → Nat → Nat} {c : Nat}
/-- the net is K, what is kept is S, all else is h's, but for scratch -/
def TI (h g : AH) (S K : Nat → Int32) : Prop := ∃ g0, Sc h g0 ∧ g = setA (setA g0 84 S) 73 K
theorem TI.sc {g g' : AH} {S : Nat → Int32} (t : TI h g S K) (s : Et g g') : TI h g' S K := by
  obtain ⟨g0, s0, rfl⟩ := t
  have e : g'.1 73 = K := (s.row (by decide)).trans setA_self
  have e2 : g'.1 84 = S := (s.row (by decide)).trans ((setA_get_ne (by decide)).trans setA_self)
  refine ⟨setA g' 73 (h.1 73), ⟨fun a j hj => ?_, fun k j hkj => ?_, fun q => ?_⟩, ?_⟩
  · by_cases q : a = 73
    · subst q
      rw [setA_self]
    · have : a ≠ 84 := fun z => by rw [z] at hj; cases hj
      rw [setA_get_ne q]
      by_cases z : a = 68 ∧ 32 ≤ j ∧ j ≤ 37
      · obtain ⟨rfl, z1, z2⟩ := z
        have : j = 32 ∨ j = 33 ∨ j = 34 ∨ j = 35 ∨ j = 36 ∨ j = 37 := by omega
        rcases this with rfl | rfl | rfl | rfl | rfl | rfl <;> cases hj
      · rw [s.2 a j z, setA_get_ne q, setA_get_ne this, s0.1 a j hj]
  · show g'.2.2 k j = _
    rw [s.1]
    exact s0.2.1 k j hkj
  · have := s0.2.2 q
    unfold TXT at *
    show g'.2.2 68 6 = _ ∨ g'.2.2 68 6 = _
    rw [s.1]
    exact this
  · rw [setA_comm (by decide), setA_A, ← e, setA_id, ← e2, setA_id]
theorem TI.set {g : AH} {S K' : Nat → Int32} (t : TI h g S K) : TI h (setA g 73 K') S K' := by
  obtain ⟨g0, s0, rfl⟩ := t
  exact ⟨g0, s0, setA_A⟩
theorem TI.ct {g : AH} {S K0 : Nat → Int32} (m : CT h n K0 L M c) (t : TI h g S K) (hg : Gr n K) (hL : Lm n K L) : CT g n K L M c := by
  obtain ⟨g0, s0, rfl⟩ := t
  have s1 : Sc h (setA g0 84 S) := s0.setA rfl
  exact (m.sc s1).net hg hL
theorem t_turn73 {Q : Option Value → AH → Prop} {S : Nat → Int32} (hA0 : 91 ≤ nx) (m : CT h n K L M c) (hS : ∀ i, i < n → S i = K i) {K' : Nat → Int32} {g : AH} (t : TI h g S K') (hg' : Gr n K') (fin : ∀ g, Sc h g → Q (some (.int (-1))) g) : VM X m_X12_turn (d + 7) nx sz Q 73 [some (.ref 68), none, none, none, some (.int (nI 0))] [] g := by
  obtain ⟨hF, hP, e2, e3, hg, hL, hN, hc, hc9⟩ := id m
  have h20 := hP.2.1
  obtain ⟨g0, s0, rfl⟩ := t
  have h1 : ∀ f : Nat → Int32, (setA (setA g0 84 S) 73 f).1 68 1 = nI n := fun f => (hP.sc s0).mp.1
  have hFg : ∀ f : Nat → Int32, Fx (setA (setA g0 84 S) 73 f) := fun f => (hF.sc s0 : Fx g0)
  have key : VM X m_X12_turn (d + 7) nx sz Q 73 [some (.ref 68), none, none, none, some (.int (nI 0))] [] (setA (setA g0 84 S) 73 (upto 0 S K')) := by
    refine down_ind (N := n) (P := fun i => VM X m_X12_turn (d + 7) nx sz Q 73 [some (.ref 68), none, none, none, some (.int (nI i))] [] (setA (setA g0 84 S) 73 (upto i S K'))) ?_ (fun i hi q => ?_)
    · have yes : (setA (setA g0 84 S) 73 (upto n S K')).1 68 1 ≤ nI n := by rw [h1]; exact Int32.le_refl _
      refine c_X12_turn_73 hA0 (hFg _) (fun _ => fin _ ?_) (fun z => absurd yes z) (fun z => absurd yes z) (fun z => absurd yes z)
      have ek : upto n S K' = K := funext fun i => by
        unfold upto
        by_cases q : i < n
        · rw [if_pos q, hS i q]
        · rw [if_neg q]
          have z : ∀ {K : Nat → Int32}, Gr n K → K i = 0 := fun hg => tb_ext fun j _ => by rw [tb_0]; exact hg.out i j (by omega)
          rw [z hg', z hg]
      have s1 : Sc h (setA g0 84 S) := s0.setA rfl
      have e4 : (setA g0 84 S).1 73 = K := (s1.row (a := 73) (fun j => rfl)).trans e2
      rw [ek, ← e4, setA_id]
      exact s1
    · have no : ¬ (setA (setA g0 84 S) 73 (upto i S K')).1 68 1 ≤ nI i := fun z => by rw [h1, le_nI (by omega) (by omega)] at z; omega
      refine c_X12_turn_73 hA0 (hFg _) (fun z => absurd z no) (fun _ => vin (by omega) (by decide)) (fun _ => vin (by omega) (by decide)) (fun _ => ?_)
      rw [nI_1, tN (by omega), setA_get_ne (by decide), setA_self, setI_upto]
      exact q
  rw [upto_0] at key
  exact key
theorem t_turn45 {Q : Option Value → AH → Prop} {K0 S : Nat → Int32} {s : TS} (hA0 : 91 ≤ nx) (m : CT h n K0 L M c) (ok : TO n L s)
    (ring : trF L n M c s n = none → ∀ g K, TI h g S K → Gr n K → VM X m_X12_turn (d + 7) nx sz Q 73 [some (.ref 68), none, none, none, some (.int (nI 0))] [] g)
    (more : ∀ t g, trF L n M c s n = some t → TI h g S t.1 → VM X m_X12_turn (d + 7) nx sz Q 37 [some (.ref 68), some (.int (nI t.2)), some (.int (if t.2 = s.2 then 0 else 1)), none, none] [] g) :
    ∀ (k p : Nat) (t : TS) (g : AH), p + k = n → trF L n M c s p = some t → TI h g S t.1 → VM X m_X12_turn (d + 7) nx sz Q 45 [some (.ref 68), some (.int (nI t.2)), some (.int (if t.2 = s.2 then 0 else 1)), some (.int (nI p)), none] [] g := by
  have h20 := m.2.1.2.1
  intro k
  induction k with
  | zero =>
    intro p t g hp e th
    have hp : p = n := by omega
    subst hp
    obtain ⟨k1, k2⟩ := TO_tr h20 ok (Nat.le_refl _) e
    have mg := TI.ct m th k1.1 k1.2.1
    have yes : g.1 68 1 ≤ nI p := by rw [mg.2.1.mp.1]; exact Int32.le_refl _
    exact c_X12_turn_45 (d := d + 6) (P55 := fun _ _ => False) hA0 RO_rm hcs0 (fun _ => more t g e th) (fun z => absurd yes z) (fun z => absurd yes z)
  | succ k ih =>
    intro p t g hp e th
    obtain ⟨k1, k2⟩ := TO_tr h20 ok (by omega) e
    have mg := TI.ct m th k1.1 k1.2.1
    have ht40 := k1.2.2
    have hpn : p < n := by omega
    have no : ¬ g.1 68 1 ≤ nI p := fun z => by rw [mg.2.1.mp.1, le_nI (by omega) (by omega)] at z; omega
    have e1 : trF L n M c s (p + 1) = (match tkF t.1 L n M c p n with | none => some t | some e => if t.2 = 40 then none else some (mkK t.1 p e.2.1 e.1 e.2.2.1, t.2 + 1)) := by
      show (match trF L n M c s p with | none => none | some t => _) = _
      rw [e]
      rfl
    refine c_X12_turn_45 hA0 RO_rm hcs0 (fun z => absurd z no) (fun _ => t_hasBest (d := d) hA0 mg hpn) ?_
    rintro _ _ g2 ⟨rfl, s2, rr⟩
    have th2 := th.sc s2
    cases q : tkF t.1 L n M c p n with
    | none =>
      rw [q] at e1
      rw [if_pos rfl]
      refine c_X12_turn_58 (d := d + 6) (P118 := fun _ => False) hA0 RO_rm hcs0 (fun z => absurd rfl z) (fun z => absurd rfl z) (fun z => absurd rfl z) (fun _ => ?_)
      rw [nI_1]
      exact ih (p + 1) t g2 (by omega) e1 th2
    | some f =>
      obtain ⟨b, o, p', v⟩ := f
      rw [q] at e1 rr
      obtain ⟨r5, r6, r7⟩ := rr.2 b o p' v rfl
      rw [if_neg (show ¬ (some (b, o, p', v) : St) = none from fun z => by cases z)]
      obtain ⟨hb, w⟩ := bst_ok q
      obtain ⟨hab, hK, q3, q4⟩ := cbB_iff.mp (wn_cb w)
      have o1 := kn_lt k1.1 (mdB_kn q3)
      have o2 := kn_lt k1.1 (mdB_kn q4)
      have e1 : trF L n M c s (p + 1) = if t.2 = 40 then none else some (mkK t.1 p o b p', t.2 + 1) := e1
      have mg2 := mg.sc s2.sc
      by_cases h40 : t.2 = 40
      · rw [if_pos h40] at e1
        have en : ∀ k, trF L n M c s (p + 1 + k) = none := by
          intro k
          induction k with
          | zero => exact e1
          | succ k ihk =>
            show (match trF L n M c s (p + 1 + k) with | none => none | some t => _) = _
            rw [ihk]
        have en := en (n - (p + 1))
        rw [show p + 1 + (n - (p + 1)) = n by omega] at en
        exact c_X12_turn_58 (d := d + 6) (P118 := fun _ => False) hA0 RO_rm hcs0 (fun _ z => absurd (by rw [h40]; rfl) z) (fun _ z => absurd (by rw [h40]; rfl) z) (fun _ _ => ring en g2 t.1 th2 k1.1) (fun z => by cases z)
      · rw [if_neg h40] at e1
        refine c_X12_turn_58 hA0 RO_rm hcs0 (fun _ _ => by
          rw [r5, r6, r7]
          exact t_doChange (d := d + 5) hA0 mg2.1 (by omega) (by omega) (fun j hj => by have := o1 j hj; omega) (fun j hj => by have := o2 j hj; omega)) ?_ (fun _ z => absurd (nI_inj (by omega) (by decide) z) h40) (fun z => by cases z)
        rintro _ _ _ rfl
        refine c_X12_turn_121 ?_
        rw [nI_1, nI_1, mg2.2.2.1]
        have q9 := ih (p + 1) _ _ (by omega) e1 th2.set
        have hne : ¬ t.2 + 1 = s.2 := by omega
        have q9 : VM X m_X12_turn (d + 7) nx sz Q 45 [some (.ref 68), some (.int (nI (t.2 + 1))), some (.int (if t.2 + 1 = s.2 then 0 else 1)), some (.int (nI (p + 1))), none] [] (setA g2 73 (mkK t.1 p o b p')) := q9
        rw [if_neg hne] at q9
        exact q9
theorem t_turn (hA0 : 91 ≤ nx) (m : CT h n K L M c) : Mk X (d + 7) m_X12_turn [.ref 68] h nx sz (RI fun y g => match tnF L n M c 41 (K, 0) with
    | none => y = -1 ∧ Sc h g
    | some t => y = nI t.2 ∧ TO n L t ∧ ∃ g0, Sc h g0 ∧ g = setA g0 73 t.1) := by
  obtain ⟨hF, hP, e2, e3, hg, hL, hN, hc, hc9⟩ := id m
  have h20 := hP.2.1
  refine e_X12_turn (c_X12_turn_0 hA0 ?_)
  obtain ⟨Q, hQ⟩ : ∃ Q, Q = (RI fun y g => match tnF L n M c 41 (K, 0) with
    | none => y = -1 ∧ Sc h g
    | some t => y = nI t.2 ∧ TO n L t ∧ ∃ g0, Sc h g0 ∧ g = setA g0 73 t.1) := ⟨_, rfl⟩
  rw [← hQ]
  have s0 : Sc h (setI h 68 0 0) := Sc.rfl.setI rfl
  obtain ⟨S, eS⟩ : ∃ S, S = upto n K (h.1 84) := ⟨_, rfl⟩
  have hS : ∀ i, i < n → S i = K i := fun i hi => by rw [eS]; exact upto_lt hi
  have fin : ∀ (f r : Nat) (s : TS) (g : AH), r + f = 41 → r ≤ s.2 → TO n L s → TI h g S s.1 → tnF L n M c f s = tnF L n M c 41 (K, 0) → VM X m_X12_turn (d + 7) nx sz Q 45 [some (.ref 68), some (.int (nI s.2)), some (.int 0), some (.int (nI 0)), none] [] g := by
    intro f
    induction f with
    | zero =>
      intro r s g hr hrs ok th e
      have := ok.2.2
      omega
    | succ f ih =>
      intro r s g hr hrs ok th e
      have ef : tnF L n M c (f + 1) s = (match trF L n M c s n with | none => none | some t => if t.2 = s.2 then some t else tnF L n M c f t) := rfl
      rw [ef] at e
      have q := t_turn45 (X := X) (d := d) (nx := nx) (sz := sz) (Q := Q) (K0 := K) (S := S) (s := s) hA0 m ok (fun z g K' th' hg' => ?_) (fun t g z th' => ?_) n 0 s g (by omega) rfl th
      · rw [if_pos rfl] at q
        exact q
      · rw [z] at e
        refine t_turn73 hA0 m hS th' hg' (fun g sg => ?_)
        rw [hQ]
        refine ⟨_, rfl, ?_⟩
        rw [← e]
        exact ⟨rfl, sg⟩
      · rw [z] at e
        have e : (if t.2 = s.2 then some t else tnF L n M c f t) = _ := e
        obtain ⟨k1, k2⟩ := TO_tr h20 ok (Nat.le_refl _) z
        by_cases z2 : t.2 = s.2
        · rw [if_pos z2] at e ⊢
          refine c_X12_turn_37 (fun _ => ?_) (fun z => absurd rfl z)
          rw [hQ]
          refine ⟨_, rfl, ?_⟩
          rw [← e]
          obtain ⟨g0, sg, eg⟩ := th'
          exact ⟨rfl, k1, setA g0 84 S, sg.setA rfl, eg⟩
        · rw [if_neg z2] at e ⊢
          exact c_X12_turn_37 (fun z => by cases z) (fun _ => ih (r + 1) t g (by omega) (by omega) k1 th' e)
  have key : VM X m_X12_turn (d + 7) nx sz Q 7 [some (.ref 68), some (.int (nI 0)), none, none, none] [] (setA (setI h 68 0 0) 84 (upto 0 K (h.1 84))) := by
    refine down_ind (N := n) (P := fun i => VM X m_X12_turn (d + 7) nx sz Q 7 [some (.ref 68), some (.int (nI i)), none, none, none] [] (setA (setI h 68 0 0) 84 (upto i K (h.1 84)))) ?_ (fun i hi q => ?_)
    · have yes : (setA (setI h 68 0 0) 84 (upto n K (h.1 84))).1 68 1 ≤ nI n := by rw [show (setA (setI h 68 0 0) 84 (upto n K (h.1 84))).1 68 1 = h.1 68 1 from rfl, hP.mp.1]; exact Int32.le_refl _
      refine c_X12_turn_7 hA0 hF (fun _ => ?_) (fun z => absurd yes z) (fun z => absurd yes z) (fun z => absurd yes z)
      refine c_X12_turn_37 (fun z => by cases z) (fun _ => ?_)
      have th : TI h (setA (setI h 68 0 0) 84 S) S K := ⟨setI h 68 0 0, s0, by
        have : (setA (setI h 68 0 0) 84 S).1 73 = K := e2
        rw [← this, setA_id]⟩
      rw [← eS]
      exact fin 41 0 (K, 0) _ rfl (Nat.le_refl _) ⟨hg, hL, Nat.zero_le _⟩ th rfl
    · have no : ¬ (setA (setI h 68 0 0) 84 (upto i K (h.1 84))).1 68 1 ≤ nI i := fun z => by
        rw [show (setA (setI h 68 0 0) 84 (upto i K (h.1 84))).1 68 1 = h.1 68 1 from rfl, hP.mp.1, le_nI (by omega) (by omega)] at z
        omega
      refine c_X12_turn_7 hA0 hF (fun z => absurd z no) (fun _ => vin (by omega) (by decide)) (fun _ => vin (by omega) (by decide)) (fun _ => ?_)
      have e73 : (setA (setI h 68 0 0) 84 (upto i K (h.1 84))).1 73 = K := e2
      rw [nI_1, tN (by omega), e73, setI_upto]
      exact q
  have e0 : setA (setI h 68 0 0) 84 (upto 0 K (h.1 84)) = setI h 68 0 0 := by
    rw [upto_0]
    exact setA_id (h := setI h 68 0 0)
  rw [e0] at key
  exact key
end OPS

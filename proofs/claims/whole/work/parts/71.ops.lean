/-! turn -/
section OPS
variable {X : CX} {d nx sz : Nat} {h : AH} {n : Nat} {K L : Nat → Int32} {M : Nat → Nat → Nat} {c : Nat}
abbrev TS : Type := (Nat → Int32) × Nat
/-- one round, as far as p; none: a ring -/
def trF (L : Nat → Int32) (n : Nat) (M : Nat → Nat → Nat) (c : Nat) (s : TS) : Nat → Option TS
  | 0 => some s
  | p + 1 => match trF L n M c s p with
    | none => none
    | some t => match tkF t.1 L n M c p n with
      | none => some t
      | some e => if t.2 = 40 then none else some (mkK t.1 p e.2.1 e.1 e.2.2.1, t.2 + 1)
def tnF (L : Nat → Int32) (n : Nat) (M : Nat → Nat → Nat) (c : Nat) : Nat → TS → Option TS
  | 0, _ => none
  | f + 1, s => match trF L n M c s n with
    | none => none
    | some t => if t.2 = s.2 then some t else tnF L n M c f t
/-- a good state of it -/
def TO (n : Nat) (L : Nat → Int32) (s : TS) : Prop := Gr n s.1 ∧ Lm n s.1 L ∧ s.2 ≤ 40
theorem bst_ok {a b : Nat} {o p : Option Nat} {v : Int32} (h : tkF K L n M c a n = some (b, o, p, v)) : b < n ∧ wnB K L n M c a o b p = true := by
  have := okS_tk (K := K) (L := L) (n := n) (M := M) (c := c) (a := a) (Nat.le_refl n)
  rw [h] at this
  exact ⟨(this.2 b o p v rfl).1, (this.2 b o p v rfl).2.1⟩
theorem kn_lt {a : Nat} {o : Option Nat} (hg : Gr n K) (ho : kn K a o) : ∀ j, o = some j → j < n := fun j hj => (hg a j (ho j hj)).2.1
theorem TO_step {t : TS} {a b : Nat} {o p : Option Nat} {v : Int32} (hn : n ≤ 20) (ok : TO n L t) (ha : a < n) (h : tkF t.1 L n M c a n = some (b, o, p, v)) (h40 : ¬ t.2 = 40) : TO n L (mkK t.1 a o b p, t.2 + 1) := by
  obtain ⟨hb, w⟩ := bst_ok h
  obtain ⟨hab, hK, q3, q4⟩ := cbB_iff.mp (wn_cb w)
  refine ⟨mk_gr ok.1 hn ha hb hab hK (mdB_kn q3) (mdB_kn q4), mk_lm ok.1 ok.2.1 hn ha hb (wn_cb w), ?_⟩
  have := ok.2.2
  show t.2 + 1 ≤ 40
  omega
theorem TO_tr {s : TS} (hn : n ≤ 20) (ok : TO n L s) : ∀ {p : Nat} {t : TS}, p ≤ n → trF L n M c s p = some t → TO n L t ∧ s.2 ≤ t.2
  | 0, t, _, h => by
    cases h
    exact ⟨ok, Nat.le_refl _⟩
  | p + 1, t, hp, h => by
    unfold trF at h
    cases e : trF L n M c s p with
    | none => rw [e] at h; cases h
    | some t0 =>
      rw [e] at h
      obtain ⟨k1, k2⟩ := TO_tr hn ok (by omega) e
      have h : (match tkF t0.1 L n M c p n with | none => some t0 | some e => if t0.2 = 40 then none else some (mkK t0.1 p e.2.1 e.1 e.2.2.1, t0.2 + 1)) = some t := h
      cases q : tkF t0.1 L n M c p n with
      | none =>
        rw [q] at h
        cases h
        exact ⟨k1, k2⟩
      | some e =>
        obtain ⟨b, o, p', v⟩ := e
        rw [q] at h
        have h : (if t0.2 = 40 then none else some (mkK t0.1 p o b p', t0.2 + 1)) = some t := h
        by_cases h40 : t0.2 = 40
        · rw [if_pos h40] at h
          cases h
        · rw [if_neg h40] at h
          cases h
          exact ⟨TO_step hn k1 (by omega) q h40, by show s.2 ≤ t0.2 + 1; omega⟩
/-- a heap in the middle of it: the net is t's, all else is h's, but for scratch -/
def TH (h g : AH) (K : Nat → Int32) : Prop := ∃ g0, Eb h g0 ∧ g = setA g0 2 K
theorem TH.sc {g g' : AH} (t : TH h g K) (s : Eb g g') : TH h g' K := by
  obtain ⟨g0, s0, rfl⟩ := t
  have e : g'.1 2 = K := (s.row (c := 2) (by decide)).trans setA_self
  refine ⟨setA g' 2 (h.1 2), ⟨s.1.trans s0.1, fun a j hj => ?_⟩, ?_⟩
  · by_cases q : a = 2
    · subst q
      rw [setA_self]
    · rw [setA_get_ne q, s.2 a j hj, setA_get_ne q, s0.2 a j hj]
  · rw [setA_A, ← e, setA_id]
theorem TH.set {g : AH} {K' : Nat → Int32} (t : TH h g K) : TH h (setA g 2 K') K' := by
  obtain ⟨g0, s0, rfl⟩ := t
  exact ⟨g0, s0, setA_A⟩
theorem TH.cm {g : AH} {K0 : Nat → Int32} (m : CM h n K0 L M c) (t : TH h g K) (hg : Gr n K) (hL : Lm n K L) : CM g n K L M c := by
  obtain ⟨g0, s0, rfl⟩ := t
  exact (m.sc s0.sc).net hg hL
theorem s_turns15 {Q : Option Value → AH → Prop} {K0 : Nat → Int32} {s : TS} {r : Nat} (hA0 : 91 ≤ nx) (m : CM h n K0 L M c) (ok : TO n L s)
    (ring : trF L n M c s n = none → ∀ g K, TH h g K → Gr n K → Q (some (.int (-1))) g)
    (same : ∀ t g, trF L n M c s n = some t → t.2 = s.2 → TH h g t.1 → Q (some (.int (nI t.2))) g)
    (more : ∀ t g, trF L n M c s n = some t → ¬ t.2 = s.2 → TH h g t.1 → VM X m_X2_makeTurns (d + 7) nx sz Q 4 [some (.ref 40), some (.int (nI t.2)), some (.int (nI r + 1)), none, none] [] g) :
    ∀ (k p : Nat) (t : TS) (g : AH), p + k = n → trF L n M c s p = some t → TH h g t.1 → VM X m_X2_makeTurns (d + 7) nx sz Q 15 [some (.ref 40), some (.int (nI t.2)), some (.int (nI r)), some (.int (nI s.2)), some (.int (nI p))] [] g := by
  have h20 := m.2.1.2.1
  have hs40 := ok.2.2
  intro k
  induction k with
  | zero =>
    intro p t g hp e th
    have hp : p = n := by omega
    subst hp
    obtain ⟨k1, k2⟩ := TO_tr h20 ok (Nat.le_refl _) e
    have mg := TH.cm m th k1.1 k1.2.1
    have ht40 := k1.2.2
    have yes : g.1 1 0 ≤ nI p := by rw [(mg.2.1.np net1).2.1]; exact Int32.le_refl _
    refine c_X2_makeTurns_15 (d := d + 6) (P30 := fun _ _ => False) hA0 mg.1 RO_rm hcs0 (fun _ z => ?_) (fun _ z => ?_) (fun z => absurd yes z) (fun z => absurd yes z)
    · exact more t g e (fun y => z (by rw [y])) th
    · exact same t g e (nI_inj (by omega) (by omega) z) th
  | succ k ih =>
    intro p t g hp e th
    obtain ⟨k1, k2⟩ := TO_tr h20 ok (by omega) e
    have mg := TH.cm m th k1.1 k1.2.1
    have ht40 := k1.2.2
    have hpn : p < n := by omega
    have no : ¬ g.1 1 0 ≤ nI p := fun z => by rw [(mg.2.1.np net1).2.1, le_nI (by omega) (by omega)] at z; omega
    have e1 : trF L n M c s (p + 1) = (match tkF t.1 L n M c p n with | none => some t | some e => if t.2 = 40 then none else some (mkK t.1 p e.2.1 e.1 e.2.2.1, t.2 + 1)) := by
      show (match trF L n M c s p with | none => none | some t => _) = _
      rw [e]
    refine c_X2_makeTurns_15 hA0 mg.1 RO_rm hcs0 (fun z => absurd z no) (fun z => absurd z no) (fun _ => s_findBest (d := d) hA0 mg hpn) ?_
    rintro _ _ g2 ⟨rfl, s2, rr⟩
    have th2 := th.sc s2
    cases q : tkF t.1 L n M c p n with
    | none =>
      rw [q] at e1
      rw [if_pos rfl]
      refine c_X2_makeTurns_33 (d := d + 6) (P59 := fun _ => False) hA0 RO_rm hcs0 (fun _ => ?_) (fun z => absurd rfl z) (fun z => absurd rfl z) (fun z => absurd rfl z)
      rw [nI_1]
      exact ih (p + 1) t g2 (by omega) e1 th2
    | some f =>
      obtain ⟨b, o, p', v⟩ := f
      rw [q] at e1 rr
      obtain ⟨r5, r6, r7⟩ := rr.2 b o p' v rfl
      rw [if_neg (fun z => by cases z)]
      obtain ⟨hb, w⟩ := bst_ok q
      obtain ⟨hab, hK, q3, q4⟩ := cbB_iff.mp (wn_cb w)
      have o1 := kn_lt k1.1 (mdB_kn q3)
      have o2 := kn_lt k1.1 (mdB_kn q4)
      have e1 : trF L n M c s (p + 1) = if t.2 = 40 then none else some (mkK t.1 p o b p', t.2 + 1) := e1
      have mg2 := mg.sc s2.sc
      by_cases h40 : t.2 = 40
      · rw [if_pos h40] at e1
        have en : ∀ k, trF L n M c s (p + 1 + k) = none := by
          intro k
          induction k with
          | zero => exact e1
          | succ k ihk =>
            show (match trF L n M c s (p + 1 + k) with | none => none | some t => _) = _
            rw [ihk]
        have en := en (n - (p + 1))
        rw [show p + 1 + (n - (p + 1)) = n by omega] at en
        exact c_X2_makeTurns_33 (d := d + 6) (P59 := fun _ => False) hA0 RO_rm hcs0 (fun z => by cases z) (fun _ z => absurd (by rw [h40]; rfl) z) (fun _ z => absurd (by rw [h40]; rfl) z) (fun _ _ => ring en g2 t.1 th2 k1.1)
      · rw [if_neg h40] at e1
        refine c_X2_makeTurns_33 hA0 RO_rm hcs0 (fun z => by cases z) (fun _ _ => by
          rw [r5, r6, r7]
          exact s_make (d := d + 5) hA0 mg2.1 (by omega) (by omega) (fun j hj => by have := o1 j hj; omega) (fun j hj => by have := o2 j hj; omega)) ?_ (fun _ z => absurd (nI_inj (by omega) (by decide) z) h40)
        rintro _ _ _ rfl
        refine c_X2_makeTurns_62 ?_
        rw [nI_1, nI_1, mg2.2.2.1]
        exact ih (p + 1) _ _ (by omega) e1 th2.set
theorem s_makeTurns (hA0 : 91 ≤ nx) (m : CM h n K L M c) : Mk X (d + 7) m_X2_makeTurns [.ref 40] h nx sz (RI fun y g => match tnF L n M c 41 (K, 0) with
    | none => y = -1 ∧ ∃ K', TH h g K' ∧ Gr n K'
    | some t => y = nI t.2 ∧ TO n L t ∧ TH h g t.1) := by
  have h20 := m.2.1.2.1
  refine e_X2_makeTurns (c_X2_makeTurns_0 ?_)
  obtain ⟨Q, hQ⟩ : ∃ Q, Q = (RI fun y g => match tnF L n M c 41 (K, 0) with
    | none => y = -1 ∧ ∃ K', TH h g K' ∧ Gr n K'
    | some t => y = nI t.2 ∧ TO n L t ∧ TH h g t.1) := ⟨_, rfl⟩
  rw [← hQ]
  have key : ∀ (f r : Nat) (s : TS) (g : AH), r + f = 41 → r ≤ s.2 → TO n L s → TH h g s.1 → tnF L n M c f s = tnF L n M c 41 (K, 0) → VM X m_X2_makeTurns (d + 7) nx sz Q 4 [some (.ref 40), some (.int (nI s.2)), some (.int (nI r)), none, none] [] g := by
    intro f
    induction f with
    | zero =>
      intro r s g hr hrs ok th e
      have := ok.2.2
      omega
    | succ f ih =>
      intro r s g hr hrs ok th e
      have no : ¬ (40 : Int32) < nI r := fun z => by
        have z : nI 40 < nI r := z
        rw [nI_ltI (by decide) (by omega)] at z
        omega
      have ef : tnF L n M c (f + 1) s = (match trF L n M c s n with | none => none | some t => if t.2 = s.2 then some t else tnF L n M c f t) := rfl
      rw [ef] at e
      refine c_X2_makeTurns_4 (fun z => absurd z no) (fun _ => ?_)
      refine s_turns15 (K0 := K) (s := s) (r := r) hA0 m ok (fun z g K' th' hg' => ?_) (fun t g z z2 th' => ?_) (fun t g z z2 th' => ?_) n 0 s g (by omega) rfl th
      · rw [z] at e
        rw [hQ]
        refine ⟨_, rfl, ?_⟩
        rw [← e]
        exact ⟨rfl, K', th', hg'⟩
      · rw [z] at e
        have e : (if t.2 = s.2 then some t else tnF L n M c f t) = _ := e
        rw [if_pos z2] at e
        rw [hQ]
        refine ⟨_, rfl, ?_⟩
        rw [← e]
        exact ⟨rfl, (TO_tr h20 ok (Nat.le_refl _) z).1, th'⟩
      · rw [z] at e
        have e : (if t.2 = s.2 then some t else tnF L n M c f t) = _ := e
        rw [if_neg z2] at e
        obtain ⟨k1, k2⟩ := TO_tr h20 ok (Nat.le_refl _) z
        rw [nI_1]
        exact ih (r + 1) t g (by omega) (by omega) k1 th' e
  exact key 41 0 (K, 0) h rfl (Nat.le_refl _) ⟨m.2.2.2.2.1, m.2.2.2.2.2.1, Nat.zero_le _⟩ ⟨h, Eb.rfl, by rw [← m.2.2.1]; exact setA_id.symm⟩ rfl
theorem cp_lt {f g : Nat → Int32} {i : Nat} (h : i < 20) : cp f g i = f i := by
  unfold cp
  rw [pk_cpy_in (Nat.zero_le _) (by omega)]
  congr 1
  omega
theorem cp_ge {f g : Nat → Int32} {i : Nat} (h : 20 ≤ i) : cp f g i = g i := by
  unfold cp
  exact pk_cpy_out (Or.inr (by omega))
theorem cp_cp {f g s : Nat → Int32} (h : ∀ i, 20 ≤ i → s i = f i) : cp (cp f g) s = f := by
  funext i
  rcases Nat.lt_or_ge i 20 with q | q
  · rw [cp_lt q, cp_lt q]
  · rw [cp_ge q, h i q]
theorem Gr.z {i : Nat} (hg : Gr n K) (hn : n ≤ 20) (hi : 20 ≤ i) : K i = 0 := by
  apply tb_ext
  intro j _
  rw [tb_0]
  exact hg.out i j (by omega)
/-- the turns' answer, and the net behind -/
theorem s_turn (hA0 : 91 ≤ nx) (m : CM h n K L M c) : Mk X (d + 8) m_X11_turn [.ref 0] h nx sz (RI fun y g => match tnF L n M c 41 (K, 0) with
    | none => y = -1 ∧ Sc h g
    | some t => y = nI t.2 ∧ TO n L t ∧ ∃ g0, Sc h g0 ∧ g = setA g0 2 t.1) := by
  obtain ⟨hF, hP, e2, e3, hg, hL, hN, hc, hc9⟩ := id m
  have h20 := hP.2.1
  have net9 : IsNet 9 := Or.inr (Or.inr rfl)
  refine e_X11_turn (c_X11_turn_0 hA0 hF RO_rm hcs0 (s_copyE (d := d + 6) hA0 hF net9 net1 (by decide)) ?_)
  rintro _ rfl
  obtain ⟨g1, eg⟩ : ∃ g1, g1 = setA (setA (setA h (9 + 1) (cp (h.1 (1 + 1)) (h.1 (9 + 1)))) (9 + 2) (cp (h.1 (1 + 2)) (h.1 (9 + 2)))) (9 + 3) (cp (h.1 (1 + 3)) (h.1 (9 + 3))) := ⟨_, rfl⟩
  have s1 : Sc h g1 := by rw [eg]; exact ((Sc.rfl.setA rfl).setA rfl).setA rfl
  rw [← eg]
  have r10 : g1.1 10 = cp (h.1 2) (h.1 10) := by rw [eg]; rfl
  have r11 : g1.1 11 = cp (h.1 3) (h.1 11) := by rw [eg]; rfl
  have r12 : g1.1 12 = cp (h.1 4) (h.1 12) := by rw [eg]; rfl
  refine c_X11_turn_11 hA0 (hF.sc s1) RO_rm hcs0 (s_makeTurns (d := d) hA0 (m.sc s1)) ?_
  rintro y g2 hp2
  cases e : tnF L n M c 41 (K, 0) with
  | some t =>
    rw [e] at hp2
    obtain ⟨rfl, ok, g0, s0, rfl⟩ := hp2
    have ht40 := ok.2.2
    have hFg : Fx g0 := (hF.sc s1).sc s0.sc
    refine c_X11_turn_18 (d := d + 7) (P32 := fun _ => False) hA0 hFg RO_rm hcs0 (fun _ => c_X11_turn_35 ⟨_, rfl, rfl, ok, g0, s1.trans s0.sc, rfl⟩) (fun z => absurd z (nI_m1 (by omega))) (fun z => absurd z (nI_m1 (by omega)))
  | none =>
    rw [e] at hp2
    obtain ⟨rfl, K', ⟨g0, s0, rfl⟩, hg'⟩ := hp2
    have hFg : Fx g0 := (hF.sc s1).sc s0.sc
    refine c_X11_turn_18 hA0 hFg RO_rm hcs0 (fun z => absurd rfl z) (fun _ => s_copyE (d := d + 6) (h := setA g0 2 K') hA0 hFg net1 net9 (by decide)) ?_
    rintro _ _ rfl
    refine c_X11_turn_35 ⟨_, rfl, rfl, ?_⟩
    have q2 : cp ((setA g0 2 K').1 10) ((setA g0 2 K').1 2) = g0.1 2 := by
      rw [setA_self, setA_get_ne (by decide), s0.row (by decide), r10, s0.row (by decide), s1.row (a := 2) (fun j => rfl), e2]
      exact cp_cp (fun i hi => by rw [hg'.z h20 hi, hg.z h20 hi])
    have q3 : cp ((setA g0 2 K').1 11) ((setA g0 2 K').1 3) = g0.1 3 := by
      rw [setA_get_ne (by decide), setA_get_ne (by decide), s0.row (by decide), r11, s0.row (by decide), s1.row (a := 3) (fun j => rfl)]
      exact cp_cp (fun i _ => rfl)
    have q4 : cp ((setA g0 2 K').1 12) ((setA g0 2 K').1 4) = g0.1 4 := by
      rw [setA_get_ne (by decide), setA_get_ne (by decide), s0.row (by decide), r12, s0.row (by decide), s1.row (a := 4) (fun j => rfl)]
      exact cp_cp (fun i _ => rfl)
    have ef : setA (setA (setA (setA g0 2 K') (1 + 1) (cp ((setA g0 2 K').1 (9 + 1)) ((setA g0 2 K').1 (1 + 1)))) (1 + 2) (cp ((setA g0 2 K').1 (9 + 2)) ((setA g0 2 K').1 (1 + 2)))) (1 + 3) (cp ((setA g0 2 K').1 (9 + 3)) ((setA g0 2 K').1 (1 + 3))) = g0 := by
      show setA (setA (setA (setA g0 2 K') 2 (cp ((setA g0 2 K').1 10) ((setA g0 2 K').1 2))) 3 (cp ((setA g0 2 K').1 11) ((setA g0 2 K').1 3))) 4 (cp ((setA g0 2 K').1 12) ((setA g0 2 K').1 4)) = g0
      rw [q2, q3, q4, setA_A, setA_id, setA_id, setA_id]
    rw [ef]
    exact s1.trans s0.sc
end OPS

/-! changes: the other side -/
section OPS
variable {X : CX} {d nx sz : Nat} {h : AH} {n : Nat} {K L : Nat → Int32} {M : Nat → Nat → Nat} {c : Nat}
def CT (h : AH) (n : Nat) (K L : Nat → Int32) (M : Nat → Nat → Nat) (c : Nat) : Prop :=
  Fx h ∧ InvP h n ∧ h.1 73 = K ∧ h.1 75 = L ∧ Gr n K ∧ Lm n K L ∧ (∀ p, p < n → NeedT h n p (M p)) ∧ h.1 68 31 = nI c ∧ c ≤ 99
theorem CT.sc {g : AH} (m : CT h n K L M c) (s : Sc h g) : CT g n K L M c := by
  obtain ⟨m1, m2, m3, m4, m5, m6, m7, m8, m9⟩ := m
  refine ⟨m1.sc s, m2.sc s, (s.row (a := 73) (fun j => rfl)).trans m3, (s.row (a := 75) (fun j => rfl)).trans m4, m5, m6, fun p hp => ?_, (s.1 68 31 rfl).trans m8, m9⟩
  unfold NeedT
  rw [s.row (a := 83) (fun j => rfl)]
  exact m7 p hp
theorem CT.m99 (m : CT h n K L M c) : ∀ w, w < n → ∀ b, b < n → M w b ≤ 99 := fun w hw b hb => (m.2.2.2.2.2.2.1 w hw b hb).1
theorem CT.net {K' : Nat → Int32} (m : CT h n K L M c) (hg : Gr n K') (hL : Lm n K' L) : CT (setA h 73 K') n K' L M c := by
  obtain ⟨m1, m2, m3, m4, m5, m6, m7, m8, m9⟩ := m
  exact ⟨m1, m2.row (by decide), setA_self, m4, hg, hL, m7, m8, m9⟩
theorem t_doChange {a b : Nat} {o p : Option Nat} (hA0 : 91 ≤ nx) (hF : Fx h) (ha : a < 20) (hb : b < 20) (ho : ∀ j, o = some j → j < 20) (hp : ∀ j, p = some j → j < 20) : Mk X (d + 1) m_X12_doChange [.ref 68, .int (nI a), .int (ovI o), .int (nI b), .int (ovI p)] h nx sz (RVE (setA h 73 (mkK (h.1 73) a o b p))) := by
  refine Mk.rv fun Q hq => e_X12_doChange ?_
  have k30 : ∀ g : AH, Fx g → setA g 73 (joinK (g.1 73) a b) = setA h 73 (mkK (h.1 73) a o b p) → VM X m_X12_doChange (d + 1) nx sz Q 24 [some (.ref 68), some (.int (nI a)), none, some (.int (nI b)), none] [] g := fun g hFg e => by
    refine c_X12_doChange_24 hA0 RO_rm hcs0 (t_join (d := d) hA0 hFg ha hb) ?_
    rintro _ rfl
    refine c_X12_doChange_30 ?_
    rw [e]
    exact hq
  have k14 : ∀ g : AH, Fx g → setA g 73 (joinK (pO (g.1 73) b p) a b) = setA h 73 (mkK (h.1 73) a o b p) → VM X m_X12_doChange (d + 1) nx sz Q 11 [some (.ref 68), some (.int (nI a)), none, some (.int (nI b)), some (.int (ovI p))] [] g := fun g hFg e => by
    have pm := ov_m1 (o := p) (fun j hj => by have := hp j hj; omega)
    cases p with
    | none => exact c_X12_doChange_11 (d := d) (P21 := fun _ => False) hA0 RO_rm hcs0 (fun _ => k30 g hFg e) (fun z => absurd rfl z) (fun z => absurd rfl z)
    | some j =>
      refine c_X12_doChange_11 hA0 RO_rm hcs0 (fun z => by have := pm.mp z; cases this) (fun _ => t_part (d := d) hA0 hFg hb (hp j rfl)) ?_
      rintro _ _ rfl
      refine k30 _ hFg ?_
      rw [setA_A, setA_self]
      exact e
  have om := ov_m1 (o := o) (fun j hj => by have := ho j hj; omega)
  cases o with
  | none => exact c_X12_doChange_0 (d := d) (P8 := fun _ => False) hA0 RO_rm hcs0 (fun _ => k14 h hF rfl) (fun z => absurd rfl z) (fun z => absurd rfl z)
  | some j =>
    refine c_X12_doChange_0 hA0 RO_rm hcs0 (fun z => by have := om.mp z; cases this) (fun _ => t_part (d := d) hA0 hF ha (ho j rfl)) ?_
    rintro _ _ rfl
    refine k14 _ hF ?_
    rw [setA_A, setA_self]
    rfl
theorem t_undoChange {a b : Nat} {o p : Option Nat} (hA0 : 91 ≤ nx) (hF : Fx h) (ha : a < 20) (hb : b < 20) (ho : ∀ j, o = some j → j < 20) (hp : ∀ j, p = some j → j < 20) : Mk X (d + 1) m_X12_undoChange [.ref 68, .int (nI a), .int (ovI o), .int (nI b), .int (ovI p)] h nx sz (RVE (setA h 73 (unK (h.1 73) a o b p))) := by
  refine Mk.rv fun Q hq => e_X12_undoChange ?_
  have k23 : ∀ g : AH, Fx g → setA g 73 (jO (g.1 73) b p) = setA h 73 (unK (h.1 73) a o b p) → VM X m_X12_undoChange (d + 1) nx sz Q 17 [some (.ref 68), none, none, some (.int (nI b)), some (.int (ovI p))] [] g := fun g hFg e => by
    have pm := ov_m1 (o := p) (fun j hj => by have := hp j hj; omega)
    cases p with
    | none =>
      refine c_X12_undoChange_17 (d := d) (P27 := fun _ => False) hA0 RO_rm hcs0 (fun _ => c_X12_undoChange_30 ?_) (fun z => absurd rfl z) (fun z => absurd rfl z)
      have e : setA g 73 (g.1 73) = _ := e
      rw [setA_id] at e
      rw [e]
      exact hq
    | some j =>
      refine c_X12_undoChange_17 hA0 RO_rm hcs0 (fun z => by have := pm.mp z; cases this) (fun _ => t_join (d := d) hA0 hFg hb (hp j rfl)) ?_
      rintro _ _ rfl
      refine c_X12_undoChange_30 ?_
      have e : setA g 73 (joinK (g.1 73) b j) = _ := e
      rw [e]
      exact hq
  have k9 : ∀ g : AH, Fx g → setA g 73 (jO (jO (g.1 73) a o) b p) = setA h 73 (unK (h.1 73) a o b p) → VM X m_X12_undoChange (d + 1) nx sz Q 6 [some (.ref 68), some (.int (nI a)), some (.int (ovI o)), some (.int (nI b)), some (.int (ovI p))] [] g := fun g hFg e => by
    have om := ov_m1 (o := o) (fun j hj => by have := ho j hj; omega)
    cases o with
    | none => exact c_X12_undoChange_6 (d := d) (P14 := fun _ => False) hA0 RO_rm hcs0 (fun _ => k23 g hFg e) (fun z => absurd rfl z) (fun z => absurd rfl z)
    | some j =>
      refine c_X12_undoChange_6 hA0 RO_rm hcs0 (fun z => by have := om.mp z; cases this) (fun _ => t_join (d := d) hA0 hFg ha (ho j rfl)) ?_
      rintro _ _ rfl
      refine k23 _ hFg ?_
      rw [setA_A, setA_self]
      exact e
  refine c_X12_undoChange_0 hA0 RO_rm hcs0 (t_part (d := d) hA0 hF ha hb) ?_
  rintro _ rfl
  refine k9 _ hF ?_
  rw [setA_A, setA_self]
  rfl
theorem setA_setI {a b i : Nat} {f : Nat → Int32} {x : Int32} (e : a ≠ b) : setA (setI h b i x) a f = setI (setA h a f) b i x := by
  refine Prod.ext (funext fun k => funext fun j => ?_) rfl
  show (if k = a then f else (setI h b i x).1 k) j = (if k = b ∧ j = i then x else (setA h a f).1 k j)
  by_cases c1 : k = a
  · rw [if_pos c1, if_neg (fun z => e (c1.symm.trans z.1)), c1, setA_self]
  · rw [if_neg c1]
    show (if k = b ∧ j = i then x else h.1 k j) = _
    by_cases c2 : k = b ∧ j = i
    · rw [if_pos c2, if_pos c2]
    · rw [if_neg c2, if_neg c2, setA_get_ne c1]
theorem t_layGains {a b : Nat} {o p : Option Nat} (hA0 : 91 ≤ nx) (m : CT h n K L M c) (ha : a < n) (hb : b < n) (hab : a ≠ b) (hK : tb (K a) b = false) (ho : kn K a o) (hp : kn K b p) : Mk X (d + 4) m_X12_layGains [.ref 68, .int (nI a), .int (ovI o), .int (nI b), .int (ovI p)] h nx sz (RVE (setI (setI h 68 32 (gI K n M c a o b p true)) 68 33 (gI K n M c a o b p false))) := by
  obtain ⟨hF, hP, e2, e3, hg, hL, hN, hc, hc9⟩ := id m
  have h20 := hP.2.1
  have o20 : ∀ j, o = some j → j < 20 := fun j hj => by have := (hg a j (ho j hj)).2.1; omega
  have p20 : ∀ j, p = some j → j < 20 := fun j hj => by have := (hg b j (hp j hj)).2.1; omega
  have om := ov_m1 (o := o) (fun j hj => by have := o20 j hj; omega)
  have pm := ov_m1 (o := p) (fun j hj => by have := p20 j hj; omega)
  refine Mk.rv fun Q hq => e_X12_layGains ?_
  have vals : ∀ w, w < n → Mk X (d + 3) m_X12_valueOf [.ref 68, .int (nI w)] h nx sz (RE (nI (vN K n w (M w))) h) := fun w hw => by
    have q := t_valueOf (X := X) (d := d) (nx := nx) (sz := sz) hA0 hF hP.mp (by rw [e2]; exact hg.kb) hw (hN w hw)
    rw [e2] at q
    exact q
  refine c_X12_layGains_0 hA0 RO_rm hcs0 (vals a ha) ?_
  rintro _ _ ⟨rfl, rfl⟩
  refine c_X12_layGains_5 hA0 RO_rm hcs0 (vals b hb) ?_
  rintro _ _ ⟨rfl, rfl⟩
  refine c_X12_layGains_12 hA0 RO_rm hcs0 (t_doChange (d := d + 2) hA0 hF (by omega) (by omega) o20 p20) ?_
  rintro _ rfl
  rw [e2]
  obtain ⟨K', eK⟩ : ∃ K', K' = mkK K a o b p := ⟨_, rfl⟩
  rw [← eK]
  have hg' : Gr n K' := by rw [eK]; exact mk_gr hg h20 ha hb hab hK ho hp
  have vals2 : ∀ (g : AH) (w : Nat), w < n → g.2 = h.2 → g.1 68 1 = h.1 68 1 → g.1 83 = h.1 83 → g.1 73 = K' → Mk X (d + 3) m_X12_valueOf [.ref 68, .int (nI w)] g nx sz (RE (nI (vN K' n w (M w))) g) := fun g w hw g2 g1 g83 g73 => by
    have q := t_valueOf (X := X) (d := d) (nx := nx) (sz := sz) (h := g) hA0 (hF.of g2) ⟨g1.trans hP.mp.1, hP.mp.2⟩ (by rw [g73]; exact hg'.kb) hw (by
      unfold NeedT
      rw [g83]
      exact hN w hw)
    rw [g73] at q
    exact q
  have ga : gI K n M c a o b p true = (nI (vN K' n a (M a)) - nI (vN K n a (M a))) - (if o = none then 0 else nI c) := by rw [eK]; rfl
  have gb : gI K n M c a o b p false = (nI (vN K' n b (M b)) - nI (vN K n b (M b))) - (if p = none then 0 else nI c) := by rw [eK]; rfl
  refine c_X12_layGains_23 hA0 RO_rm hcs0 (vals2 _ a ha rfl rfl rfl setA_self) ?_
  rintro _ _ ⟨rfl, rfl⟩
  have c2 : (setA h 73 K').1 68 31 = nI c := hc
  obtain ⟨g1, eg1⟩ : ∃ g1, g1 = setI (setA h 73 K') 68 32 (gI K n M c a o b p true) := ⟨_, rfl⟩
  have v1 : Mk X (d + 3) m_X12_valueOf [.ref 68, .int (nI b)] g1 nx sz (RE (nI (vN K' n b (M b))) g1) := vals2 g1 b hb (by rw [eg1]; rfl) (by rw [eg1]; rfl) (by rw [eg1]; rfl) (by
    rw [eg1]
    funext j
    rw [setI_b (by decide), setA_self])
  have rest : VM X m_X12_layGains (d + 4) nx sz Q 55 [some (.ref 68), some (.int (nI a)), some (.int (ovI o)), some (.int (nI b)), some (.int (ovI p)), none, some (.int (nI (vN K n b (M b))))] [.int (nI (vN K' n b (M b))), .ref 68] g1 := by
    have c3 : g1.1 68 31 = nI c := by rw [eg1]; exact hc
    have hFg : Fx g1 := by rw [eg1]; exact hF
    have un : ∀ x, x = gI K n M c a o b p false → Mk X (d + 3) m_X12_undoChange [.ref 68, .int (nI a), .int (ovI o), .int (nI b), .int (ovI p)] (setI g1 68 33 x) nx sz (RVE (setI (setI h 68 32 (gI K n M c a o b p true)) 68 33 (gI K n M c a o b p false))) := fun x ex => by
      have q := t_undoChange (X := X) (d := d + 2) (nx := nx) (sz := sz) (h := setI g1 68 33 x) hA0 hFg (a := a) (b := b) (o := o) (p := p) (by omega) (by omega) o20 p20
      have e73 : (setI g1 68 33 x).1 73 = K' := by
        rw [eg1]
        funext j
        rw [setI_b (by decide), setI_b (by decide), setA_self]
      rw [e73, eK, un_mk hg h20 ha hb hab hK ho hp, setA_setI (by decide), eg1, setA_setI (by decide), setA_A] at q
      have e5 : setA h 73 K = h := by rw [← e2]; exact setA_id
      rw [e5, ex] at q
      rw [eg1, ex]
      exact q
    refine c_X12_layGains_55 (P82 := fun g => setI (setI h 68 32 (gI K n M c a o b p true)) 68 33 (gI K n M c a o b p false) = g) (P82_1 := fun g => setI (setI h 68 32 (gI K n M c a o b p true)) 68 33 (gI K n M c a o b p false) = g) hA0 RO_rm hcs0 (fun z => un _ ?_) ?_ (fun z => un _ ?_) ?_
    · rw [gb, c3, if_neg (fun y => z (pm.mpr y))]
    · rintro _ _ rfl
      exact c_X12_layGains_85 hq
    · rw [gb, if_pos (pm.mp z)]
    · rintro _ _ rfl
      exact c_X12_layGains_85 hq
  by_cases q : o = none
  · have ex : setI (setA h 73 K') 68 32 ((nI (vN K' n a (M a)) - nI (vN K n a (M a))) - 0) = g1 := by rw [eg1, ga, if_pos q]
    refine c_X12_layGains_29 (d := d + 3) (P52 := fun _ _ => False) (P52_1 := fun y g => y = nI (vN K' n b (M b)) ∧ g1 = g) hA0 RO_rm hcs0 (fun z => absurd (om.mpr q) z) (fun z => absurd (om.mpr q) z) (fun _ => by rw [ex]; exact v1) ?_
    rintro _ _ _ ⟨rfl, rfl⟩
    exact rest
  · have ex : setI (setA h 73 K') 68 32 ((nI (vN K' n a (M a)) - nI (vN K n a (M a))) - (setA h 73 K').1 68 31) = g1 := by rw [eg1, ga, if_neg q, c2]
    refine c_X12_layGains_29 (d := d + 3) (P52 := fun y g => y = nI (vN K' n b (M b)) ∧ g1 = g) (P52_1 := fun _ _ => False) hA0 RO_rm hcs0 (fun _ => by rw [ex]; exact v1) ?_ (fun z => absurd (om.mp z) q) (fun z => absurd (om.mp z) q)
    rintro _ _ _ ⟨rfl, rfl⟩
    exact rest
def tdB (K : Nat → Int32) (i : Nat) : Option Nat → Bool
  | none => true
  | some j => tb (K i) j
theorem t_mayDrop {i : Nat} {o : Option Nat} (hA0 : 91 ≤ nx) (m : CT h n K L M c) (hi : i < n) (ho : ∀ j, o = some j → j < n) : Mk X (d + 1) m_X12_mayDrop [.ref 68, .int (nI i), .int (ovI o)] h nx sz (RE (if tdB K i o = true then 1 else 0) h) := by
  obtain ⟨hF, hP, e2, e3, hg, hL, hN, hc, hc9⟩ := id m
  have h20 := hP.2.1
  have om := ov_m1 (o := o) (fun j hj => by have := ho j hj; omega)
  refine Mk.re fun Q hq => e_X12_mayDrop ?_
  cases o with
  | none => exact c_X12_mayDrop_0 (d := d) (P7 := fun _ _ => False) hA0 RO_rm hcs0 (fun _ => hq) (fun z => absurd rfl z) (fun z => absurd rfl z)
  | some j =>
    have hj := ho j rfl
    refine c_X12_mayDrop_0 hA0 RO_rm hcs0 (fun z => by have := om.mp z; cases this) (fun _ => t_isOne (d := d) hA0 hP.mp) ?_
    rintro _ _ g ⟨rfl, rfl⟩
    have e1 : hasI n (ovI (some j)) = 1 := hasI_nI (by omega) hj
    rw [e1]
    refine c_X12_mayDrop_10 hA0 hF RO_rm hcs0 (fun z => by cases z) (fun _ => vin (by omega) (by decide)) (fun _ => t_has (d := d) (i := j) (by omega)) ?_
    rintro _ _ g ⟨rfl, rfl⟩
    rw [tN (by omega), e2]
    have e3 : (if tb (K i) j = true then (1 : Int32) else 0) = if tdB K i (some j) = true then 1 else 0 := rfl
    rw [e3]
    refine c_X12_mayDrop_23 (fun z => ?_) (fun z => ?_)
    · rw [z] at hq
      exact hq
    · rw [if_pos (bt4 z)] at hq
      exact hq
theorem t_canChange {a b : Nat} {o p : Option Nat} (hA0 : 91 ≤ nx) (m : CT h n K L M c) (ha : a < n) (hb : b < n) (ho : ∀ j, o = some j → j < n) (hp : ∀ j, p = some j → j < n) : Mk X (d + 2) m_X12_canChange [.ref 68, .int (nI a), .int (ovI o), .int (nI b), .int (ovI p)] h nx sz (RE (if cbB K L a o b p = true then 1 else 0) h) := by
  obtain ⟨hF, hP, e2, e3, hg, hL, hN, hc, hc9⟩ := id m
  have h20 := hP.2.1
  have om := ov_m1 (o := o) (fun j hj => by have := ho j hj; omega)
  have pm := ov_m1 (o := p) (fun j hj => by have := hp j hj; omega)
  refine Mk.re fun Q hq => e_X12_canChange (c_X12_canChange_0 hA0 RO_rm hcs0 (t_areTwo (d := d) hA0 hP.mp) ?_)
  rintro _ g ⟨rfl, rfl⟩
  have no : ¬ cbB K L a o b p = true → Q (some (.int 0)) h := fun z => by rw [if_neg z] at hq; exact hq
  by_cases hab : a = b
  · subst hab
    have e : twoI n (nI a) (nI a) = 0 := by unfold twoI; rw [if_neg (fun z => z.2.2 rfl)]
    rw [e]
    exact c_X12_canChange_6 (d := d + 1) (P16 := fun _ _ => False) hA0 hF RO_rm hcs0 (fun _ => no (fun z => (cbB_iff.mp z).1 rfl)) (fun z => absurd rfl z) (fun z => absurd rfl z) (fun z => absurd rfl z)
  rw [twoI_nI (by omega) ha hb hab]
  refine c_X12_canChange_6 hA0 hF RO_rm hcs0 (fun z => by cases z) (fun _ => vin (by omega) (by decide)) (fun _ => t_has (d := d + 1) (by omega)) ?_
  rintro _ _ g ⟨rfl, rfl⟩
  rw [tN (by omega), e2]
  by_cases hK : tb (K a) b = true
  · rw [if_pos hK]
    exact c_X12_canChange_19 (d := d + 1) (P25 := fun _ _ => False) hA0 RO_rm hcs0 (fun _ => no (fun z => by have := (cbB_iff.mp z).2.1; rw [hK] at this; cases this)) (fun z => by cases z) (fun z => by cases z)
  rw [if_neg hK]
  have hK : tb (K a) b = false := by simpa using hK
  refine c_X12_canChange_19 hA0 RO_rm hcs0 (fun z => absurd rfl z) (fun _ => t_mayDrop (d := d) hA0 m ha ho) ?_
  rintro _ _ g ⟨rfl, rfl⟩
  have md_td : ∀ i q, mdB K L i q = true → tdB K i q = true := fun i q z => by
    cases q with
    | none => rfl
    | some j => exact z
  by_cases t1 : tdB K a o = true
  rotate_left
  · rw [if_neg t1]
    exact c_X12_canChange_28 (d := d + 1) (P35 := fun _ _ => False) hA0 RO_rm hcs0 (fun _ => no (fun z => t1 (md_td _ _ (cbB_iff.mp z).2.2.1))) (fun z => absurd rfl z) (fun z => absurd rfl z)
  rw [if_pos t1]
  refine c_X12_canChange_28 hA0 RO_rm hcs0 (fun z => by cases z) (fun _ => t_mayDrop (d := d) hA0 m hb hp) ?_
  rintro _ _ g ⟨rfl, rfl⟩
  by_cases t2 : tdB K b p = true
  rotate_left
  · rw [if_neg t2]
    exact c_X12_canChange_38 (d := d + 1) (P45 := fun _ _ => False) hA0 RO_rm hcs0 (fun z => absurd rfl z) (fun z => absurd rfl z) (fun _ => no (fun z => t2 (md_td _ _ (cbB_iff.mp z).2.2.2)))
  rw [if_pos t2]
  -- the room of i, with or without a drop
  have room : ∀ i q, i < n → tdB K i q = true → ((q = none → (L i < bc (K i) + 1 ↔ ¬ mdB K L i q = true)) ∧ (q ≠ none → ¬ L i < bc (K i) + 0 ∧ mdB K L i q = true)) := fun i q hi ht => by
    obtain ⟨l, l1, l2, l3⟩ := hL i hi
    have ec := hg.cnt h20 i
    have hcn := cnt_le (x := K i) (n := n)
    constructor
    · intro hq0
      subst hq0
      show _ ↔ ¬ decide (bc (K i) < L i) = true
      rw [decide_eq_true_eq, ec, l2, nI_1, nI_ltI (by omega) (by omega), nI_ltI (by omega) (by omega)]
      omega
    · intro hq0
      refine ⟨?_, ?_⟩
      · rw [Int32.add_zero, ec, l2, nI_ltI (by omega) (by omega)]
        omega
      · cases q with
        | none => exact absurd rfl hq0
        | some j => exact ht
  obtain ⟨r1, r2⟩ := room a o ha t1
  obtain ⟨r3, r4⟩ := room b p hb t2
  refine c_X12_canChange_38 hA0 RO_rm hcs0 (fun _ => t_many (d := d) hA0 hF (by omega)) ?_ (fun z => by cases z)
  rintro _ _ g ⟨rfl, rfl⟩
  have ea : (nI a).toNatClampNeg = a := tN (by omega)
  have eb : (nI b).toNatClampNeg = b := tN (by omega)
  rw [e2]
  have rest : mdB K L a o = true → VM X m_X12_canChange (d + 2) nx sz Q 73 [some (.ref 68), none, none, some (.int (nI b)), some (.int (ovI p))] [.int (bc (K b))] h := fun hm => by
    have cb : cbB K L a o b p = true ↔ mdB K L b p = true := ⟨fun z => (cbB_iff.mp z).2.2.2, fun z => cbB_iff.mpr ⟨hab, hK, hm, z⟩⟩
    have yes : mdB K L b p = true → Q (some (.int 1)) h := fun z => by rw [if_pos (cb.mpr z)] at hq; exact hq
    have nob : ¬ mdB K L b p = true → Q (some (.int 0)) h := fun z => no (fun y => z (cb.mp y))
    refine c_X12_canChange_73 hA0 hF (fun _ => vin (by omega) (by decide)) (fun z1 z => ?_) (fun z1 z => ?_) (fun _ => vin (by omega) (by decide)) (fun z1 z => ?_) (fun z1 z => ?_)
    · rw [eb, e3] at z
      exact absurd z (r4 (fun y => z1 (pm.mpr y))).1
    · exact yes (r4 (fun y => z1 (pm.mpr y))).2
    · rw [eb, e3] at z
      exact nob ((r3 (pm.mp z1)).mp z)
    · rw [eb, e3] at z
      exact yes (Decidable.byContradiction fun y => z ((r3 (pm.mp z1)).mpr y))
  have P1 : ∀ y g, (y = bc (h.1 73 b) ∧ h = g) → mdB K L a o = true → VM X m_X12_canChange (d + 2) nx sz Q 73 [some (.ref 68), none, none, some (.int (nI b)), some (.int (ovI p))] [.int y] g := fun y g e hm => by
    obtain ⟨rfl, rfl⟩ := e
    rw [e2]
    exact rest hm
  refine c_X12_canChange_48 (P70 := fun y g => y = bc (h.1 73 b) ∧ h = g) (P70_1 := fun y g => y = bc (h.1 73 b) ∧ h = g) hA0 hF RO_rm hcs0 (fun _ => vin (by omega) (by decide)) (fun z1 z => ?_) (fun _ _ => t_many (d := d) hA0 hF (by omega)) (fun z1 z y g e => ?_) (fun _ => vin (by omega) (by decide)) (fun z1 z => ?_) (fun _ _ => t_many (d := d) hA0 hF (by omega)) (fun z1 z y g e => ?_)
  · rw [ea, e3] at z
    exact absurd z (r2 (fun y => z1 (om.mpr y))).1
  · exact P1 y g e (r2 (fun y => z1 (om.mpr y))).2
  · rw [ea, e3] at z
    exact no (fun y => (r1 (om.mp z1)).mp z (cbB_iff.mp y).2.2.1)
  · rw [ea, e3] at z
    exact P1 y g e (Decidable.byContradiction fun y => z ((r1 (om.mp z1)).mpr y))
/-- all is kept but the best -/
def Et (h g : AH) : Prop := g.2 = h.2 ∧ ∀ c j, ¬ (c = 68 ∧ 32 ≤ j ∧ j ≤ 37) → g.1 c j = h.1 c j
theorem Et.rfl : Et h h := ⟨Eq.refl _, fun _ _ _ => Eq.refl _⟩
theorem Et.trans {g k : AH} (a : Et h g) (b : Et g k) : Et h k := ⟨b.1.trans a.1, fun c j hj => (b.2 c j hj).trans (a.2 c j hj)⟩
theorem Et.set {g : AH} {i : Nat} {x : Int32} (a : Et h g) (hi : 32 ≤ i ∧ i ≤ 37) : Et h (setI g 68 i x) := ⟨a.1, fun c j hj => by
  show (if c = 68 ∧ j = i then x else g.1 c j) = _
  rw [if_neg (fun z => hj ⟨z.1, by rw [z.2]; exact hi⟩)]
  exact a.2 c j hj⟩
theorem Et.row {g : AH} (a : Et h g) {c : Nat} (hc : c ≠ 68) : g.1 c = h.1 c := funext fun j => a.2 c j (fun z => hc z.1)
theorem Et.sc {g : AH} (a : Et h g) : Sc h g := ⟨fun x j hj => a.2 x j (fun z => by
  obtain ⟨rfl, z1, z2⟩ := z
  have : j = 32 ∨ j = 33 ∨ j = 34 ∨ j = 35 ∨ j = 36 ∨ j = 37 := by omega
  rcases this with rfl | rfl | rfl | rfl | rfl | rfl <;> cases hj), fun x j _ => by rw [a.1], fun t => by unfold TXT at *; rw [a.1]; exact t⟩
theorem t_isWanted {a b : Nat} {o p : Option Nat} (hA0 : 91 ≤ nx) (m : CT h n K L M c) (ha : a < n) (hb : b < n) (ho : ∀ j, o = some j → j < n) (hp : ∀ j, p = some j → j < n) : Mk X (d + 5) m_X12_isWanted [.ref 68, .int (nI a), .int (ovI o), .int (nI b), .int (ovI p)] h nx sz (RI fun y g => y = (if wnB K L n M c a o b p = true then 1 else 0) ∧ Et h g ∧ (∀ j, j ≠ 32 → j ≠ 33 → g.1 68 j = h.1 68 j) ∧ (wnB K L n M c a o b p = true → g.1 68 32 = gI K n M c a o b p true)) := by
  refine e_X12_isWanted (c_X12_isWanted_0 hA0 RO_rm hcs0 (t_canChange (d := d + 2) hA0 m ha hb ho hp) ?_)
  rintro _ g ⟨rfl, rfl⟩
  by_cases q : cbB K L a o b p = true
  · rw [if_pos q]
    obtain ⟨hab, hK, q3, q4⟩ := cbB_iff.mp q
    refine c_X12_isWanted_9 hA0 RO_rm hcs0 (fun _ => t_layGains (d := d) hA0 m ha hb hab hK (mdB_kn q3) (mdB_kn q4)) ?_ (fun z => by cases z)
    rintro _ _ rfl
    have s1 : Et h (setI (setI h 68 32 (gI K n M c a o b p true)) 68 33 (gI K n M c a o b p false)) := (Et.rfl.set (by decide)).set (by decide)
    have f1 : ∀ j, j ≠ 32 → j ≠ 33 → (setI (setI h 68 32 (gI K n M c a o b p true)) 68 33 (gI K n M c a o b p false)).1 68 j = h.1 68 j := fun j j1 j2 => by
      show (if 68 = 68 ∧ j = 33 then gI K n M c a o b p false else (if 68 = 68 ∧ j = 32 then gI K n M c a o b p true else h.1 68 j)) = _
      rw [if_neg (fun z => j2 z.2), if_neg (fun z => j1 z.2)]
    have r1 : (setI (setI h 68 32 (gI K n M c a o b p true)) 68 33 (gI K n M c a o b p false)).1 68 32 = gI K n M c a o b p true := rfl
    have r2 : (setI (setI h 68 32 (gI K n M c a o b p true)) 68 33 (gI K n M c a o b p false)).1 68 33 = gI K n M c a o b p false := rfl
    refine c_X12_isWanted_23 hA0 (fun z => ⟨_, rfl, ?_, s1, f1, fun _ => r1⟩) (fun z z2 => ⟨_, rfl, ?_, s1, f1, fun _ => r1⟩) (fun z z2 => ⟨_, rfl, ?_, s1, f1, fun _ => r1⟩)
    · rw [r1] at z
      rw [if_neg (fun y => (wn_pos y).1 z)]
    · rw [r2] at z2
      rw [if_neg (fun y => (wn_pos y).2 z2)]
    · rw [r1] at z
      rw [r2] at z2
      rw [if_pos]
      unfold wnB
      rw [q, decide_eq_false z, decide_eq_false z2]
      rfl
  · rw [if_neg q]
    have nw : ¬ wnB K L n M c a o b p = true := fun z => q (wn_cb z)
    exact c_X12_isWanted_9 (d := d + 4) (P20 := fun _ => False) hA0 RO_rm hcs0 (fun z => absurd rfl z) (fun z => absurd rfl z) (fun _ => ⟨_, rfl, by rw [if_neg nw], Et.rfl, fun _ _ _ => rfl, fun z => absurd z nw⟩)
def hnB (M : Nat → Nat → Nat) (n a : Nat) : Bool := !decide (∀ j, j < n → M a j = 0)
theorem t_hasNeeds {a : Nat} (hA0 : 91 ≤ nx) (m : CT h n K L M c) (ha : a < n) : Mk X d m_X12_hasNeeds [.ref 68, .int (nI a)] h nx sz (RE (if hnB M n a = true then 1 else 0) h) := by
  obtain ⟨hF, hP, e2, e3, hg, hL, hN, hc, hc9⟩ := id m
  obtain ⟨h0, h2, h20⟩ := hP.mp
  refine Mk.re fun Q hq => e_X12_hasNeeds (c_X12_hasNeeds_0 ?_)
  have key : ∀ (k i : Nat), i + k = n → (∀ j, j < i → M a j = 0) → VM X m_X12_hasNeeds d nx sz Q 2 [some (.ref 68), some (.int (nI a)), some (.int (nI i))] [] h := by
    intro k
    induction k with
    | zero =>
      intro i hi hz
      have hi : i = n := by omega
      subst hi
      have yes : h.1 68 1 ≤ nI i := by rw [h0]; exact Int32.le_refl _
      have : ¬ hnB M i a = true := by unfold hnB; rw [decide_eq_true hz]; decide
      rw [if_neg this] at hq
      exact c_X12_hasNeeds_2 hA0 hF (fun _ => hq) (fun z => absurd yes z) (fun z => absurd yes z) (fun z => absurd yes z)
    | succ k ih =>
      intro i hi hz
      have no : ¬ h.1 68 1 ≤ nI i := fun z => by rw [h0, le_nI (by omega) (by omega)] at z; omega
      obtain ⟨q1, q2, -⟩ := hN a ha i (by omega)
      have e : h.1 83 ((20 * nI a) + nI i).toNatClampNeg = nI (M a i) := by rw [e20j, tN (by omega), q2]
      refine c_X12_hasNeeds_2 hA0 hF (fun z => absurd z no) (fun _ => by rw [e20j]; exact vin (by omega) (by decide)) (fun _ z => ?_) (fun _ z => ?_)
      · rw [e, nI_le0 (by omega)] at z
        rw [nI_1]
        refine ih (i + 1) (by omega) (fun j hj => ?_)
        by_cases q : j = i
        · rw [q]; exact z
        · exact hz j (by omega)
      · rw [e, nI_le0 (by omega)] at z
        have : hnB M n a = true := by
          unfold hnB
          rw [decide_eq_false (fun y => z (y i (by omega)))]
          rfl
        rw [if_pos this] at hq
        exact hq
  exact key n 0 (by omega) (fun j hj => absurd hj (Nat.not_lt_zero _))
def rpT (g : AH) (s : St) : Prop := g.1 68 37 = stG s ∧ ∀ b o p v, s = some (b, o, p, v) → g.1 68 34 = nI b ∧ g.1 68 35 = ovI o ∧ g.1 68 36 = ovI p
theorem rpT.cong {g g' : AH} {s : St} (r : rpT g s) (h : ∀ j, j ≠ 32 → j ≠ 33 → g'.1 68 j = g.1 68 j) : rpT g' s := by
  unfold rpT
  rw [h _ (by decide) (by decide), h _ (by decide) (by decide), h _ (by decide) (by decide), h _ (by decide) (by decide)]
  exact r
theorem t_hasBest {a : Nat} (hA0 : 91 ≤ nx) (m : CT h n K L M c) (ha : a < n) : Mk X (d + 6) m_X12_hasBest [.ref 68, .int (nI a)] h nx sz (RI fun y g => y = (if tkF K L n M c a n = none then 0 else 1) ∧ Et h g ∧ rpT g (tkF K L n M c a n)) := by
  obtain ⟨hF, hP, e2, e3, hg, hL, hN, hc, hc9⟩ := id m
  have h20 := hP.2.1
  have s0 : Et h (setI h 68 37 0) := Et.rfl.set (by decide)
  refine e_X12_hasBest (c_X12_hasBest_0 hA0 ?_)
  obtain ⟨Q, hQ⟩ : ∃ Q, Q = (RI fun y g => y = (if tkF K L n M c a n = none then 0 else 1) ∧ Et h g ∧ rpT g (tkF K L n M c a n)) := ⟨_, rfl⟩
  rw [← hQ]
  have h1 : ∀ g, Et h g → g.1 68 1 = nI n := fun g s => (hP.sc s.sc).mp.1
  -- theirs
  have k47 : ∀ (i e : Nat) (g : AH), i < n → e < n + 1 → Et h g → rpT g (thF K L n M c a (oN e) i (drF K L n M c a i (tkF K L n M c a i) e) 0) → (∀ g', Et h g' → rpT g' (thF K L n M c a (oN e) i (drF K L n M c a i (tkF K L n M c a i) e) (n + 1)) → VM X m_X12_hasBest (d + 6) nx sz Q 36 [some (.ref 68), some (.int (nI a)), some (.int (nI i)), some (.int (ovI (oN e) + 1)), none] [] g') → VM X m_X12_hasBest (d + 6) nx sz Q 47 [some (.ref 68), some (.int (nI a)), some (.int (nI i)), some (.int (ovI (oN e))), some (.int (ovI (oN 0)))] [] g := by
    intro i e g hi he sc rr out
    obtain ⟨s, es⟩ : ∃ s, s = drF K L n M c a i (tkF K L n M c a i) e := ⟨_, rfl⟩
    rw [← es] at rr out
    have key : ∀ (k t : Nat) (g : AH), t + k = n + 1 → Et h g → rpT g (thF K L n M c a (oN e) i s t) → VM X m_X12_hasBest (d + 6) nx sz Q 47 [some (.ref 68), some (.int (nI a)), some (.int (nI i)), some (.int (ovI (oN e))), some (.int (ovI (oN t)))] [] g := by
      intro k
      induction k with
      | zero =>
        intro t g ht sc rr
        have ht : t = n + 1 := by omega
        subst ht
        have yes : g.1 68 1 ≤ ovI (oN (n + 1)) := by rw [h1 g sc]; exact (ov_end h20 (Nat.le_refl _)).mpr rfl
        exact c_X12_hasBest_47 (d := d + 5) (P62 := fun _ _ => False) hA0 RO_rm hcs0 (fun _ => out g sc rr) (fun z => absurd yes z) (fun z => absurd yes z)
      | succ k ih =>
        intro t g ht sc rr
        have no : ¬ g.1 68 1 ≤ ovI (oN t) := fun z => by
          rw [h1 g sc] at z
          have := (ov_end h20 (by omega)).mp z
          omega
        have eth : thF K L n M c a (oN e) i s (t + 1) = stp K L n M c a (oN e) i (oN t) (thF K L n M c a (oN e) i s t) := rfl
        refine c_X12_hasBest_47 hA0 RO_rm hcs0 (fun z => absurd z no) (fun _ => t_isWanted (d := d) hA0 (m.sc sc.sc) ha hi (fun j hj => by have := oN_lt hj; omega) (fun j hj => by have := oN_lt hj; omega)) ?_
        rintro _ _ g2 ⟨rfl, sc2, f2, w2⟩
        have rr2 := rr.cong f2
        have sc3 := sc.trans sc2
        have cont : ∀ g3, Et h g3 → rpT g3 (thF K L n M c a (oN e) i s (t + 1)) → VM X m_X12_hasBest (d + 6) nx sz Q 47 [some (.ref 68), some (.int (nI a)), some (.int (nI i)), some (.int (ovI (oN e))), some (.int (ovI (oN t) + 1))] [] g3 := fun g3 s3 r3 => by
          rw [(ov_oN t).1]
          exact ih (t + 1) g3 (by omega) s3 r3
        have same : ¬ (wnB K L n M c a (oN e) i (oN t) = true ∧ stG (thF K L n M c a (oN e) i s t) < gI K n M c a (oN e) i (oN t) true) → thF K L n M c a (oN e) i s (t + 1) = thF K L n M c a (oN e) i s t := fun z => by
          rw [eth]
          exact if_neg z
        refine c_X12_hasBest_65 hA0 (fun z => cont g2 sc3 ?_) (fun z z2 => cont _ ((((sc3.set (by decide)).set (by decide)).set (by decide)).set (by decide)) ?_) (fun z z2 => cont g2 sc3 ?_)
        · rw [same (fun y => bt3 z y.1)]
          exact rr2
        · have w := bt4 z
          rw [w2 w, rr2.1] at z2
          rw [eth]
          unfold stp
          rw [if_pos ⟨w, z2⟩, w2 w]
          refine ⟨rfl, fun b' o' p' v ee => ?_⟩
          cases ee
          exact ⟨rfl, rfl, rfl⟩
        · have w := bt4 z
          rw [w2 w, rr2.1] at z2
          rw [same (fun y => z2 y.2)]
          exact rr2
    exact key (n + 1) 0 g (by omega) sc rr
  have k36 : ∀ (i : Nat) (g : AH), i < n → Et h g → rpT g (tkF K L n M c a i) → (∀ g', Et h g' → rpT g' (tkF K L n M c a (i + 1)) → VM X m_X12_hasBest (d + 6) nx sz Q 7 [some (.ref 68), some (.int (nI a)), some (.int (nI i + 1)), none, none] [] g') → VM X m_X12_hasBest (d + 6) nx sz Q 36 [some (.ref 68), some (.int (nI a)), some (.int (nI i)), some (.int (ovI (oN 0))), none] [] g := by
    intro i g hi sc rr out
    have key : ∀ (k e : Nat) (g : AH), e + k = n + 1 → Et h g → rpT g (drF K L n M c a i (tkF K L n M c a i) e) → VM X m_X12_hasBest (d + 6) nx sz Q 36 [some (.ref 68), some (.int (nI a)), some (.int (nI i)), some (.int (ovI (oN e))), none] [] g := by
      intro k
      induction k with
      | zero =>
        intro e g he sc rr
        have he : e = n + 1 := by omega
        subst he
        have yes : g.1 68 1 ≤ ovI (oN (n + 1)) := by rw [h1 g sc]; exact (ov_end h20 (Nat.le_refl _)).mpr rfl
        exact c_X12_hasBest_36 hA0 (fun _ => out g sc rr) (fun z => absurd yes z)
      | succ k ih =>
        intro e g he sc rr
        have no : ¬ g.1 68 1 ≤ ovI (oN e) := fun z => by
          rw [h1 g sc] at z
          have := (ov_end h20 (by omega)).mp z
          omega
        refine c_X12_hasBest_36 hA0 (fun z => absurd z no) (fun _ => k47 i e g hi (by omega) sc rr (fun g' s' r' => ?_))
        rw [(ov_oN e).1]
        exact ih (e + 1) g' (by omega) s' r'
    exact key (n + 1) 0 g (by omega) sc rr
  have fin : ∀ g, Et h g → rpT g (tkF K L n M c a n) → (g.1 68 37 ≤ 0 → Q (some (.int 0)) g) ∧ (¬ g.1 68 37 ≤ 0 → Q (some (.int 1)) g) := fun g sc rr => by
    have o0 := okS_0 (okS_tk (K := K) (L := L) (M := M) (c := c) (a := a) (Nat.le_refl n))
    rw [hQ]
    refine ⟨fun z => ⟨_, rfl, ?_, sc, rr⟩, fun z => ⟨_, rfl, ?_, sc, rr⟩⟩
    · rw [rr.1] at z
      rw [if_pos (o0.mp z)]
    · rw [rr.1] at z
      rw [if_neg (fun y => z (o0.mpr y))]
  have key : ∀ (k i : Nat) (g : AH), i + k = n → Et h g → rpT g (tkF K L n M c a i) → VM X m_X12_hasBest (d + 6) nx sz Q 7 [some (.ref 68), some (.int (nI a)), some (.int (nI i)), none, none] [] g := by
    intro k
    induction k with
    | zero =>
      intro i g hi sc rr
      have hi : i = n := by omega
      subst hi
      have yes : g.1 68 1 ≤ nI i := by rw [h1 g sc]; exact Int32.le_refl _
      exact c_X12_hasBest_7 (d := d + 5) (P17 := fun _ _ => False) hA0 RO_rm hcs0 (fun _ => (fin g sc rr).1) (fun _ => (fin g sc rr).2) (fun z => absurd yes z) (fun z => absurd yes z)
    | succ k ih =>
      intro i g hi sc rr
      have hin : i < n := by omega
      have no : ¬ g.1 68 1 ≤ nI i := fun z => by rw [h1 g sc, le_nI (by omega) (by omega)] at z; omega
      refine c_X12_hasBest_7 hA0 RO_rm hcs0 (fun z => absurd z no) (fun z => absurd z no) (fun _ => t_hasNeeds (d := d + 5) hA0 (m.sc sc.sc) ha) ?_
      rintro _ _ g' ⟨rfl, rfl⟩
      by_cases q : hnB M n a = true
      rotate_left
      · rw [if_neg q]
        have z0 : ∀ j, j < n → M a j = 0 := by simpa [hnB] using q
        have e1 := tk_none (L := L) (K := K) h20 m.m99 hc9 ha z0 (Nat.le_refl n)
        have e2 := tk_none (L := L) (K := K) h20 m.m99 hc9 ha z0 (m := i) (by omega)
        rw [e2, ← e1] at rr
        exact c_X12_hasBest_20 (d := d + 5) (P25 := fun _ _ => False) hA0 RO_rm hcs0 (fun _ => (fin g sc rr).1) (fun _ => (fin g sc rr).2) (fun z => absurd rfl z) (fun z => absurd rfl z)
      rw [if_pos q]
      refine c_X12_hasBest_20 hA0 RO_rm hcs0 (fun z => by cases z) (fun z => by cases z) (fun _ => t_hasNeeds (d := d + 5) hA0 (m.sc sc.sc) hin) ?_
      rintro _ _ g' ⟨rfl, rfl⟩
      have eth : tkF K L n M c a (i + 1) = drF K L n M c a i (tkF K L n M c a i) (n + 1) := rfl
      by_cases q2 : hnB M n i = true
      · rw [if_pos q2]
        refine c_X12_hasBest_28 (fun _ => k36 i g hin sc rr (fun g' s' r' => ?_)) (fun z => by cases z)
        rw [nI_1]
        exact ih (i + 1) g' (by omega) s' r'
      · rw [if_neg q2]
        have z0 : ∀ j, j < n → M i j = 0 := by simpa [hnB] using q2
        refine c_X12_hasBest_28 (fun z => absurd rfl z) (fun _ => ?_)
        rw [nI_1]
        refine ih (i + 1) g (by omega) sc ?_
        rw [eth, dr_id (fun o p => wn_none1 h20 m.m99 hc9 ha hin (Or.inr z0))]
        exact rr
  exact key n 0 _ (by omega) s0 ⟨rfl, fun b o p v e => by cases e⟩
end OPS

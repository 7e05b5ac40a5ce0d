/-! changes: the class -/
section OPS
variable {X : CX} {d nx sz : Nat} {h : AH} {n : Nat} {K L : Nat → Int32} {M : Nat → Nat → Nat} {c : Nat}
theorem Sc.need {g : AH} (s : Sc h g) {a : Nat} (ha : a < 20) : g.1 (42 + a) = h.1 (42 + a) := s.row (fun j => by
  have : ∀ a, a < 20 → (scrA.contains (42 + a) || scrF.any (fun q => q.1 == 42 + a)) = false := by decide
  have h1 := this a ha
  rw [Bool.or_eq_false_iff] at h1
  unfold Scr
  rw [h1.1, Bool.false_or]
  cases hq : scrF.contains (42 + a, j) with
  | false => rfl
  | true =>
    rw [List.contains_iff_mem] at hq
    have h2 := List.any_eq_false.mp h1.2 _ hq
    simp at h2)
/-- the class, its net, needs and price -/
def CM (h : AH) (n : Nat) (K L : Nat → Int32) (M : Nat → Nat → Nat) (c : Nat) : Prop :=
  Fx h ∧ InvP h n ∧ h.1 2 = K ∧ h.1 3 = L ∧ Gr n K ∧ Lm n K L ∧ (∀ p, p < n → NeedS h n p (M p)) ∧ h.1 40 4 = nI c ∧ c ≤ 99
theorem CM.sc {g : AH} (m : CM h n K L M c) (s : Sc h g) : CM g n K L M c := by
  obtain ⟨m1, m2, m3, m4, m5, m6, m7, m8, m9⟩ := m
  refine ⟨m1.sc s, m2.sc s, (s.row (a := 2) (fun j => rfl)).trans m3, (s.row (a := 3) (fun j => rfl)).trans m4, m5, m6, fun p hp => ?_, (s.1 40 4 rfl).trans m8, m9⟩
  unfold NeedS
  rw [s.need (by have := m2.2.1; omega), s.row (a := 62) (fun j => rfl)]
  exact m7 p hp
theorem InvP.row {b : Nat} {f : Nat → Int32} (i : InvP h n) (hb : b ≠ 0 ∧ b ≠ 1 ∧ b ≠ 5 ∧ b ≠ 9 ∧ b ≠ 68) : InvP (setA h b f) n := by
  obtain ⟨h1, h2, h3, h4, h5⟩ := i
  refine ⟨h1, h2, ?_, fun a ha => ?_, ?_⟩
  · rw [setA_get_ne (Ne.symm hb.1)]
    exact h3
  · have : a ≠ b := by rcases ha with rfl | rfl | rfl <;> omega
    rw [setA_get_ne this]
    exact h4 a ha
  · rw [setA_get_ne (by omega)]
    exact h5
theorem CM.m99 (m : CM h n K L M c) : ∀ w, w < n → ∀ b, b < n → M w b ≤ 99 := fun w hw b hb => ((m.2.2.2.2.2.2.1 w hw).1 b hb).1
/-- behind a change of the net alone -/
theorem CM.net {K' : Nat → Int32} (m : CM h n K L M c) (hg : Gr n K') (hL : Lm n K' L) : CM (setA h 2 K') n K' L M c := by
  obtain ⟨m1, m2, m3, m4, m5, m6, m7, m8, m9⟩ := m
  refine ⟨m1, m2.row (by decide), setA_self, m4, hg, hL, fun p hp => ?_, m8, m9⟩
  unfold NeedS
  rw [setA_get_ne (by omega), setA_get_ne (by decide)]
  exact m7 p hp
theorem ov_m1 {o : Option Nat} (ho : ∀ j, o = some j → j < 2 ^ 31) : ovI o = -1 ↔ o = none := by
  cases o with
  | none => simp [ovI]
  | some j =>
    constructor
    · intro z
      exact absurd z (nI_m1 (ho j rfl))
    · intro z
      cases z
theorem ov_oN (m : Nat) : ovI (oN m) + 1 = nI m ∧ ovI (oN (m + 1)) = nI m := by
  refine ⟨?_, rfl⟩
  cases m with
  | zero => decide
  | succ m => exact nI_1 m
theorem oN_lt {m j : Nat} (h : oN m = some j) : j + 1 = m := by
  cases m with
  | zero => cases h
  | succ m => cases h; rfl
theorem ov_end {m : Nat} (hn : n ≤ 20) (hm : m ≤ n + 1) : nI n ≤ ovI (oN m) ↔ m = n + 1 := by
  cases m with
  | zero =>
    have : ∀ n, n < 21 → ¬ nI n ≤ ovI (oN 0) := by decide
    constructor
    · intro z
      exact absurd z (this n (by omega))
    · intro z
      cases z
  | succ m =>
    show nI n ≤ nI m ↔ _
    rw [le_nI (by omega) (by omega)]
    omega
theorem s_make {a b : Nat} {o p : Option Nat} (hA0 : 91 ≤ nx) (hF : Fx h) (ha : a < 20) (hb : b < 20) (ho : ∀ j, o = some j → j < 20) (hp : ∀ j, p = some j → j < 20) : Mk X (d + 1) m_X2_make [.ref 40, .int (nI a), .int (ovI o), .int (nI b), .int (ovI p)] h nx sz (RVE (setA h 2 (mkK (h.1 2) a o b p))) := by
  refine Mk.rv fun Q hq => e_X2_make ?_
  have k30 : ∀ g : AH, Fx g → setA g 2 (joinK (g.1 2) a b) = setA h 2 (mkK (h.1 2) a o b p) → VM X m_X2_make (d + 1) nx sz Q 30 [some (.ref 40), some (.int (nI a)), none, some (.int (nI b)), none] [] g := fun g hFg e => by
    refine c_X2_make_30 hA0 hFg RO_rm hcs0 (s_join (d := d) hA0 hFg net1 ha hb) ?_
    rintro _ rfl
    refine c_X2_make_39 ?_
    show Q none (setA g 2 (joinK (g.1 2) a b))
    rw [e]
    exact hq
  have k14 : ∀ g : AH, Fx g → setA g 2 (joinK (pO (g.1 2) b p) a b) = setA h 2 (mkK (h.1 2) a o b p) → VM X m_X2_make (d + 1) nx sz Q 14 [some (.ref 40), some (.int (nI a)), none, some (.int (nI b)), some (.int (ovI p))] [] g := fun g hFg e => by
    have pm := ov_m1 (o := p) (fun j hj => by have := hp j hj; omega)
    cases p with
    | none => exact c_X2_make_14 (d := d) (P27 := fun _ => False) hA0 hFg RO_rm hcs0 (fun _ => k30 g hFg e) (fun z => absurd rfl z) (fun z => absurd rfl z)
    | some j =>
      refine c_X2_make_14 hA0 hFg RO_rm hcs0 (fun z => by have := pm.mp z; cases this) (fun _ => s_part (d := d) hA0 hFg net1 hb (hp j rfl)) ?_
      rintro _ _ rfl
      refine k30 _ hFg ?_
      show setA (setA g 2 (partK (g.1 2) b j)) 2 (joinK ((setA g 2 (partK (g.1 2) b j)).1 2) a b) = _
      rw [setA_A, setA_self]
      exact e
  have om := ov_m1 (o := o) (fun j hj => by have := ho j hj; omega)
  cases o with
  | none => exact c_X2_make_0 (d := d) (P11 := fun _ => False) hA0 hF RO_rm hcs0 (fun _ => k14 h hF rfl) (fun z => absurd rfl z) (fun z => absurd rfl z)
  | some j =>
    refine c_X2_make_0 hA0 hF RO_rm hcs0 (fun z => by have := om.mp z; cases this) (fun _ => s_part (d := d) hA0 hF net1 ha (ho j rfl)) ?_
    rintro _ _ rfl
    refine k14 _ hF ?_
    show setA (setA h 2 (partK (h.1 2) a j)) 2 (joinK (pO ((setA h 2 (partK (h.1 2) a j)).1 2) b p) a b) = _
    rw [setA_A, setA_self]
    rfl
theorem s_unmake {a b : Nat} {o p : Option Nat} (hA0 : 91 ≤ nx) (hF : Fx h) (ha : a < 20) (hb : b < 20) (ho : ∀ j, o = some j → j < 20) (hp : ∀ j, p = some j → j < 20) : Mk X (d + 1) m_X2_unmake [.ref 40, .int (nI a), .int (ovI o), .int (nI b), .int (ovI p)] h nx sz (RVE (setA h 2 (unK (h.1 2) a o b p))) := by
  refine Mk.rv fun Q hq => e_X2_unmake ?_
  have k23 : ∀ g : AH, Fx g → setA g 2 (jO (g.1 2) b p) = setA h 2 (unK (h.1 2) a o b p) → VM X m_X2_unmake (d + 1) nx sz Q 23 [some (.ref 40), none, none, some (.int (nI b)), some (.int (ovI p))] [] g := fun g hFg e => by
    have pm := ov_m1 (o := p) (fun j hj => by have := hp j hj; omega)
    cases p with
    | none =>
      refine c_X2_unmake_23 (d := d) (P36 := fun _ => False) hA0 hFg RO_rm hcs0 (fun _ => c_X2_unmake_39 ?_) (fun z => absurd rfl z) (fun z => absurd rfl z)
      have e : setA g 2 (g.1 2) = _ := e
      rw [setA_id] at e
      rw [e]
      exact hq
    | some j =>
      refine c_X2_unmake_23 hA0 hFg RO_rm hcs0 (fun z => by have := pm.mp z; cases this) (fun _ => s_join (d := d) hA0 hFg net1 hb (hp j rfl)) ?_
      rintro _ _ rfl
      refine c_X2_unmake_39 ?_
      show Q none (setA g 2 (joinK (g.1 2) b j))
      have e : setA g 2 (joinK (g.1 2) b j) = _ := e
      rw [e]
      exact hq
  have k9 : ∀ g : AH, Fx g → setA g 2 (jO (jO (g.1 2) a o) b p) = setA h 2 (unK (h.1 2) a o b p) → VM X m_X2_unmake (d + 1) nx sz Q 9 [some (.ref 40), some (.int (nI a)), some (.int (ovI o)), some (.int (nI b)), some (.int (ovI p))] [] g := fun g hFg e => by
    have om := ov_m1 (o := o) (fun j hj => by have := ho j hj; omega)
    cases o with
    | none => exact c_X2_unmake_9 (d := d) (P20 := fun _ => False) hA0 hFg RO_rm hcs0 (fun _ => k23 g hFg e) (fun z => absurd rfl z) (fun z => absurd rfl z)
    | some j =>
      refine c_X2_unmake_9 hA0 hFg RO_rm hcs0 (fun z => by have := om.mp z; cases this) (fun _ => s_join (d := d) hA0 hFg net1 ha (ho j rfl)) ?_
      rintro _ _ rfl
      refine k23 _ hFg ?_
      show setA (setA g 2 (joinK (g.1 2) a j)) 2 (jO ((setA g 2 (joinK (g.1 2) a j)).1 2) b p) = _
      rw [setA_A, setA_self]
      exact e
  refine c_X2_unmake_0 hA0 hF RO_rm hcs0 (s_part (d := d) hA0 hF net1 ha hb) ?_
  rintro _ rfl
  refine k9 _ hF ?_
  show setA (setA h 2 (partK (h.1 2) a b)) 2 (jO (jO ((setA h 2 (partK (h.1 2) a b)).1 2) a o) b p) = _
  rw [setA_A, setA_self]
  rfl
theorem s_gainOf {a b : Nat} {o p : Option Nat} {f : Bool} (hA0 : 91 ≤ nx) (m : CM h n K L M c) (ha : a < n) (hb : b < n) (hab : a ≠ b) (hK : tb (K a) b = false) (ho : kn K a o) (hp : kn K b p) : Mk X (d + 2) m_X2_gainOf [.ref 40, .int (nI a), .int (ovI o), .int (nI b), .int (ovI p), .int (if f = true then 1 else 0)] h nx sz (RE (gI K n M c a o b p f) h) := by
  obtain ⟨hF, hP, e2, e3, hg, hL, hN, hc, hc9⟩ := id m
  have h20 := hP.2.1
  have o20 : ∀ j, o = some j → j < 20 := fun j hj => by have := (hg a j (ho j hj)).2.1; omega
  have p20 : ∀ j, p = some j → j < 20 := fun j hj => by have := (hg b j (hp j hj)).2.1; omega
  obtain ⟨w, ew⟩ : ∃ w, w = (if f = true then a else b) := ⟨_, rfl⟩
  have hw : w < n := by rw [ew]; split <;> assumption
  obtain ⟨pd, ep⟩ : ∃ pd : Int32, pd = (if (if f = true then o else p) = none then 0 else nI c) := ⟨_, rfl⟩
  refine Mk.re fun Q hq => e_X2_gainOf ?_
  have vals : ∀ e, Mk X (e + 1) m_X2_valueOf [.ref 40, .int (nI w)] h nx sz (RE (nI (vN K n w (M w))) h) := fun e => by
    have q := s_valueOf (X := X) (d := e) (nx := nx) (sz := sz) hA0 hF (hP.np net1) hw (hN w hw)
    rw [e2] at q
    exact q
  have rest : VM X m_X2_gainOf (d + 2) nx sz Q 43 [some (.ref 40), some (.int (nI a)), some (.int (ovI o)), some (.int (nI b)), some (.int (ovI p)), none, some (.int (nI w)), some (.int pd), none, none] [.int (nI (vN K n w (M w)))] h := by
    refine c_X2_gainOf_43 hA0 RO_rm hcs0 (s_make (d := d) hA0 hF (by omega) (by omega) o20 p20) ?_
    rintro _ rfl
    rw [e2]
    obtain ⟨K', eK⟩ : ∃ K', K' = mkK K a o b p := ⟨_, rfl⟩
    rw [← eK]
    have np : NP (setA h 2 K') 1 n := hP.np net1
    have ns : NeedS (setA h 2 K') n w (M w) := by
      unfold NeedS
      rw [setA_get_ne (by omega), setA_get_ne (by decide)]
      exact hN w hw
    have q := s_valueOf (X := X) (d := d) (nx := nx) (sz := sz) (h := setA h 2 K') hA0 hF np hw ns
    rw [setA_self] at q
    refine c_X2_gainOf_54 hA0 RO_rm hcs0 q ?_
    rintro _ _ ⟨rfl, rfl⟩
    refine c_X2_gainOf_60 hA0 RO_rm hcs0 (s_unmake (d := d) (h := setA h 2 K') hA0 hF (by omega) (by omega) o20 p20) ?_
    rintro _ rfl
    refine c_X2_gainOf_71 ?_
    rw [setA_A, setA_self, eK, un_mk hg h20 ha hb hab hK ho hp]
    have e5 : setA h 2 K = h := by rw [← e2]; exact setA_id
    rw [e5]
    unfold gI at hq
    rw [← ew, ← ep] at hq
    exact hq
  have om := ov_m1 (o := o) (fun j hj => by have := o20 j hj; omega)
  have pm := ov_m1 (o := p) (fun j hj => by have := p20 j hj; omega)
  have P0 : Int32 → AH → Prop := fun y g => y = nI (vN K n w (M w)) ∧ h = g
  cases f with
  | true =>
    have ew : w = a := ew
    subst ew
    have ep : pd = if o = none then 0 else nI c := ep
    have n1 : ¬ (1 : Int32) = 0 := by decide
    refine c_X2_gainOf_0 (x5 := 1) (d := d + 1) (P40 := fun _ _ => False) (P40_1 := fun _ _ => False) (P40_2 := fun _ _ => False) (P40_3 := fun _ _ => False) (P40_4 := fun _ _ => False) (P40_5 := fun _ _ => False) (P40_6 := fun y g => y = nI (vN K n w (M w)) ∧ h = g) (P40_7 := fun y g => y = nI (vN K n w (M w)) ∧ h = g) hA0 RO_rm hcs0 (fun z => absurd z n1) (fun z => absurd z n1) (fun z => absurd z n1) (fun z => absurd z n1) (fun z => absurd z n1) (fun z => absurd z n1) (fun z => absurd z n1) (fun z => absurd z n1) (fun _ z => absurd z n1) (fun _ z => absurd z n1) (fun _ z => absurd z n1) (fun _ z => absurd z n1) (fun _ _ _ => vals d) ?_ (fun _ _ _ => vals d) ?_
    · rintro _ _ z y g ⟨rfl, rfl⟩
      rw [hc, ← show pd = nI c from by rw [ep, if_neg (fun y => z (om.mpr y))]]
      exact rest
    · rintro _ _ z y g ⟨rfl, rfl⟩
      rw [← show pd = 0 from by rw [ep, if_pos (om.mp z)]]
      exact rest
  | false =>
    have ew : w = b := ew
    subst ew
    have ep : pd = if p = none then 0 else nI c := ep
    refine c_X2_gainOf_0 (x5 := 0) (d := d + 1) (P40 := fun y g => y = nI (vN K n w (M w)) ∧ h = g) (P40_1 := fun y g => y = nI (vN K n w (M w)) ∧ h = g) (P40_2 := fun _ _ => False) (P40_3 := fun _ _ => False) (P40_4 := fun _ _ => False) (P40_5 := fun _ _ => False) (P40_6 := fun _ _ => False) (P40_7 := fun _ _ => False) hA0 RO_rm hcs0 (fun _ _ _ => vals d) ?_ (fun _ _ _ => vals d) ?_ (fun _ z => absurd rfl z) (fun _ z => absurd rfl z) (fun _ z => absurd rfl z) (fun _ z => absurd rfl z) (fun z => absurd rfl z) (fun z => absurd rfl z) (fun z => absurd rfl z) (fun z => absurd rfl z) (fun z => absurd rfl z) (fun z => absurd rfl z) (fun z => absurd rfl z) (fun z => absurd rfl z)
    · rintro _ _ z y g ⟨rfl, rfl⟩
      rw [hc, ← show pd = nI c from by rw [ep, if_neg (fun y => z (pm.mpr y))]]
      exact rest
    · rintro _ _ z y g ⟨rfl, rfl⟩
      rw [← show pd = 0 from by rw [ep, if_pos (pm.mp z)]]
      exact rest
theorem s_mayDrop {i : Nat} {o : Option Nat} (hA0 : 91 ≤ nx) (m : CM h n K L M c) (hi : i < n) (ho : ∀ j, o = some j → j < n) : Mk X (d + 3) m_X2_mayDrop [.ref 40, .int (nI i), .int (ovI o)] h nx sz (RE (if mdB K L i o = true then 1 else 0) h) := by
  obtain ⟨hF, hP, e2, e3, hg, hL, hN, hc, hc9⟩ := id m
  have h20 := hP.2.1
  have om := ov_m1 (o := o) (fun j hj => by have := ho j hj; omega)
  refine Mk.re fun Q hq => e_X2_mayDrop ?_
  cases o with
  | none =>
    refine c_X2_mayDrop_0 (P30 := fun _ _ => False) hA0 hF RO_rm hcs0 (fun z => absurd rfl z) (fun z => absurd rfl z) (fun _ => s_full (d := d) hA0 hF net1 (by omega)) ?_
    rintro _ _ g ⟨rfl, rfl⟩
    have e : (if bc (h.1 (1 + 1) i) < h.1 (1 + 2) i then (0 : Int32) else 1) = if bc (K i) < L i then 0 else 1 := by
      have a1 : h.1 (1 + 1) = K := e2
      have a2 : h.1 (1 + 2) = L := e3
      rw [a1, a2]
    rw [e]
    by_cases q : bc (K i) < L i
    · rw [if_pos q]
      have : mdB K L i none = true := decide_eq_true q
      rw [if_pos this] at hq
      exact c_X2_mayDrop_13 (fun z => absurd rfl z) (fun _ => c_X2_mayDrop_33 hq rfl)
    · rw [if_neg q]
      have : ¬ mdB K L i none = true := fun z => q (of_decide_eq_true z)
      rw [if_neg this] at hq
      exact c_X2_mayDrop_13 (fun _ => c_X2_mayDrop_33 hq rfl) (fun z => by cases z)
  | some j =>
    have hj := ho j rfl
    refine c_X2_mayDrop_0 (P10 := fun _ _ => False) hA0 hF RO_rm hcs0 (fun _ => s_tied (d := d + 1) hA0 hF (hP.np net1)) ?_ (fun z => by have := om.mp z; cases this) (fun z => by have := om.mp z; cases this)
    rintro _ _ g ⟨rfl, rfl⟩
    have a1 : h.1 (1 + 1) = K := e2
    have e : tieI n (h.1 (1 + 1)) (nI i) (ovI (some j)) = if mdB K L i (some j) = true then 1 else 0 := by
      rw [a1]
      exact tieI_nI h20 hi hj
    rw [e]
    refine c_X2_mayDrop_33 hq ?_
    split <;> rfl
/-- all is kept but the best -/
def Eb (h g : AH) : Prop := g.2 = h.2 ∧ ∀ c j, ¬ (c = 40 ∧ 5 ≤ j ∧ j ≤ 8) → g.1 c j = h.1 c j
theorem Eb.rfl : Eb h h := ⟨Eq.refl _, fun _ _ _ => Eq.refl _⟩
theorem Eb.trans {g k : AH} (a : Eb h g) (b : Eb g k) : Eb h k := ⟨b.1.trans a.1, fun c j hj => (b.2 c j hj).trans (a.2 c j hj)⟩
theorem Eb.set {g : AH} {i : Nat} {x : Int32} (a : Eb h g) (hi : 5 ≤ i ∧ i ≤ 8) : Eb h (setI g 40 i x) := ⟨a.1, fun c j hj => by
  show (if c = 40 ∧ j = i then x else g.1 c j) = _
  rw [if_neg (fun z => hj ⟨z.1, by rw [z.2]; exact hi⟩)]
  exact a.2 c j hj⟩
theorem Eb.sc {g : AH} (a : Eb h g) : Sc h g := ⟨fun x j hj => a.2 x j (fun z => by
  obtain ⟨rfl, z1, z2⟩ := z
  have : j = 5 ∨ j = 6 ∨ j = 7 ∨ j = 8 := by omega
  rcases this with rfl | rfl | rfl | rfl <;> cases hj), fun x j _ => by rw [a.1], fun t => by unfold TXT at *; rw [a.1]; exact t⟩
theorem Eb.row {g : AH} (a : Eb h g) {c : Nat} (hc : c ≠ 40) : g.1 c = h.1 c := funext fun j => a.2 c j (fun z => hc z.1)
/-- the best found, as the class keeps it -/
def rpS (g : AH) (s : St) : Prop := g.1 40 8 = stG s ∧ ∀ b o p v, s = some (b, o, p, v) → g.1 40 5 = nI b ∧ g.1 40 6 = ovI o ∧ g.1 40 7 = ovI p
theorem rpS.cong {g g' : AH} {s : St} (r : rpS g s) (h : ∀ j, g'.1 40 j = g.1 40 j) : rpS g' s := by
  unfold rpS
  rw [h, h, h, h]
  exact r
theorem s_tryDropping {a b : Nat} {o : Option Nat} {s : St} (hA0 : 91 ≤ nx) (m : CM h n K L M c) (ha : a < n) (hb : b < n) (hab : a ≠ b) (hK : tb (K a) b = false) (ho : mdB K L a o = true) (os : okS K L n M c a s) (r : rpS h s) : Mk X (d + 4) m_X2_tryDropping [.ref 40, .int (nI a), .int (ovI o), .int (nI b)] h nx sz (RV fun g => Eb h g ∧ rpS g (thF K L n M c a o b s (n + 1))) := by
  obtain ⟨hF, hP, e2, e3, hg, hL, hN, hc, hc9⟩ := id m
  have h20 := hP.2.1
  refine e_X2_tryDropping (c_X2_tryDropping_0 ?_)
  have key : ∀ (k i : Nat) (g : AH), i + k = n + 1 → Eb h g → rpS g (thF K L n M c a o b s i) → VM X m_X2_tryDropping (d + 4) nx sz (RV fun g => Eb h g ∧ rpS g (thF K L n M c a o b s (n + 1))) 3 [some (.ref 40), some (.int (nI a)), some (.int (ovI o)), some (.int (nI b)), some (.int (ovI (oN i))), none] [] g := by
    intro k
    induction k with
    | zero =>
      intro i g hi sc rr
      have hi : i = n + 1 := by omega
      subst hi
      have yes : g.1 1 0 ≤ ovI (oN (n + 1)) := by
        rw [((hP.sc sc.sc).np net1).2.1]
        exact (ov_end h20 (Nat.le_refl _)).mpr rfl
      exact c_X2_tryDropping_3 (d := d + 3) (P19 := fun _ _ => False) hA0 (hF.sc sc.sc) RO_rm hcs0 (fun _ => ⟨rfl, sc, rr⟩) (fun z => absurd yes z) (fun z => absurd yes z)
    | succ k ih =>
      intro i g hi sc rr
      have mg := m.sc sc.sc
      have no : ¬ g.1 1 0 ≤ ovI (oN i) := fun z => by
        rw [((hP.sc sc.sc).np net1).2.1] at z
        have := (ov_end h20 (by omega)).mp z
        omega
      have hoi : ∀ j, oN i = some j → j < n := fun j hj => by have := oN_lt hj; omega
      have ost := okS_th (o := o) (m := i) hb os
      have eth : thF K L n M c a o b s (i + 1) = stp K L n M c a o b (oN i) (thF K L n M c a o b s i) := rfl
      have skip : ¬ (wnB K L n M c a o b (oN i) = true ∧ stG (thF K L n M c a o b s i) < gI K n M c a o b (oN i) true) → VM X m_X2_tryDropping (d + 4) nx sz (RV fun g => Eb h g ∧ rpS g (thF K L n M c a o b s (n + 1))) 3 [some (.ref 40), some (.int (nI a)), some (.int (ovI o)), some (.int (nI b)), some (.int (ovI (oN i) + 1)), none] [] g := fun z => by
        rw [(ov_oN i).1]
        refine ih (i + 1) g (by omega) sc ?_
        rw [eth]
        unfold stp
        rw [if_neg z]
        exact rr
      refine c_X2_tryDropping_3 hA0 (hF.sc sc.sc) RO_rm hcs0 (fun z => absurd z no) (fun _ => s_mayDrop (d := d) hA0 mg hb hoi) ?_
      rintro _ _ g' ⟨rfl, rfl⟩
      by_cases q : mdB K L b (oN i) = true
      · rw [if_pos q]
        have kn1 := mdB_kn ho
        have kn2 := mdB_kn q
        have cb : cbB K L a o b (oN i) = true := cbB_iff.mpr ⟨hab, hK, ho, q⟩
        refine c_X2_tryDropping_22 hA0 RO_rm hcs0 (fun z => by cases z) (fun _ => s_gainOf (d := d + 1) (f := true) hA0 mg ha hb hab hK kn1 kn2) ?_
        rintro _ y g' ⟨rfl, rfl⟩
        refine c_X2_tryDropping_35 hA0 RO_rm hcs0 (fun z => ?_) (fun _ => s_gainOf (d := d + 1) (f := false) hA0 mg ha hb hab hK kn1 kn2) ?_
        · rw [rr.1] at z
          exact skip (fun y => Int32.not_lt.mpr z y.2)
        rintro z1 y g' ⟨rfl, rfl⟩
        rw [rr.1] at z1
        have z1 := Int32.not_le.mp z1
        have g1 : ¬ gI K n M c a o b (oN i) true ≤ 0 := fun z => ost.1 (Int32.lt_of_lt_of_le z1 z)
        refine c_X2_tryDropping_56 hA0 (fun z => ?_) (fun z => ?_)
        · refine skip (fun y => ?_)
          exact (wn_pos y.1).2 z
        · have wn : wnB K L n M c a o b (oN i) = true := by
            unfold wnB
            rw [cb, decide_eq_false g1, decide_eq_false z]
            rfl
          rw [(ov_oN i).1]
          refine ih (i + 1) _ (by omega) ((((sc.set (by decide)).set (by decide)).set (by decide)).set (by decide)) ?_
          rw [eth]
          unfold stp
          rw [if_pos ⟨wn, z1⟩]
          refine ⟨rfl, fun b' o' p' v e => ?_⟩
          cases e
          exact ⟨rfl, rfl, rfl⟩
      · rw [if_neg q]
        exact c_X2_tryDropping_22 (d := d + 3) (P32 := fun _ _ => False) hA0 RO_rm hcs0 (fun _ => skip (fun z => q (cbB_iff.mp (wn_cb z.1)).2.2.2)) (fun z => absurd rfl z) (fun z => absurd rfl z)
  exact key (n + 1) 0 h (by omega) Eb.rfl r
theorem s_tryTaking {a b : Nat} {s : St} (hA0 : 91 ≤ nx) (m : CM h n K L M c) (ha : a < n) (hb : b < n) (hab : a ≠ b) (hK : tb (K a) b = false) (os : okS K L n M c a s) (r : rpS h s) : Mk X (d + 5) m_X2_tryTaking [.ref 40, .int (nI a), .int (nI b)] h nx sz (RV fun g => Eb h g ∧ rpS g (drF K L n M c a b s (n + 1))) := by
  obtain ⟨hF, hP, e2, e3, hg, hL, hN, hc, hc9⟩ := id m
  have h20 := hP.2.1
  refine e_X2_tryTaking (c_X2_tryTaking_0 ?_)
  have key : ∀ (k i : Nat) (g : AH), i + k = n + 1 → Eb h g → rpS g (drF K L n M c a b s i) → VM X m_X2_tryTaking (d + 5) nx sz (RV fun g => Eb h g ∧ rpS g (drF K L n M c a b s (n + 1))) 2 [some (.ref 40), some (.int (nI a)), some (.int (nI b)), some (.int (ovI (oN i)))] [] g := by
    intro k
    induction k with
    | zero =>
      intro i g hi sc rr
      have hi : i = n + 1 := by omega
      subst hi
      have yes : g.1 1 0 ≤ ovI (oN (n + 1)) := by
        rw [((hP.sc sc.sc).np net1).2.1]
        exact (ov_end h20 (Nat.le_refl _)).mpr rfl
      exact c_X2_tryTaking_2 (d := d + 4) (P16 := fun _ _ => False) hA0 (hF.sc sc.sc) RO_rm hcs0 (fun _ => ⟨rfl, sc, rr⟩) (fun z => absurd yes z) (fun z => absurd yes z)
    | succ k ih =>
      intro i g hi sc rr
      have mg := m.sc sc.sc
      have no : ¬ g.1 1 0 ≤ ovI (oN i) := fun z => by
        rw [((hP.sc sc.sc).np net1).2.1] at z
        have := (ov_end h20 (by omega)).mp z
        omega
      have hoi : ∀ j, oN i = some j → j < n := fun j hj => by have := oN_lt hj; omega
      have ost := okS_dr (m := i) hb os
      have eth : drF K L n M c a b s (i + 1) = thF K L n M c a (oN i) b (drF K L n M c a b s i) (n + 1) := rfl
      have skip : (mdB K L a (oN i) = false ∨ gI K n M c a (oN i) b none true ≤ stG (drF K L n M c a b s i)) → VM X m_X2_tryTaking (d + 5) nx sz (RV fun g => Eb h g ∧ rpS g (drF K L n M c a b s (n + 1))) 45 [some (.ref 40), some (.int (nI a)), some (.int (nI b)), some (.int (ovI (oN i)))] [] g := fun z => by
        refine c_X2_tryTaking_45 ?_
        rw [(ov_oN i).1]
        refine ih (i + 1) g (by omega) sc ?_
        rw [eth, th_skip hg h20 m.m99 hc9 ha hb z]
        exact rr
      refine c_X2_tryTaking_2 hA0 (hF.sc sc.sc) RO_rm hcs0 (fun z => absurd z no) (fun _ => s_mayDrop (d := d + 1) hA0 mg ha hoi) ?_
      rintro _ _ g' ⟨rfl, rfl⟩
      by_cases q : mdB K L a (oN i) = true
      · rw [if_pos q]
        refine c_X2_tryTaking_19 hA0 RO_rm hcs0 (fun z => by cases z) (fun _ => s_gainOf (d := d + 2) (p := none) (f := true) hA0 mg ha hb hab hK (mdB_kn q) (fun j hj => by cases hj)) ?_
        rintro _ y g' ⟨rfl, rfl⟩
        refine c_X2_tryTaking_31 hA0 RO_rm hcs0 (fun z => ?_) (fun _ => s_tryDropping (d := d) hA0 mg ha hb hab hK q ost rr) ?_
        · rw [rr.1] at z
          exact skip (Or.inr z)
        rintro _ g2 ⟨sc2, rr2⟩
        refine c_X2_tryTaking_45 ?_
        rw [(ov_oN i).1]
        exact ih (i + 1) g2 (by omega) (sc.trans sc2) rr2
      · rw [if_neg q]
        exact c_X2_tryTaking_19 (d := d + 4) (P28 := fun _ _ => False) hA0 RO_rm hcs0 (fun _ => skip (Or.inl (by simpa using q))) (fun z => absurd rfl z) (fun z => absurd rfl z)
  exact key (n + 1) 0 h (by omega) Eb.rfl r
theorem need_0 {a : Nat} (m : CM h n K L M c) (ha : a < n) : h.1 62 a = 0 ↔ ∀ j, j < n → M a j = 0 := by
  obtain ⟨q1, q2⟩ := m.2.2.2.2.2.2.1 a ha
  constructor
  · intro z j hj
    obtain ⟨-, -, t, -⟩ := q1 j hj
    rw [z, tb_0] at t
    have := of_decide_eq_false t.symm
    omega
  · intro z
    apply tb_ext
    intro j _
    rw [tb_0]
    cases e : tb (h.1 62 a) j with
    | false => rfl
    | true =>
      have hj := q2 j e
      obtain ⟨-, -, t, -⟩ := q1 j hj
      rw [e] at t
      have := of_decide_eq_true t.symm
      rw [z j hj] at this
      omega
theorem s_findBest {a : Nat} (hA0 : 91 ≤ nx) (m : CM h n K L M c) (ha : a < n) : Mk X (d + 6) m_X2_findBest [.ref 40, .int (nI a)] h nx sz (RI fun y g => y = (if tkF K L n M c a n = none then 0 else 1) ∧ Eb h g ∧ rpS g (tkF K L n M c a n)) := by
  obtain ⟨hF, hP, e2, e3, hg, hL, hN, hc, hc9⟩ := id m
  have h20 := hP.2.1
  have s0 : Eb h (setI h 40 8 0) := Eb.rfl.set (by decide)
  have n0 := need_0 m ha
  refine e_X2_findBest (c_X2_findBest_0 hA0 hF (vin (by omega) (by decide)) (fun z => ?_) (fun z => ?_))
  · have key : ∀ (k i : Nat) (g : AH), i + k = n → Eb h g → rpS g (tkF K L n M c a i) → VM X m_X2_findBest (d + 6) nx sz (RI fun y g => y = (if tkF K L n M c a n = none then 0 else 1) ∧ Eb h g ∧ rpS g (tkF K L n M c a n)) 18 [some (.ref 40), some (.int (nI a)), some (.int (nI i))] [] g := by
      intro k
      induction k with
      | zero =>
        intro i g hi sc rr
        have hi : i = n := by omega
        subst hi
        have yes : g.1 1 0 ≤ nI i := by rw [((hP.sc sc.sc).np net1).2.1]; exact Int32.le_refl _
        have o0 := okS_0 (okS_tk (K := K) (L := L) (M := M) (c := c) (a := a) (Nat.le_refl i))
        refine c_X2_findBest_18 (d := d + 5) (P49 := fun _ _ => False) hA0 (hF.sc sc.sc) RO_rm hcs0 (fun _ z => ⟨_, rfl, ?_, sc, rr⟩) (fun _ z => ⟨_, rfl, ?_, sc, rr⟩) (fun z => absurd yes z) (fun z => absurd yes z) (fun z => absurd yes z) (fun z => absurd yes z) (fun z => absurd yes z)
        · rw [rr.1] at z
          rw [if_pos (o0.mp z)]
        · rw [rr.1] at z
          rw [if_neg (fun y => z (o0.mpr y))]
      | succ k ih =>
        intro i g hi sc rr
        have mg := m.sc sc.sc
        have hin : i < n := by omega
        have no : ¬ g.1 1 0 ≤ nI i := fun z => by rw [((hP.sc sc.sc).np net1).2.1, le_nI (by omega) (by omega)] at z; omega
        have eth : tkF K L n M c a (i + 1) = drF K L n M c a i (tkF K L n M c a i) (n + 1) := rfl
        have skip : (∀ o p, wnB K L n M c a o i p = false) → VM X m_X2_findBest (d + 6) nx sz (RI fun y g => y = (if tkF K L n M c a n = none then 0 else 1) ∧ Eb h g ∧ rpS g (tkF K L n M c a n)) 61 [some (.ref 40), some (.int (nI a)), some (.int (nI i))] [] g := fun z => by
          refine c_X2_findBest_61 ?_
          rw [nI_1]
          refine ih (i + 1) g (by omega) sc ?_
          rw [eth, dr_id z]
          exact rr
        have ni := need_0 mg hin
        refine c_X2_findBest_18 hA0 (hF.sc sc.sc) RO_rm hcs0 (fun z => absurd z no) (fun z => absurd z no) (fun _ z => ?_) (fun _ _ => vin (by omega) (by decide)) (fun _ _ z => ?_) (fun _ _ _ => s_tied (d := d + 4) hA0 (hF.sc sc.sc) ((hP.sc sc.sc).np net1)) ?_
        · have z := nI_inj (by omega) (by omega) z
          subst z
          exact skip (fun o p => by
            cases q : wnB K L n M c i o i p with
            | false => rfl
            | true => exact absurd rfl (cbB_iff.mp (wn_cb q)).1)
        · rw [tN (by omega)] at z
          exact skip (fun o p => wn_none1 h20 m.m99 hc9 ha hin (Or.inr (ni.mp z)))
        rintro _ z1 _ y g' ⟨rfl, rfl⟩
        have hai : a ≠ i := fun z => z1 (by rw [z])
        have a1 : g.1 (1 + 1) = K := mg.2.2.1
        rw [a1, tieI_nI h20 ha hin]
        by_cases q : tb (K a) i = true
        · rw [if_pos q]
          exact c_X2_findBest_52 (d := d + 5) (P58 := fun _ => False) hA0 RO_rm hcs0 (fun _ => skip (fun o p => by
            cases q2 : wnB K L n M c a o i p with
            | false => rfl
            | true =>
              have := (cbB_iff.mp (wn_cb q2)).2.1
              rw [q] at this
              cases this)) (fun z => by cases z) (fun z => by cases z)
        · rw [if_neg q]
          have q : tb (K a) i = false := by simpa using q
          refine c_X2_findBest_52 hA0 RO_rm hcs0 (fun z => absurd rfl z) (fun _ => s_tryTaking (d := d) hA0 mg ha hin hai q (okS_tk (by omega)) rr) ?_
          rintro _ g2 ⟨sc2, rr2⟩
          refine c_X2_findBest_61 ?_
          rw [nI_1]
          exact ih (i + 1) g2 (by omega) (sc.trans sc2) rr2
    exact key n 0 _ (by omega) s0 ⟨rfl, fun b o p v e => by cases e⟩
  · rw [tN (by omega)] at z
    have e := tk_none (L := L) (K := K) h20 m.m99 hc9 ha (n0.mp z) (Nat.le_refl n)
    refine ⟨_, rfl, ?_, s0, ?_⟩
    · rw [if_pos e]
    · rw [e]
      exact ⟨rfl, fun b o p v e => by cases e⟩
end OPS

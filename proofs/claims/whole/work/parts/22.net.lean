/-! SevenTown.Net: what each method answers -/
/-- a net of n people -/
def NP (h : AH) (a n : Nat) : Prop := IsNet a ∧ h.1 a 0 = nI n ∧ h.1 a 1 = full n ∧ 2 ≤ n ∧ n ≤ 20
theorem Fx.of {h g : AH} (hF : Fx h) (e : g.2 = h.2) : Fx g := fun k j r hr => by rw [e]; exact hF k j r hr
theorem le_nI {a b : Nat} (ha : a < 2 ^ 31) (hb : b < 2 ^ 31) : nI a ≤ nI b ↔ a ≤ b := nI_leI ha hb
theorem vin {i N : Nat} (h : i < N) (hN : N < 2 ^ 31) : vp_in (nI i) N := vp_in_nI h hN
theorem tN {i : Nat} (h : i < 2 ^ 31) : (nI i).toNatClampNeg = i := nI_clamp h
/-- whether x is one of n -/
def hasI (n : Nat) (x : Int32) : Int32 := if ¬ x < 0 ∧ ¬ nI n ≤ x then 1 else 0
theorem hasI_1 {n : Nat} {x : Int32} (hn : n < 2 ^ 31) : hasI n x = 1 ↔ ∃ i, i < n ∧ x = nI i := by
  unfold hasI
  constructor
  · intro h
    split at h
    next hc =>
      rcases pk_ix x hn with h1 | h1 | h1
      · exact absurd h1 hc.1
      · exact absurd h1 hc.2
      · exact h1
    next => cases h
  · rintro ⟨i, hi, rfl⟩
    rw [if_pos ⟨nI_pos (by omega), fun z => by have := (nI_leI hn (by omega)).mp z; omega⟩]
theorem hasI_0 {n : Nat} {x : Int32} : hasI n x = 0 ∨ hasI n x = 1 := by
  unfold hasI
  split
  · exact Or.inr rfl
  · exact Or.inl rfl
theorem hasI_nI {n i : Nat} (hn : n < 2 ^ 31) (hi : i < n) : hasI n (nI i) = 1 := (hasI_1 hn).mpr ⟨i, hi, rfl⟩
/-- the answer v, the heap g -/
abbrev RE (v : Int32) (g0 : AH) : Option Value → AH → Prop := RI fun y g => y = v ∧ g0 = g
abbrev RVE (g0 : AH) : Option Value → AH → Prop := RV fun g => g0 = g
abbrev RJE (v : Int64) (g0 : AH) : Option Value → AH → Prop := RJ fun y g => y = v ∧ g0 = g
theorem Mk.re {X : CX} {d : Nat} {mt : MT} {av : List Value} {h g0 : AH} {nx sz : Nat} {v : Int32} (k : ∀ Q : Option Value → AH → Prop, Q (some (.int v)) g0 → Mk X d mt av h nx sz Q) : Mk X d mt av h nx sz (RE v g0) := k _ ⟨_, rfl, rfl, rfl⟩
theorem Mk.rv {X : CX} {d : Nat} {mt : MT} {av : List Value} {h g0 : AH} {nx sz : Nat} (k : ∀ Q : Option Value → AH → Prop, Q none g0 → Mk X d mt av h nx sz Q) : Mk X d mt av h nx sz (RVE g0) := k _ ⟨rfl, rfl⟩
theorem Mk.rj {X : CX} {d : Nat} {mt : MT} {av : List Value} {h g0 : AH} {nx sz : Nat} {v : Int64} (k : ∀ Q : Option Value → AH → Prop, Q (some (.long v)) g0 → Mk X d mt av h nx sz Q) : Mk X d mt av h nx sz (RJE v g0) := k _ ⟨_, rfl, rfl, rfl⟩
/-- V in a method that makes nothing -/
abbrev VM (X : CX) (mt : MT) (d nx sz : Nat) (Q : Option Value → AH → Prop) (pc : Nat) (L : List (Option Value)) (st : List Value) (h : AH) : Prop := V X mt (rm d 0 0) (ZM X Q nx sz 0 0) (nx, sz, 0, 0) pc L st h
section NET
variable {X : CX} {d nx sz : Nat} {h : AH} {a n : Nat}
theorem s_bitCount {x : Int32} : Mk X d m_J6_bitCount_0f7a4 [.int x] h nx sz (RE (bc x) h) :=
  e_J6_bitCount_0f7a4 (c_J6_bitCount_0f7a4_0 ⟨_, rfl, rfl, rfl⟩)
theorem s_has {x : Int32} (hA0 : 91 ≤ nx) (hp : NP h a n) : Mk X d m_X3_has [.ref a, .int x] h nx sz (RE (hasI n x) h) := by
  obtain ⟨hn, h0, -, -, -⟩ := hp
  refine e_X3_has (c_X3_has_0 hA0 hn (fun c => ⟨_, rfl, ?_, rfl⟩) (fun c c1 => ⟨_, rfl, ?_, rfl⟩) (fun c c1 => ⟨_, rfl, ?_, rfl⟩)) <;> unfold hasI
  · rw [if_neg (fun z => z.1 c)]
  · rw [if_neg (fun z => z.2 (by rw [← h0]; exact c1))]
  · rw [if_pos ⟨c, by rw [← h0]; exact c1⟩]
/-- whether x and y are two -/
def twoI (n : Nat) (x y : Int32) : Int32 := if hasI n x = 1 ∧ hasI n y = 1 ∧ x ≠ y then 1 else 0
theorem s_hasTwo {x y : Int32} (hA0 : 91 ≤ nx) (hp : NP h a n) : Mk X (d + 1) m_X3_hasTwo [.ref a, .int x, .int y] h nx sz (RE (twoI n x y) h) := by
  refine e_X3_hasTwo (c_X3_hasTwo_0 hA0 RO_rm ⟨Nat.le_refl _, Nat.le_refl _⟩ hp.1 (s_has (d := d) hA0 hp) ?_)
  rintro y1 g ⟨rfl, rfl⟩
  refine c_X3_hasTwo_5 hA0 RO_rm ⟨Nat.le_refl _, Nat.le_refl _⟩ hp.1 (fun c => ⟨_, rfl, ?_, rfl⟩) (fun _ => s_has (d := d) hA0 hp) ?_
  · unfold twoI
    rw [if_neg (fun z => by rw [z.1] at c; cases c)]
  rintro c1 y2 g ⟨rfl, rfl⟩
  have c1 : hasI n x = 1 := (hasI_0).resolve_left c1
  refine c_X3_hasTwo_13 (fun c => ⟨_, rfl, ?_, rfl⟩) (fun _ c => ⟨_, rfl, ?_, rfl⟩) (fun c2 c => ⟨_, rfl, ?_, rfl⟩) <;> unfold twoI
  · rw [if_neg (fun z => by rw [z.2.1] at c; cases c)]
  · rw [if_neg (fun z => z.2.2 c)]
  · rw [if_pos ⟨c1, hasI_0.resolve_left c2, c⟩]
/-- whether x and y are tied -/
def tieI (n : Nat) (K : Nat → Int32) (x y : Int32) : Int32 := if hasI n x = 1 ∧ hasI n y = 1 ∧ tb (K x.toNatClampNeg) y.toNatClampNeg = true then 1 else 0
theorem s_tied {x y : Int32} (hA0 : 91 ≤ nx) (hF : Fx h) (hp : NP h a n) : Mk X (d + 1) m_X3_tied [.ref a, .int x, .int y] h nx sz (RE (tieI n (h.1 (a + 1)) x y) h) := by
  obtain ⟨hn, h0, h1, h2, h20⟩ := id hp
  refine e_X3_tied (c_X3_tied_0 hA0 RO_rm ⟨Nat.le_refl _, Nat.le_refl _⟩ hn (s_has (d := d) hA0 hp) ?_)
  rintro y1 g ⟨rfl, rfl⟩
  refine c_X3_tied_5 hA0 RO_rm ⟨Nat.le_refl _, Nat.le_refl _⟩ hn (fun c => ⟨_, rfl, ?_, rfl⟩) (fun _ => s_has (d := d) hA0 hp) ?_
  · unfold tieI
    rw [if_neg (fun z => by rw [z.1] at c; cases c)]
  rintro c1 y2 g ⟨rfl, rfl⟩
  have c1 : hasI n x = 1 := (hasI_0).resolve_left c1
  obtain ⟨i, hi, rfl⟩ := (hasI_1 (by omega)).mp c1
  refine c_X3_tied_13 hA0 hF hn (fun c => ⟨_, rfl, ?_, rfl⟩) (fun _ => vin (by omega) (by decide)) (fun c2 c => ⟨_, rfl, ?_, rfl⟩) (fun c2 c => ⟨_, rfl, ?_, rfl⟩) <;> unfold tieI
  · rw [if_neg (fun z => by rw [z.2.1] at c; cases c)]
  · obtain ⟨j, hj, rfl⟩ := (hasI_1 (by omega)).mp (hasI_0.resolve_left c2)
    rw [shr_eq0 (by omega)] at c
    rw [if_neg]
    rintro ⟨-, -, z⟩
    rw [tN (by omega : j < 2 ^ 31)] at z
    rw [z] at c
    cases c
  · obtain ⟨j, hj, rfl⟩ := (hasI_1 (by omega)).mp (hasI_0.resolve_left c2)
    rw [shr_eq0 (by omega)] at c
    rw [if_pos]
    refine ⟨c1, hasI_nI (by omega) hj, ?_⟩
    rw [tN (by omega : j < 2 ^ 31)]
    simpa using c
theorem s_degree {i : Nat} (hA0 : 91 ≤ nx) (hF : Fx h) (hn : IsNet a) (hi : i < 20) : Mk X (d + 1) m_X3_degree [.ref a, .int (nI i)] h nx sz (RE (bc (h.1 (a + 1) i)) h) := by
  refine e_X3_degree (c_X3_degree_0 hA0 hF hn RO_rm ⟨Nat.le_refl _, Nat.le_refl _⟩ (vin hi (by decide)) (s_bitCount (d := d)) ?_)
  rintro y g ⟨rfl, rfl⟩
  refine c_X3_degree_9 ⟨_, rfl, ?_, rfl⟩
  rw [tN (by omega)]
theorem s_full {i : Nat} (hA0 : 91 ≤ nx) (hF : Fx h) (hn : IsNet a) (hi : i < 20) : Mk X (d + 2) m_X3_full [.ref a, .int (nI i)] h nx sz (RE ((if bc (h.1 (a + 1) i) < h.1 (a + 2) i then 0 else 1)) h) := by
  refine e_X3_full (c_X3_full_0 hA0 hF hn RO_rm ⟨Nat.le_refl _, Nat.le_refl _⟩ (vin hi (by decide)) (s_bitCount (d := d + 1)) ?_)
  rintro y g ⟨rfl, rfl⟩
  refine c_X3_full_9 hA0 hF hn (vin hi (by decide)) (fun c => ⟨_, rfl, ?_, rfl⟩) (fun c => ⟨_, rfl, ?_, rfl⟩)
  · rw [tN (by omega)] at c
    rw [if_pos c]
  · rw [tN (by omega)] at c
    rw [if_neg c]
/-- two are tied, or no longer -/
def joinK (K : Nat → Int32) (i j : Nat) : Nat → Int32 := fun k => if k = j then (if j = i then K i ||| bt j else K j) ||| bt i else if k = i then K i ||| bt j else K k
def partK (K : Nat → Int32) (i j : Nat) : Nat → Int32 := fun k => if k = j then (if j = i then K i &&& (bt j ^^^ (-1)) else K j) &&& (bt i ^^^ (-1)) else if k = i then K i &&& (bt j ^^^ (-1)) else K k
theorem s_join {i j : Nat} (hA0 : 91 ≤ nx) (hF : Fx h) (hn : IsNet a) (hi : i < 20) (hj : j < 20) : Mk X d m_X3_join [.ref a, .int (nI i), .int (nI j)] h nx sz (RV fun g => g = setA h (a + 1) (joinK (h.1 (a + 1)) i j)) := by
  refine e_X3_join (c_X3_join_0 hA0 hF hn (vin hi (by decide)) (vin hi (by decide)) (vin hj (by decide)) (vin hj (by decide)) ⟨rfl, ?_⟩)
  rw [tN (by omega), tN (by omega), bt_toInt32, bt_toInt32]
  refine Prod.ext (funext fun b => funext fun k => ?_) rfl
  by_cases e : b = a + 1
  · subst e
    by_cases e1 : k = j
    · subst e1
      by_cases e2 : k = i <;> simp [setI, setA, joinK, e2]
    · by_cases e2 : k = i <;> simp [setI, setA, joinK, e1, e2]
  · simp [setI, setA, e]
theorem s_part {i j : Nat} (hA0 : 91 ≤ nx) (hF : Fx h) (hn : IsNet a) (hi : i < 20) (hj : j < 20) : Mk X d m_X3_part [.ref a, .int (nI i), .int (nI j)] h nx sz (RV fun g => g = setA h (a + 1) (partK (h.1 (a + 1)) i j)) := by
  refine e_X3_part (c_X3_part_0 hA0 hF hn (vin hi (by decide)) (vin hi (by decide)) (vin hj (by decide)) (vin hj (by decide)) ⟨rfl, ?_⟩)
  rw [tN (by omega), tN (by omega), bt_toInt32, bt_toInt32]
  refine Prod.ext (funext fun b => funext fun k => ?_) rfl
  by_cases e : b = a + 1
  · subst e
    by_cases e1 : k = j
    · subst e1
      by_cases e2 : k = i <;> simp [setI, setA, partK, e2]
    · by_cases e2 : k = i <;> simp [setI, setA, partK, e1, e2]
  · simp [setI, setA, e]
/-- sums of ints -/
def smI (f : Nat → Int32) : Nat → Int32
  | 0 => 0
  | n + 1 => smI f n + f n
theorem smI_nI {f : Nat → Nat} : ∀ {n : Nat}, smI (fun i => nI (f i)) n = nI (sm f n)
  | 0 => rfl
  | n + 1 => by
    show smI _ n + nI (f n) = nI (sm f n + f n)
    rw [smI_nI (n := n), nI_add]
theorem s_tieCount (hA0 : 91 ≤ nx) (hF : Fx h) (hp : NP h a n) : Mk X (d + 2) m_X3_tieCount [.ref a] h nx sz (RE (smI (fun i => bc (h.1 (a + 1) i)) n / 2) h) := by
  obtain ⟨hn, h0, h1, h2, h20⟩ := hp
  refine Mk.re fun Q hq => e_X3_tieCount (c_X3_tieCount_0 ?_)
  refine down_ind (N := n) (P := fun i => VM X m_X3_tieCount (d + 2) nx sz Q 4 [some (.ref a), some (.int (smI (fun i => bc (h.1 (a + 1) i)) i)), some (.int (nI i))] [] h) ?_ (fun i hi q => ?_)
  · refine c_X3_tieCount_4 (d := d + 1) (P15 := fun _ _ => False) hA0 hn RO_rm ⟨Nat.le_refl _, Nat.le_refl _⟩ (fun _ => hq) (fun c => absurd (by rw [h0]; exact Int32.le_refl _) c) (fun c => absurd (by rw [h0]; exact Int32.le_refl _) c)
  · refine c_X3_tieCount_4 hA0 hn RO_rm ⟨Nat.le_refl _, Nat.le_refl _⟩ (fun c => ?_) (fun _ => s_degree (d := d) hA0 hF hn (by omega)) ?_
    · rw [h0, le_nI (by omega) (by omega)] at c
      omega
    · rintro _ y g ⟨rfl, rfl⟩
      refine c_X3_tieCount_18 ?_
      rw [nI_1]
      exact q
theorem s_inCommon {i j : Nat} (hA0 : 91 ≤ nx) (hF : Fx h) (hn : IsNet a) (hi : i < 20) (hj : j < 20) : Mk X (d + 1) m_X3_inCommon [.ref a, .int (nI i), .int (nI j)] h nx sz (RE (bc (h.1 (a + 1) i &&& h.1 (a + 1) j)) h) := by
  refine e_X3_inCommon (c_X3_inCommon_0 hA0 hF hn RO_rm ⟨Nat.le_refl _, Nat.le_refl _⟩ (vin hi (by decide)) (vin hj (by decide)) (s_bitCount (d := d)) ?_)
  rintro y g ⟨rfl, rfl⟩
  refine c_X3_inCommon_16 ⟨_, rfl, ?_, rfl⟩
  rw [tN (by omega), tN (by omega)]
theorem s_hasBits {x : Int32} (hA0 : 91 ≤ nx) (hp : NP h a n) : Mk X d m_X3_hasBits [.ref a, .int x] h nx sz (RE ((if x ≠ 0 ∧ x &&& (full n ^^^ (-1)) = 0 then 1 else 0)) h) := by
  obtain ⟨hn, h0, h1, h2, h20⟩ := hp
  refine e_X3_hasBits (c_X3_hasBits_0 hA0 hn (fun c => ⟨_, rfl, ?_, rfl⟩) (fun c c1 => ⟨_, rfl, ?_, rfl⟩) (fun c c1 => ⟨_, rfl, ?_, rfl⟩))
  · rw [if_neg (fun z => z.1 c)]
  · rw [h1] at c1
    rw [if_neg (fun z => c1 z.2)]
  · rw [h1] at c1
    rw [if_pos ⟨c, c1⟩]
theorem s_around {f m : Int32} (hA0 : 91 ≤ nx) (hF : Fx h) (hp : NP h a n) : Mk X d m_X3_around [.ref a, .int f, .int m] h nx sz (RE (arnd (h.1 (a + 1)) f n &&& m) h) := by
  obtain ⟨hn, h0, h1, h2, h20⟩ := hp
  refine Mk.re fun Q hq => e_X3_around (c_X3_around_0 ?_)
  refine down_ind (N := n) (P := fun i => VM X m_X3_around d nx sz Q 5 [some (.ref a), some (.int f), some (.int m), some (.int (arnd (h.1 (a + 1)) f i)), some (.int (nI i))] [] h) ?_ (fun i hi q => ?_)
  · refine c_X3_around_5 hA0 hF hn (fun _ => hq) (fun c => absurd (by rw [h0]; exact Int32.le_refl _) c) (fun c => absurd (by rw [h0]; exact Int32.le_refl _) c) (fun c => absurd (by rw [h0]; exact Int32.le_refl _) c)
  · refine c_X3_around_5 hA0 hF hn (fun c => ?_) (fun _ c => ?_) (fun _ _ => vin (by omega) (by decide)) (fun _ c => ?_)
    · rw [h0, le_nI (by omega) (by omega)] at c
      omega
    · rw [shr_eq0 (by omega)] at c
      rw [nI_1]
      have e : arnd (h.1 (a + 1)) f (i + 1) = arnd (h.1 (a + 1)) f i := if_neg (by rw [c]; decide)
      rw [e] at q
      exact q
    · rw [shr_eq0 (by omega)] at c
      rw [nI_1, tN (by omega)]
      have e : arnd (h.1 (a + 1)) f (i + 1) = arnd (h.1 (a + 1)) f i ||| h.1 (a + 1) i := if_pos (by simpa using c)
      rw [e] at q
      exact q
end NET

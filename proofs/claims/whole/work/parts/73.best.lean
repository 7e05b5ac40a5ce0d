/-! sets, the better of two, the best of a family -/
section BS
variable {n : Nat}
/-- the lowest one where they differ is s's -/
def lx (s t : Int32) : Prop := ∃ i, tb s i = true ∧ tb t i = false ∧ ∀ j, j < i → tb s j = tb t j
theorem lx_irr {s : Int32} : ¬ lx s s := fun ⟨i, h1, h2, _⟩ => by rw [h1] at h2; cases h2
theorem lx_trans {s t r : Int32} (a : lx s t) (b : lx t r) : lx s r := by
  obtain ⟨i, a1, a2, a3⟩ := a
  obtain ⟨j, b1, b2, b3⟩ := b
  rcases Nat.lt_trichotomy i j with h | h | h
  · exact ⟨i, a1, by rw [← b3 i h]; exact a2, fun k hk => (a3 k hk).trans (b3 k (by omega))⟩
  · subst h
    rw [a2] at b1
    cases b1
  · exact ⟨j, by rw [a3 j h]; exact b1, b2, fun k hk => (a3 k (by omega)).trans (b3 k hk)⟩
theorem lx_tot {s t : Int32} (h : s ≠ t) : lx s t ∨ lx t s := by
  have hx : s ^^^ t ≠ 0 := fun z => h (tb_ext fun i _ => by
    have : tb (s ^^^ t) i = tb 0 i := by rw [z]
    rw [tb_xor, tb_0] at this
    revert this
    cases tb s i <;> cases tb t i <;> simp)
  obtain ⟨i, -, h1, h2⟩ := low_ex hx
  have e : ∀ j, j < i → tb s j = tb t j := fun j hj => by
    have := h2 j hj
    rw [tb_xor] at this
    revert this
    cases tb s j <;> cases tb t j <;> simp
  rw [tb_xor] at h1
  cases q : tb s i with
  | true =>
    refine Or.inl ⟨i, q, ?_, e⟩
    rw [q] at h1
    revert h1
    cases tb t i <;> simp
  | false =>
    refine Or.inr ⟨i, ?_, q, fun j hj => (e j hj).symm⟩
    rw [q] at h1
    revert h1
    cases tb t i <;> simp
theorem lx_asym {s t : Int32} (a : lx s t) (b : lx t s) : False := lx_irr (lx_trans a b)
def bet (n : Nat) (few : Bool) (s t : Int32) : Prop := if cnt s n = cnt t n then lx s t else (if few = true then cnt s n < cnt t n else cnt t n < cnt s n)
theorem bet_iff {few : Bool} {s t : Int32} : bet n few s t ↔ (cnt s n = cnt t n ∧ lx s t) ∨ (few = true ∧ cnt s n < cnt t n) ∨ (few = false ∧ cnt t n < cnt s n) := by
  unfold bet
  by_cases h1 : cnt s n = cnt t n
  · rw [if_pos h1]
    constructor
    · intro z
      exact Or.inl ⟨h1, z⟩
    · rintro (z | z | z)
      · exact z.2
      · omega
      · omega
  · rw [if_neg h1]
    cases few
    · simp [h1]
    · simp [h1]
theorem bet_irr {few : Bool} {s : Int32} : ¬ bet n few s s := fun h => by
  rcases bet_iff.mp h with h | h | h
  · exact lx_irr h.2
  · omega
  · omega
theorem bet_trans {few : Bool} {s t r : Int32} (a : bet n few s t) (b : bet n few t r) : bet n few s r := by
  rw [bet_iff] at *
  rcases a with ⟨a1, a2⟩ | ⟨a1, a2⟩ | ⟨a1, a2⟩ <;> rcases b with ⟨b1, b2⟩ | ⟨b1, b2⟩ | ⟨b1, b2⟩
  · exact Or.inl ⟨a1.trans b1, lx_trans a2 b2⟩
  · exact Or.inr (Or.inl ⟨b1, by omega⟩)
  · exact Or.inr (Or.inr ⟨b1, by omega⟩)
  · exact Or.inr (Or.inl ⟨a1, by omega⟩)
  · exact Or.inr (Or.inl ⟨a1, by omega⟩)
  · rw [a1] at b1
    cases b1
  · exact Or.inr (Or.inr ⟨a1, by omega⟩)
  · rw [a1] at b1
    cases b1
  · exact Or.inr (Or.inr ⟨a1, by omega⟩)
theorem bet_tot {few : Bool} {s t : Int32} (h : s ≠ t) : bet n few s t ∨ bet n few t s := by
  rw [bet_iff, bet_iff]
  by_cases h1 : cnt s n = cnt t n
  · rcases lx_tot h with z | z
    · exact Or.inl (Or.inl ⟨h1, z⟩)
    · exact Or.inr (Or.inl ⟨h1.symm, z⟩)
  · rcases Nat.lt_or_gt_of_ne h1 with z | z
    · cases few
      · exact Or.inr (Or.inr (Or.inr ⟨rfl, z⟩))
      · exact Or.inl (Or.inr (Or.inl ⟨rfl, z⟩))
    · cases few
      · exact Or.inl (Or.inr (Or.inr ⟨rfl, z⟩))
      · exact Or.inr (Or.inr (Or.inl ⟨rfl, z⟩))
/-- r is the best of the family -/
def Bst (n : Nat) (few : Bool) (F : Int32 → Prop) (r : Int32) : Prop := F r ∧ ∀ s, F s → ¬ bet n few s r
theorem Bst_one {few : Bool} {F : Int32 → Prop} {r r' : Int32} (a : Bst n few F r) (b : Bst n few F r') : r = r' := Classical.byContradiction fun h => (bet_tot (n := n) (few := few) h).elim (b.2 r a.1) (a.2 r' b.1)
/-- of 0 .. i-1 and the first one -/
noncomputable def bsF (n : Nat) (few : Bool) (P : Int32 → Prop) (t : Int32) : Nat → Int32
  | 0 => t
  | i + 1 => @ite _ (bet n few (nI i) (bsF n few P t i) ∧ P (nI i)) (Classical.propDecidable _) (nI i) (bsF n few P t i)
theorem bsF_ok {few : Bool} {P : Int32 → Prop} {t : Int32} (ht : P t) : ∀ (m : Nat), P (bsF n few P t m) ∧ (¬ bet n few t (bsF n few P t m)) ∧ ∀ i, i < m → P (nI i) → ¬ bet n few (nI i) (bsF n few P t m)
  | 0 => ⟨ht, bet_irr, fun i hi => by omega⟩
  | m + 1 => by
    obtain ⟨h1, h2, h3⟩ := bsF_ok ht m
    unfold bsF
    by_cases c : bet n few (nI m) (bsF n few P t m) ∧ P (nI m)
    · rw [if_pos c]
      refine ⟨c.2, fun z => h2 (bet_trans z c.1), fun i hi hp z => ?_⟩
      by_cases e : i = m
      · subst e
        exact bet_irr z
      · exact h3 i (by omega) hp (bet_trans z c.1)
    · rw [if_neg c]
      refine ⟨h1, h2, fun i hi hp z => ?_⟩
      by_cases e : i = m
      · subst e
        exact c ⟨z, hp⟩
      · exact h3 i (by omega) hp z
theorem lt_of_bits {s : Int32} (hn : n ≤ 20) (hs : ∀ j, tb s j = true → j < n) : ∃ m, m < 2 ^ n ∧ s = nI m := by
  have h := u_tb.mp (fun j (hj : n ≤ j) => by
    cases e : tb s j with
    | false => rfl
    | true => have := hs j e; omega)
  exact ⟨u s, h, nI_u (Nat.lt_trans h (p20 hn))⟩
theorem bits_of_lt {m : Nat} (hn : n ≤ 20) (hm : m < 2 ^ n) (j : Nat) (h : tb (nI m) j = true) : j < n := by
  rw [tb_nI (Nat.lt_trans hm (p20 hn))] at h
  rcases Nat.lt_or_ge j n with q | q
  · exact q
  · rw [Nat.testBit_lt_two_pow (Nat.lt_of_lt_of_le hm (Nat.pow_le_pow_right (by decide) q))] at h
    cases h
theorem bsF_bits {few : Bool} {P : Int32 → Prop} {t : Int32} (hn : n ≤ 20) (htb : ∀ j, tb t j = true → j < n) : ∀ m, m ≤ 2 ^ n → ∀ j, tb (bsF n few P t m) j = true → j < n := by
  intro m
  induction m with
  | zero => intro _; exact htb
  | succ m ih =>
    intro hm j hj
    unfold bsF at hj
    split at hj
    · exact bits_of_lt hn (by omega) j hj
    · exact ih (by omega) j hj
theorem bsF_best {few : Bool} {P : Int32 → Prop} {t : Int32} (hn : n ≤ 20) (ht : P t) (htb : ∀ j, tb t j = true → j < n) : Bst n few (fun s => P s ∧ ∀ j, tb s j = true → j < n) (bsF n few P t (2 ^ n)) := by
  obtain ⟨h1, h2, h3⟩ := bsF_ok (n := n) (few := few) ht (2 ^ n)
  refine ⟨⟨h1, ?_⟩, fun s hs => ?_⟩
  · exact bsF_bits hn htb _ (Nat.le_refl _)
  · obtain ⟨m, hm, rfl⟩ := lt_of_bits hn hs.2
    exact h3 m hm hs.1
end BS
/-! the other side: set -/
section OPS
variable {X : CX} {d nx sz : Nat} {h : AH} {n : Nat}
theorem t_isBetter {s t : Int32} {few : Bool} (hn : n ≤ 20) (hs : ∀ j, tb s j = true → j < n) (ht : ∀ j, tb t j = true → j < n) (D : Decidable (bet n few s t)) : Mk X (d + 1) m_X12_isBetter [.int s, .int t, .int (if few = true then 1 else 0)] h nx sz (RE (if bet n few s t then 1 else 0) h) := by
  refine Mk.re fun Q hq => e_X12_isBetter (c_X12_isBetter_0 RO_rm hcs0 (s_bitCount (d := d)) ?_)
  rintro _ g ⟨rfl, rfl⟩
  refine c_X12_isBetter_4 RO_rm hcs0 (s_bitCount (d := d)) ?_
  rintro _ g ⟨rfl, rfl⟩
  rw [bc_lt hn hs, bc_lt hn ht]
  have c1 := cnt_le (x := s) (n := n)
  have c2 := cnt_le (x := t) (n := n)
  have eqI : nI (cnt s n) = nI (cnt t n) ↔ cnt s n = cnt t n := nI_eq (by omega) (by omega)
  have leI : nI (cnt t n) ≤ nI (cnt s n) ↔ cnt t n ≤ cnt s n := le_nI (by omega) (by omega)
  have low : ((s &&& (s ^^^ t)) &&& (-(s ^^^ t))) = 0 ↔ ¬ lx s t := by
    by_cases e : s = t
    · subst e
      constructor
      · intro _
        exact lx_irr
      · intro _
        have : s ^^^ s = 0 := tb_ext fun i _ => by rw [tb_xor, tb_0]; simp
        rw [this]
        apply tb_ext
        intro i _
        rw [tb_and, tb_and, tb_0]
        simp
    · have hx : s ^^^ t ≠ 0 := fun z => e (tb_ext fun i _ => by
        have : tb (s ^^^ t) i = tb 0 i := by rw [z]
        rw [tb_xor, tb_0] at this
        revert this
        cases tb s i <;> cases tb t i <;> simp)
      obtain ⟨i, hi, h1, h2⟩ := low_ex hx
      have ea : ((s &&& (s ^^^ t)) &&& (-(s ^^^ t))) = s &&& bt i := by
        rw [← low_and hi h1 h2]
        apply tb_ext
        intro j _
        simp only [tb_and]
        cases tb s j <;> simp
      have es : ∀ j, j < i → tb s j = tb t j := fun j hj => by
        have := h2 j hj
        rw [tb_xor] at this
        revert this
        cases tb s j <;> cases tb t j <;> simp
      rw [ea]
      have e0 : s &&& bt i = 0 ↔ tb s i = false := by
        constructor
        · intro z
          have : tb (s &&& bt i) i = tb 0 i := by rw [z]
          rw [tb_and, tb_bt hi, tb_0, decide_eq_true rfl, Bool.and_true] at this
          exact this
        · intro z
          apply tb_ext
          intro j _
          rw [tb_and, tb_bt hi, tb_0]
          by_cases q : i = j
          · subst q
            rw [z, Bool.false_and]
          · rw [decide_eq_false q, Bool.and_false]
      rw [e0]
      rw [tb_xor] at h1
      constructor
      · rintro z ⟨j, j1, j2, j3⟩
        have hti : tb t i = true := by
          rw [z] at h1
          revert h1
          cases tb t i <;> simp
        rcases Nat.lt_trichotomy i j with q | q | q
        · have := j3 i q
          rw [z, hti] at this
          cases this
        · subst q
          rw [z] at j1
          cases j1
        · have := es j q
          rw [j1, j2] at this
          cases this
      · intro z
        cases q : tb s i with
        | false => rfl
        | true =>
          refine absurd ⟨i, q, ?_, es⟩ z
          rw [q] at h1
          revert h1
          cases tb t i <;> simp
  have yes : bet n few s t → Q (some (.int 1)) h := fun z => by rw [if_pos z] at hq; exact hq
  have no : ¬ bet n few s t → Q (some (.int 0)) h := fun z => by rw [if_neg z] at hq; exact hq
  have b0 := bet_iff (n := n) (few := few) (s := s) (t := t)
  cases few
  · have e0 : (if (false = true) then (1 : Int32) else 0) = 0 := rfl
    rw [e0]
    refine c_X12_isBetter_9 (fun c z => no (fun y => ?_)) (fun c z => yes (b0.mpr (Or.inl ⟨eqI.mp c, Classical.byContradiction fun y => z (low.mpr y)⟩))) (fun _ _ z => absurd rfl z) (fun c z _ => yes (b0.mpr (Or.inr (Or.inr ⟨rfl, ?_⟩)))) (fun c z _ => no (fun y => ?_)) (fun _ _ z => by cases z)
    · rcases b0.mp y with y | y | y
      · exact low.mp z y.2
      · cases y.1
      · have := eqI.mp c; omega
    · rw [leI] at z
      have : ¬ cnt s n = cnt t n := fun y => c (eqI.mpr y)
      omega
    · rw [leI] at z
      rcases b0.mp y with y | y | y
      · exact c (eqI.mpr y.1)
      · cases y.1
      · omega
  · have e0 : (if (true = true) then (1 : Int32) else 0) = 1 := rfl
    rw [e0]
    refine c_X12_isBetter_9 (fun c z => no (fun y => ?_)) (fun c z => yes (b0.mpr (Or.inl ⟨eqI.mp c, Classical.byContradiction fun y => z (low.mpr y)⟩))) (fun c z _ => no (fun y => ?_)) (fun _ _ z => by cases z) (fun _ _ z => absurd rfl z) (fun c z _ => yes (b0.mpr (Or.inr (Or.inl ⟨rfl, ?_⟩))))
    · rcases b0.mp y with y | y | y
      · exact low.mp z y.2
      · have := eqI.mp c; omega
      · cases y.1
    · rw [leI] at z
      rcases b0.mp y with y | y | y
      · exact c (eqI.mpr y.1)
      · omega
      · cases y.1
    · rw [leI] at z
      omega
/-- the three questions -/
def isP (K : Nat → Int32) (n w : Nat) (s : Int32) (p : Nat) : Prop := (w = 0 → tb s p = true → s &&& (K p ^^^ (-1)) = bt p) ∧ (w = 1 → tb s p = true → s &&& K p = 0) ∧ (w = 2 → tb s p = false → s &&& K p ≠ 0)
def isA (K : Nat → Int32) (n w : Nat) (s : Int32) : Prop := ∀ p, p < n → isP K n w s p
theorem t_isSet {s : Int32} {w : Nat} (hA0 : 91 ≤ nx) (hF : Fx h) (hp : MP h n) (hw : w ≤ 2) (D : Decidable (isA (h.1 73) n w s)) : Mk X (d + 1) m_X12_isSet [.ref 68, .int s, .int (nI w)] h nx sz (RE (if isA (h.1 73) n w s then 1 else 0) h) := by
  obtain ⟨h0, h2, h20⟩ := id hp
  refine Mk.re fun Q hq => e_X12_isSet (c_X12_isSet_0 ?_)
  have w0 : nI w = 0 ↔ w = 0 := nI_eq (a := w) (b := 0) (by omega) (by omega)
  have w1 : nI w = 1 ↔ w = 1 := nI_eq (a := w) (b := 1) (by omega) (by omega)
  have w2 : nI w = 2 ↔ w = 2 := nI_eq (a := w) (b := 2) (by omega) (by omega)
  have key : ∀ (k i : Nat), i + k = n → (∀ p, p < i → isP (h.1 73) n w s p) → VM X m_X12_isSet (d + 1) nx sz Q 2 [some (.ref 68), some (.int s), some (.int (nI w)), some (.int (nI i)), none] [] h := by
    intro k
    induction k with
    | zero =>
      intro i hi al
      have hi : i = n := by omega
      subst hi
      have yes : h.1 68 1 ≤ nI i := by rw [h0]; exact Int32.le_refl _
      have al : isA (h.1 73) i w s := al
      rw [if_pos al] at hq
      exact c_X12_isSet_2 (d := d) (P12 := fun _ _ => False) hA0 RO_rm hcs0 (fun _ => hq) (fun z => absurd yes z) (fun z => absurd yes z)
    | succ k ih =>
      intro i hi al
      have hin : i < n := by omega
      have no : ¬ h.1 68 1 ≤ nI i := fun z => by rw [h0, le_nI (by omega) (by omega)] at z; omega
      have next : isP (h.1 73) n w s i → VM X m_X12_isSet (d + 1) nx sz Q 2 [some (.ref 68), some (.int s), some (.int (nI w)), some (.int (nI i + 1)), none] [] h := fun z => by
        rw [nI_1]
        refine ih (i + 1) (by omega) (fun p hp => ?_)
        by_cases e : p = i
        · rw [e]; exact z
        · exact al p (by omega)
      have bad : ¬ isP (h.1 73) n w s i → Q (some (.int 0)) h := fun z => by
        rw [if_neg (fun y => z (y i hin))] at hq
        exact hq
      refine c_X12_isSet_2 hA0 RO_rm hcs0 (fun z => absurd z no) (fun _ => t_has (d := d) (by omega)) ?_
      rintro _ _ g ⟨rfl, rfl⟩
      have ei : (nI i).toNatClampNeg = i := tN (by omega)
      have rest : (w = 0 → tb s i = true → s &&& (h.1 73 i ^^^ (-1)) = bt i) → VM X m_X12_isSet (d + 1) nx sz Q 44 [some (.ref 68), some (.int s), some (.int (nI w)), some (.int (nI i)), some (.int (if tb s i = true then 1 else 0))] [] h := fun z0 => by
        have inn : vp_in (nI i) 20 := vin (by omega) (by decide)
        have x1 : ∀ z : w ≠ 1, w ≠ 2 → isP (h.1 73) n w s i := fun z z2 => ⟨z0, fun y => absurd y z, fun y => absurd y z2⟩
        refine c_X12_isSet_44 hA0 hF (fun a b => next (x1 (fun y => a (w1.mpr y)) (fun y => b (w2.mpr y)))) (fun a b c => next ⟨z0, fun y => absurd (w1.mpr y) a, fun _ y => (by rw [y] at c; exact absurd rfl c)⟩) (fun _ _ _ => inn) (fun a b c e => next ⟨z0, fun y => absurd (w1.mpr y) a, fun _ _ => (by rw [ei] at e; exact e)⟩) (fun a b c e => bad (fun y => ?_)) (fun a b c => next ⟨z0, fun _ y => (by rw [y] at b; cases b), fun y => absurd (w2.mpr y) c⟩) (fun a b c => ?_) (fun _ _ _ _ => inn) (fun a b c => ?_) (fun a b c => ?_) (fun _ _ => inn) (fun a b c e => next ⟨z0, fun _ _ => (by rw [ei] at c; exact c), fun y => absurd (w2.mpr y) e⟩) (fun a b c e => ?_) (fun _ _ _ _ _ => inn) (fun a b c e => ?_) (fun a b c e => ?_) (fun a b c => bad (fun y => ?_))
        · rw [ei] at e
          refine y.2.2 (w2.mp b) ?_ e
          exact tb_n c
        · rw [w1.mp a] at c; cases c
        · rw [w1.mp a] at c; cases c
        · rw [w1.mp a] at c; cases c
        · rw [w1.mp a] at e; cases e
        · rw [w1.mp a] at e; cases e
        · rw [w1.mp a] at e; cases e
        · rw [ei] at c
          exact c (y.2.1 (w1.mp a) (tb_c b))
      refine c_X12_isSet_15 hA0 hF (fun z => rest (fun y => absurd (w0.mpr y) z)) (fun z z2 => rest (fun _ y => (by rw [y] at z2; cases z2))) (fun _ _ => vin (by omega) (by decide)) (fun z z2 z3 => rest (fun _ _ => (by rw [ei] at z3; exact z3))) (fun z z2 z3 => bad (fun y => ?_))
      rw [ei] at z3
      exact z3 (y.1 (w0.mp z) (tb_c z2))
  exact key n 0 (by omega) (fun p hp => absurd hp (Nat.not_lt_zero _))
theorem isA_init {K : Nat → Int32} {w : Nat} (hn : n ≤ 20) (hw : w ≤ 2) : isA K n w (if w = 2 then full n else 0) := by
  intro p hp
  by_cases e : w = 2
  · subst e
    rw [if_pos rfl]
    exact ⟨fun z => by omega, fun z => by omega, fun _ z => (by rw [(tb_fulln hn).mpr hp] at z; cases z)⟩
  · rw [if_neg e]
    exact ⟨fun _ z => (by rw [tb_0] at z; cases z), fun _ z => (by rw [tb_0] at z; cases z), fun z => absurd z e⟩
theorem t_setOp_bad {x : Int32} (hA0 : 91 ≤ nx) (c : x < 0 ∨ ¬ x ≤ 2) : Mk X (d + 1) m_X12_set [.ref 68, .int x] h nx sz (RE (-1) (setI h 68 0 0)) := by
  refine Mk.re fun Q hq => e_X12_set (c_X12_set_0 hA0 RO_rm hcs0 (t_isIn (d := d)) ?_)
  rintro y g ⟨rfl, rfl⟩
  rw [if_neg (fun z => c.elim z.1 (fun q => q (Int32.not_lt.mp z.2)))]
  exact c_X12_set_11 hA0 (fun z => absurd rfl z) (fun z => absurd rfl z) (fun _ => hq)
theorem t_setOp {w : Nat} (hA0 : 91 ≤ nx) (hF : Fx h) (hP : InvP h n) (hw : w ≤ 2) : Mk X (d + 2) m_X12_set [.ref 68, .int (nI w)] h nx sz (RE (bsF n (decide (w = 2)) (isA (h.1 73) n w) (if w = 2 then full n else 0) (2 ^ n)) (setI h 68 0 0)) := by
  obtain ⟨h0, h2, h20⟩ := hP.mp
  obtain ⟨k1, -, k2⟩ := nI_02 hw
  have w2 : nI w = 2 ↔ w = 2 := nI_eq (a := w) (b := 2) (by omega) (by omega)
  have h31 := p20 h20
  obtain ⟨g, eg⟩ : ∃ g, g = setI h 68 0 0 := ⟨_, rfl⟩
  have mp : MP g n := by rw [eg]; exact hP.mp
  have hFg : Fx g := by rw [eg]; exact hF
  have g73 : g.1 73 = h.1 73 := by rw [eg]; rfl
  refine Mk.re fun Q hq => e_X12_set (c_X12_set_0 hA0 RO_rm hcs0 (t_isIn (d := d + 1)) ?_)
  rintro y g' ⟨rfl, rfl⟩
  rw [if_pos ⟨k1, k2⟩, ← eg]
  rw [← eg] at hq
  obtain ⟨B, hB⟩ : ∃ B, B = bsF n (decide (w = 2)) (isA (h.1 73) n w) (if w = 2 then full n else 0) := ⟨_, rfl⟩
  have hB0 : B 0 = if w = 2 then full n else 0 := by rw [hB]; rfl
  have Bb : ∀ m, m ≤ 2 ^ n → ∀ j, tb (B m) j = true → j < n := by
    rw [hB]
    refine bsF_bits h20 (fun j hj => ?_)
    by_cases e : w = 2
    · rw [if_pos e] at hj
      exact (tb_fulln h20).mp hj
    · rw [if_neg e, tb_0] at hj
      cases hj
  have key : VM X m_X12_set (d + 2) nx sz Q 36 [some (.ref 68), some (.int (nI w)), some (.int (B 0)), some (.int (nI 0))] [] g := by
    refine down_ind (N := 2 ^ n) (P := fun i => VM X m_X12_set (d + 2) nx sz Q 36 [some (.ref 68), some (.int (nI w)), some (.int (B i)), some (.int (nI i))] [] g) ?_ (fun i hi q => ?_)
    · have yes : (1 : Int32) <<< ((g.1 68 1) &&& 31) ≤ nI (2 ^ n) := by rw [mp.1, bt_toInt32, bt_nI h20]; exact Int32.le_refl _
      rw [← hB] at hq
      exact c_X12_set_36 (d := d + 1) (P58 := fun _ _ => False) (P58_1 := fun _ _ => False) hA0 RO_rm hcs0 (fun _ => hq) (fun z => absurd yes z) (fun z => absurd yes z) (fun z => absurd yes z) (fun z => absurd yes z)
    · have no : ¬ (1 : Int32) <<< ((g.1 68 1) &&& 31) ≤ nI i := fun z => by rw [mp.1, bt_toInt32, bt_nI h20, le_nI h31 (by omega)] at z; omega
      have hbi := bits_of_lt h20 hi
      have hbB := Bb i (by omega)
      have D1 : Decidable (bet n (decide (w = 2)) (nI i) (B i)) := Classical.propDecidable _
      have D2 : Decidable (isA (h.1 73) n w (nI i)) := Classical.propDecidable _
      have eB : B (i + 1) = @ite _ (bet n (decide (w = 2)) (nI i) (B i) ∧ isA (h.1 73) n w (nI i)) (Classical.propDecidable _) (nI i) (B i) := by rw [hB]; rfl
      have keep : ¬ (bet n (decide (w = 2)) (nI i) (B i) ∧ isA (h.1 73) n w (nI i)) → VM X m_X12_set (d + 2) nx sz Q 36 [some (.ref 68), some (.int (nI w)), some (.int (B i)), some (.int (nI i + 1))] [] g := fun z => by
        rw [nI_1]
        rw [eB, if_neg z] at q
        exact q
      have go : VM X m_X12_set (d + 2) nx sz Q 61 [some (.ref 68), some (.int (nI w)), some (.int (B i)), some (.int (nI i))] [.int (if bet n (decide (w = 2)) (nI i) (B i) then 1 else 0)] g := by
        have q2 := t_isSet (X := X) (d := d) (nx := nx) (sz := sz) (s := nI i) hA0 hFg mp hw (by rw [g73]; exact D2)
        have D3 : Decidable (isA (g.1 73) n w (nI i)) := by rw [g73]; exact D2
        refine c_X12_set_61 hA0 RO_rm hcs0 (fun z => keep (fun y => bt3 z y.1)) (fun _ => t_isSet (d := d) hA0 hFg mp hw D3) ?_
        rintro z1 _ g' ⟨rfl, rfl⟩
        refine c_X12_set_70 (fun z => keep (fun y => bt3 z (by rw [g73]; exact y.2))) (fun z => ?_)
        rw [nI_1]
        have z := bt4 z
        rw [g73] at z
        rw [eB, if_pos ⟨bt4 z1, z⟩] at q
        exact q
      by_cases e : w = 2
      · have e2 := w2.mpr e
        have q3 := t_isBetter (X := X) (d := d) (h := g) (nx := nx) (sz := sz) (few := true) h20 hbi hbB (by rw [decide_eq_true e] at D1; exact D1)
        have eD : decide (w = 2) = true := decide_eq_true e
        refine c_X12_set_36 (P58 := fun _ _ => False) (P58_1 := fun y g' => y = (if bet n (decide (w = 2)) (nI i) (B i) then 1 else 0) ∧ g = g') hA0 RO_rm hcs0 (fun z => absurd z no) (fun _ z => absurd e2 z) (fun _ z => absurd e2 z) (fun _ _ => ?_) ?_
        · have q4 := t_isBetter (X := X) (d := d) (h := g) (nx := nx) (sz := sz) (few := decide (w = 2)) h20 hbi hbB D1
          have e1 : (if decide (w = 2) = true then (1 : Int32) else 0) = 1 := if_pos eD
          rw [e1] at q4
          exact q4
        · rintro _ _ _ g' ⟨rfl, rfl⟩
          exact go
      · have e2 : ¬ nI w = 2 := fun z => e (w2.mp z)
        have eD : decide (w = 2) = false := decide_eq_false e
        refine c_X12_set_36 (P58 := fun y g' => y = (if bet n (decide (w = 2)) (nI i) (B i) then 1 else 0) ∧ g = g') (P58_1 := fun _ _ => False) hA0 RO_rm hcs0 (fun z => absurd z no) (fun _ _ => ?_) ?_ (fun _ z => absurd z e2) (fun _ z => absurd z e2)
        · have q4 := t_isBetter (X := X) (d := d) (h := g) (nx := nx) (sz := sz) (few := decide (w = 2)) h20 hbi hbB D1
          have e1 : (if decide (w = 2) = true then (1 : Int32) else 0) = 0 := if_neg (by rw [eD]; decide)
          rw [e1] at q4
          exact q4
        · rintro _ _ _ g' ⟨rfl, rfl⟩
          exact go
  rw [hB0] at key
  refine c_X12_set_11 hA0 (fun _ z => ?_) (fun _ z => ?_) (fun z => by cases z)
  · rw [if_neg (fun y => z (w2.mpr y))] at key
    exact key
  · rw [if_pos (w2.mp z)] at key
    rw [mp.1]
    exact key
end OPS

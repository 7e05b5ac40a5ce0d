/-! hosts: the first of the fewest that serve all -/
section CV
variable {n : Nat}
def cov (f : Nat → Int32) (n : Nat) (s : Int32) : Prop := ∀ i, i < n → ∃ p, tb s p = true ∧ tb (f p) i = true
def Cov (f : Nat → Int32) (n one : Nat) (c : Int32) (m : Nat) (s : Int32) : Prop := (∀ j, tb c j = true → tb s j = true) ∧ (∀ j, tb s j = true → tb c j = true ∨ (one ≤ j ∧ j < n)) ∧ cnt s n ≤ cnt c n + m ∧ cov f n s
def CR (f : Nat → Int32) (n one : Nat) (c : Int32) (m : Nat) (r : Int32) : Prop := (r = -1 ∧ ∀ s, ¬ Cov f n one c m s) ∨ (Cov f n one c m r ∧ ∀ s, Cov f n one c m s → s = r ∨ lx r s)
/-- where hosts are looked for from one on -/
def CPre (f : Nat → Int32) (n one : Nat) (c sv : Int32) (m : Nat) : Prop := one ≤ n ∧ (∀ j, tb c j = true → j < one) ∧ (∀ i, tb sv i = true ↔ ∃ p, tb c p = true ∧ tb (f p) i = true) ∧ (∀ s, (∀ j, tb s j = true → j < n) → cov f n s → cnt c n + m ≤ cnt s n) ∧ m ≤ 20
def FG (f : Nat → Int32) (n W : Nat) : Prop := (∀ p, p < n → ∀ j, tb (f p) j = true → j < n) ∧ (∀ p q, p < n → q < n → tb (f p) q = true → tb (f q) p = true) ∧ (∀ p, p < n → cnt (f p) n ≤ W) ∧ W ≤ 20
variable {f : Nat → Int32} {one m W : Nat} {c sv : Int32}
theorem cov_sv (hn : n ≤ 20) (g : FG f n W) (hp : CPre f n one c sv m) : cov f n c ↔ sv = full n := by
  constructor
  · intro h
    apply tb_ext
    intro i _
    rw [Bool.eq_iff_iff, tb_fulln hn, hp.2.2.1]
    constructor
    · rintro ⟨p, a, b⟩
      exact g.1 p (by have := hp.2.1 p a; have := hp.1; omega) i b
    · exact h i
  · intro h i hi
    have : tb sv i = true := by rw [h]; exact (tb_fulln hn).mpr hi
    exact (hp.2.2.1 i).mp this
theorem Cov_lt (hp : CPre f n one c sv m) {s : Int32} (h : Cov f n one c m s) : ∀ j, tb s j = true → j < n := fun j hj => by
  rcases h.2.1 j hj with z | z
  · have := hp.2.1 j z
    have := hp.1
    omega
  · exact z.2
theorem sm_pick {P : Nat → Bool} {W : Nat} {g : Nat → Nat} : ∀ {k : Nat}, (∀ i, i < k → g i ≤ W) → sm (fun i => if P i = true then g i else 0) k ≤ sm (fun i => if P i = true then 1 else 0) k * W
  | 0, _ => Nat.zero_le _
  | k + 1, h => by
    have := sm_pick (P := P) (k := k) (fun i hi => h i (by omega))
    show sm _ k + _ ≤ (sm _ k + _) * W
    rw [Nat.add_mul]
    have h2 := h k (by omega)
    by_cases q : P k = true
    · simp only [if_pos q]
      omega
    · simp only [if_neg q]
      omega
theorem cnt_cover {x a : Int32} {W : Nat} (hW : ∀ p, p < n → cnt (f p) n ≤ W) (h : ∀ i, i < n → tb x i = true → ∃ p, p < n ∧ tb a p = true ∧ tb (f p) i = true) : cnt x n ≤ cnt a n * W := by
  have e1 : cnt x n ≤ sm (fun i => sm (fun p => if tb a p = true then (if tb (f p) i = true then 1 else 0) else 0) n) n := by
    rw [cnt_sm]
    refine sm_mono fun i hi => ?_
    by_cases c : tb x i = true
    · obtain ⟨p, h1, h2, h3⟩ := h i hi c
      rw [if_pos c]
      have := sm_ge (f := fun p => if tb a p = true then (if tb (f p) i = true then 1 else 0) else 0) (n := n) h1
      simp only [h2, h3, if_true] at this
      exact this
    · rw [if_neg c]
      exact Nat.zero_le _
  rw [sm_comm] at e1
  have e2 : sm (fun p => sm (fun i => if tb a p = true then (if tb (f p) i = true then 1 else 0) else 0) n) n = sm (fun p => if tb a p = true then cnt (f p) n else 0) n := sm_cong fun p _ => by
    by_cases c : tb a p = true
    · simp only [if_pos c]
      rw [cnt_sm]
    · simp only [if_neg c]
      exact sm_zero fun _ _ => rfl
  rw [e2] at e1
  have e3 := sm_pick (P := fun p => tb a p) (g := fun p => cnt (f p) n) (k := n) hW
  rw [cnt_sm (x := a)]
  omega
theorem cnt_diff {s c : Int32} (h : ∀ j, tb c j = true → tb s j = true) : cnt (s &&& (c ^^^ (-1))) n + cnt c n = cnt s n := by
  rw [cnt_sm, cnt_sm, cnt_sm, ← sm_add]
  refine sm_cong fun i _ => ?_
  by_cases h32 : i < 32
  · rw [tb_and, tb_not h32]
    cases q : tb c i with
    | true => rw [h i q]; rfl
    | false => cases tb s i <;> rfl
  · rw [tb_32 (by omega), tb_32 (by omega), tb_32 (by omega)]
    rfl
theorem Cov_need (hn : n ≤ 20) (g : FG f n W) (hp : CPre f n one c sv m) {s : Int32} (h : Cov f n one c m s) : cnt (full n &&& (sv ^^^ (-1))) n ≤ m * W := by
  have hs := Cov_lt hp h
  have e1 := cnt_diff (n := n) h.1
  have e2 := cnt_cover (n := n) (f := f) (x := full n &&& (sv ^^^ (-1))) (a := s &&& (c ^^^ (-1))) g.2.2.1 (fun i hi hx => by
    rw [tb_and, Bool.and_eq_true, tb_not (by omega)] at hx
    obtain ⟨p, h1, h2⟩ := h.2.2.2 i hi
    have hpn := hs p h1
    refine ⟨p, hpn, ?_, h2⟩
    rw [tb_and, tb_not (by omega), h1]
    cases q : tb c p with
    | false => rfl
    | true =>
      have := (hp.2.2.1 i).mpr ⟨p, q, h2⟩
      rw [this] at hx
      exact absurd hx.2 (by decide))
  have := h.2.2.1
  exact Nat.le_trans e2 (Nat.mul_le_mul_right _ (by omega))
theorem m1_big {r : Int32} (h : ∀ j, tb r j = true → j < n) (hn : n ≤ 20) : r ≠ -1 := fun z => by
  have := h 31 (by rw [z]; exact tb_m1 (by decide))
  omega
/-- all are served -/
theorem CR_done (hn : n ≤ 20) (g : FG f n W) (hp : CPre f n one c sv m) (e : sv = full n) : CR f n one c m c := by
  have hc := (cov_sv hn g hp).mpr e
  have hcb : ∀ j, tb c j = true → j < n := fun j hj => by have := hp.2.1 j hj; have := hp.1; omega
  have hm := hp.2.2.2.1 c hcb hc
  refine Or.inr ⟨⟨fun j hj => hj, fun j hj => Or.inl hj, by omega, hc⟩, fun s hs => Or.inl ?_⟩
  refine Classical.byContradiction fun hne => ?_
  have := cnt_strict (n := n) (Cov_lt hp hs) hs.1 hne
  have := hs.2.2.1
  omega
theorem CR_end (hn : n ≤ 20) (g : FG f n W) (hp : CPre f n n c sv m) (e : sv ≠ full n) : CR f n n c m (-1) := Or.inl ⟨rfl, fun s hs => e ((cov_sv hn g hp).mp (fun i hi => by
  obtain ⟨p, h1, h2⟩ := hs.2.2.2 i hi
  rcases hs.2.1 p h1 with z | z
  · exact ⟨p, z, h2⟩
  · omega))⟩
theorem CR_few (hn : n ≤ 20) (g : FG f n W) (hp : CPre f n one c sv m) (e : m * W < cnt (full n &&& (sv ^^^ (-1))) n) : CR f n one c m (-1) := Or.inl ⟨rfl, fun s hs => by have := Cov_need hn g hp hs; omega⟩
theorem tb_add {x : Int32} {i j : Nat} (hi : i < 32) : tb (x ||| bt i) j = true ↔ tb x j = true ∨ j = i := by
  rw [tb_or, tb_bt hi]
  by_cases e : i = j
  · simp [e]
  · have : ¬ j = i := fun z => e z.symm
    simp [e, this]
theorem cnt_add {c : Int32} {i : Nat} (hi : i < n) (hn : n ≤ 20) (h : tb c i = false) : cnt (c ||| bt i) n = cnt c n + 1 := by
  have e1 := cnt_flip (n := n) (x := c ||| bt i) (y := c) hi (fun j hj => by
    rw [tb_or, tb_bt (by omega), decide_eq_false (fun z => hj z.symm), Bool.or_false])
  rw [(tb_add (by omega)).mpr (Or.inr rfl), h, if_neg (by decide), if_pos rfl] at e1
  omega
theorem CPre.with (hp : CPre f n one c sv (m + 1)) (hn : n ≤ 20) (h1 : one < n) : CPre f n (one + 1) (c ||| bt one) (sv ||| f one) m := by
  obtain ⟨p1, p2, p3, p4, p5⟩ := hp
  have hc : tb c one = false := by
    cases q : tb c one with
    | false => rfl
    | true => have := p2 one q; omega
  refine ⟨h1, fun j hj => ?_, fun i => ?_, fun s hs hcv => ?_, by omega⟩
  · rcases (tb_add (by omega)).mp hj with z | z
    · have := p2 j z; omega
    · omega
  · rw [tb_or, Bool.or_eq_true, p3]
    constructor
    · rintro (⟨p, a, b⟩ | z)
      · exact ⟨p, (tb_add (by omega)).mpr (Or.inl a), b⟩
      · exact ⟨one, (tb_add (by omega)).mpr (Or.inr rfl), z⟩
    · rintro ⟨p, a, b⟩
      rcases (tb_add (by omega)).mp a with z | z
      · exact Or.inl ⟨p, z, b⟩
      · rw [z] at b
        exact Or.inr b
  · rw [cnt_add h1 hn hc]
    have := p4 s hs hcv
    omega
theorem CPre.without (hp : CPre f n one c sv m) (h1 : one < n) : CPre f n (one + 1) c sv m := by
  obtain ⟨p1, p2, p3, p4, p5⟩ := hp
  exact ⟨h1, fun j hj => by have := p2 j hj; omega, p3, p4, p5⟩
theorem Cov_with (hp : CPre f n one c sv (m + 1)) (hn : n ≤ 20) (h1 : one < n) {s : Int32} : Cov f n (one + 1) (c ||| bt one) m s ↔ Cov f n one c (m + 1) s ∧ tb s one = true := by
  have hc : tb c one = false := by
    cases q : tb c one with
    | false => rfl
    | true => have := hp.2.1 one q; omega
  constructor
  · rintro ⟨a, b, e, k⟩
    have ho := a one ((tb_add (by omega)).mpr (Or.inr rfl))
    refine ⟨⟨fun j hj => a j ((tb_add (by omega)).mpr (Or.inl hj)), fun j hj => ?_, ?_, k⟩, ho⟩
    · rcases b j hj with z | z
      · rcases (tb_add (by omega)).mp z with y | y
        · exact Or.inl y
        · exact Or.inr ⟨by omega, by omega⟩
      · exact Or.inr ⟨by omega, z.2⟩
    · rw [cnt_add h1 hn hc] at e
      omega
  · rintro ⟨⟨a, b, e, k⟩, ho⟩
    refine ⟨fun j hj => ?_, fun j hj => ?_, ?_, k⟩
    · rcases (tb_add (by omega)).mp hj with z | z
      · exact a j z
      · rw [z]; exact ho
    · by_cases q : j = one
      · exact Or.inl ((tb_add (by omega)).mpr (Or.inr q))
      · rcases b j hj with z | z
        · exact Or.inl ((tb_add (by omega)).mpr (Or.inl z))
        · exact Or.inr ⟨by omega, z.2⟩
    · rw [cnt_add h1 hn hc]
      omega
theorem Cov_wo (hp : CPre f n one c sv m) (h1 : one < n) {s : Int32} : Cov f n (one + 1) c m s ↔ Cov f n one c m s ∧ tb s one = false := by
  constructor
  · rintro ⟨a, b, e, k⟩
    refine ⟨⟨a, fun j hj => ?_, e, k⟩, ?_⟩
    · rcases b j hj with z | z
      · exact Or.inl z
      · exact Or.inr ⟨by omega, z.2⟩
    · cases q : tb s one with
      | false => rfl
      | true =>
        rcases b one q with z | z
        · have := hp.2.1 one z; omega
        · omega
  · rintro ⟨⟨a, b, e, k⟩, ho⟩
    refine ⟨a, fun j hj => ?_, e, k⟩
    rcases b j hj with z | z
    · exact Or.inl z
    · refine Or.inr ⟨?_, z.2⟩
      have : j ≠ one := fun y => by rw [y, ho] at hj; cases hj
      omega
theorem CR_yes (hp : CPre f n one c sv (m + 1)) (hn : n ≤ 20) (h1 : one < n) {r : Int32} (a : CR f n (one + 1) (c ||| bt one) m r) (hr : r ≠ -1) : CR f n one c (m + 1) r := by
  rcases a with ⟨z, -⟩ | ⟨a, b⟩
  · exact absurd z hr
  obtain ⟨a1, a2⟩ := (Cov_with hp hn h1).mp a
  refine Or.inr ⟨a1, fun s hs => ?_⟩
  cases q : tb s one with
  | true => exact b s ((Cov_with hp hn h1).mpr ⟨hs, q⟩)
  | false =>
    refine Or.inr ⟨one, a2, q, fun j hj => ?_⟩
    have e : ∀ t, Cov f n one c (m + 1) t → (tb t j = true ↔ tb c j = true) := fun t ht => by
      constructor
      · intro z
        rcases ht.2.1 j z with y | y
        · exact y
        · omega
      · exact ht.1 j
    exact Bool.eq_iff_iff.mpr ((e r a1).trans (e s hs).symm)
theorem CR_no (hp : CPre f n one c sv (m + 1)) (hn : n ≤ 20) (h1 : one < n) (a : CR f n (one + 1) (c ||| bt one) m (-1)) : ∀ s, Cov f n one c (m + 1) s → tb s one = false := by
  rcases a with ⟨-, a⟩ | ⟨a, -⟩
  · intro s hs
    cases q : tb s one with
    | false => rfl
    | true => exact absurd ((Cov_with hp hn h1).mpr ⟨hs, q⟩) (a s)
  · exact absurd rfl (m1_big (Cov_lt (hp.with hn h1) a) hn)
theorem CR_rest (hp : CPre f n one c sv m) (h1 : one < n) (ho : ∀ s, Cov f n one c m s → tb s one = false) {r : Int32} (a : CR f n (one + 1) c m r) : CR f n one c m r := by
  rcases a with ⟨a, b⟩ | ⟨a, b⟩
  · exact Or.inl ⟨a, fun s hs => b s ((Cov_wo hp h1).mpr ⟨hs, ho s hs⟩)⟩
  · exact Or.inr ⟨((Cov_wo hp h1).mp a).1, fun s hs => b s ((Cov_wo hp h1).mpr ⟨hs, ho s hs⟩)⟩
theorem CR_behind (g : FG f n W) (hp : CPre f n one c sv m) (h1 : one < n) (ho : ∀ s, Cov f n one c m s → tb s one = false) {i : Nat} (hi : i < n) (hsv : tb sv i = false) (hb : ∀ j, one < j → j < n → tb (f i) j = false) : CR f n one c m (-1) := Or.inl ⟨rfl, fun s hs => by
  obtain ⟨p, p1, p2⟩ := hs.2.2.2 i hi
  have hpn := Cov_lt hp hs p p1
  rcases hs.2.1 p p1 with z | z
  · rw [(hp.2.2.1 i).mpr ⟨p, z, p2⟩] at hsv
    cases hsv
  · have : p ≠ one := fun y => by rw [y, ho s hs] at p1; cases p1
    have h3 := g.2.1 p i hpn hi p2
    rw [hb p (by omega) hpn] at h3
    cases h3⟩
theorem wt_0 (hn : n ≤ 20) (hsv : ∀ i, tb sv i = true → i < n) : full n &&& (sv ^^^ (-1)) = 0 ↔ sv = full n := by
  constructor
  · intro z
    apply tb_ext
    intro i hi
    have e : tb (full n &&& (sv ^^^ (-1))) i = tb 0 i := by rw [z]
    rw [tb_and, tb_not hi, tb_0] at e
    rw [Bool.eq_iff_iff]
    constructor
    · intro q
      exact (tb_fulln hn).mpr (hsv i q)
    · intro q
      rw [q, Bool.true_and] at e
      simpa using e
  · intro z
    apply tb_ext
    intro i hi
    rw [z, tb_and, tb_not hi, tb_0]
    cases tb (full n) i <;> rfl
theorem wt_S {x : Int32} : (full n &&& (sv ^^^ (-1))) &&& (x ^^^ (-1)) = full n &&& ((sv ||| x) ^^^ (-1)) := by
  apply tb_ext
  intro i hi
  rw [tb_and, tb_and, tb_not hi, tb_not hi, tb_and, tb_not hi, tb_or]
  cases tb (full n) i <;> cases tb sv i <;> cases tb x i <;> rfl
end CV
theorem tb_m2 : ∀ i, i < 20 → ∀ j, j < 32 → tb (-((2 : Int32) <<< (nI i &&& 31))) j = decide (i < j) := by decide +kernel
section OPS
variable {X : CX} {d nx sz : Nat} {h : AH} {n W r : Nat}
theorem s_servedBehind {one : Nat} {x : Int32} (hk : kd X r = (20, n)) (hr : r < nx) (h20 : n ≤ 20) (hfb : ∀ p, p < n → ∀ j, tb (h.1 r p) j = true → j < n) (h1 : one < n) (D : Decidable (∃ i, i < n ∧ tb x i = true ∧ ∀ j, one < j → j < n → tb (h.1 r i) j = false)) : Mk X d m_X9_servedBehind [.ref r, .int (nI one), .int x] h nx sz (RE (if ∃ i, i < n ∧ tb x i = true ∧ ∀ j, one < j → j < n → tb (h.1 r i) j = false then 0 else 1) h) := by
  refine Mk.re fun Q hq => e_X9_servedBehind (n_r0 := n) (c_X9_servedBehind_0 (n_r0 := n) ?_)
  obtain ⟨b, eb⟩ : ∃ b, b = -((2 : Int32) <<< (nI one &&& 31)) := ⟨_, rfl⟩
  have tbb : ∀ j, j < 32 → (tb b j = true ↔ one < j) := fun j hj => by
    rw [eb, tb_m2 one (by omega) j hj]
    exact decide_eq_true_iff
  rw [← eb]
  have zero : ∀ i, i < n → (h.1 r i &&& b = 0 ↔ ∀ j, one < j → j < n → tb (h.1 r i) j = false) := fun i hi => by
    constructor
    · intro z j j1 j2
      have : tb (h.1 r i &&& b) j = tb 0 j := by rw [z]
      rw [tb_and, tb_0, (tbb j (by omega)).mpr j1, Bool.and_true] at this
      exact this
    · intro z
      apply tb_ext
      intro j hj
      rw [tb_and, tb_0]
      cases q : tb (h.1 r i) j with
      | false => rw [Bool.false_and]
      | true =>
        cases q2 : tb b j with
        | false => rfl
        | true =>
          have := z j ((tbb j hj).mp q2) (hfb i hi j q)
          rw [q] at this
          cases this
  have key : ∀ (k i : Nat), i + k = n → (∀ p, p < i → tb x p = true → ¬ ∀ j, one < j → j < n → tb (h.1 r p) j = false) → VM X m_X9_servedBehind d nx sz Q 8 [some (.ref r), none, some (.int x), some (.int b), some (.int (nI i))] [] h := by
    intro k
    induction k with
    | zero =>
      intro i hi al
      have hi : i = n := by omega
      subst hi
      have yes : Int32.ofNat i ≤ nI i := Int32.le_refl _
      rw [if_neg (fun ⟨p, p1, p2, p3⟩ => al p p1 p2 p3)] at hq
      exact c_X9_servedBehind_8 hk hr (fun _ => hq) (fun z => absurd yes z) (fun z => absurd yes z) (fun z => absurd yes z) (fun z => absurd yes z)
    | succ k ih =>
      intro i hi al
      have no : ¬ nI n ≤ nI i := fun z => by rw [le_nI (by omega) (by omega)] at z; omega
      have ei : (nI i).toNatClampNeg = i := tN (by omega)
      have next : (tb x i = true → ¬ ∀ j, one < j → j < n → tb (h.1 r i) j = false) → VM X m_X9_servedBehind d nx sz Q 8 [some (.ref r), none, some (.int x), some (.int b), some (.int (nI i + 1))] [] h := fun z => by
        rw [nI_1]
        refine ih (i + 1) (by omega) (fun p hp hx => ?_)
        by_cases e : p = i
        · rw [e] at hx ⊢
          exact z hx
        · exact al p (by omega) hx
      refine c_X9_servedBehind_8 hk hr (fun z => absurd z no) (fun _ z => next (fun y => ?_)) (fun _ _ => vin (by omega) (by omega)) (fun _ _ z => next (fun _ y => ?_)) (fun _ z z2 => ?_)
      · rw [shr_eq0 (by omega), y] at z
        cases z
      · rw [ei] at z
        exact z ((zero i (by omega)).mpr y)
      · rw [ei] at z2
        rw [shr_eq0 (by omega)] at z
        have z : tb x i = true := by simpa using z
        rw [if_pos ⟨i, by omega, z, (zero i (by omega)).mp z2⟩] at hq
        exact hq
  exact key n 0 (by omega) (fun p hp => absurd hp (Nat.not_lt_zero _))
theorem s_cover (hk : kd X r = (20, n)) (hr : r < nx) (h20 : n ≤ 20) (g : FG (h.1 r) n W) : ∀ (k one m : Nat) (c sv : Int32), one + k = n → CPre (h.1 r) n one c sv m → (∀ i, tb sv i = true → i < n) → Mk X (d + k + 1) m_X9_cover [.ref r, .int (nI one), .int c, .int (full n &&& (sv ^^^ (-1))), .int (nI m), .int (nI W)] h nx sz (RI fun y g => CR (h.1 r) n one c m y ∧ h = g) := by
  intro k
  induction k with
  | zero =>
    intro one m c sv hone hp hsv
    have hone : one = n := by omega
    subst hone
    refine e_X9_cover (n_r0 := one) ?_
    have yes : Int32.ofNat one ≤ nI one := Int32.le_refl _
    refine c_X9_cover_0 (d := d) (P13 := fun _ _ => False) hk hr RO_rm hcs0 (fun z _ => ?_) (fun _ z => absurd yes z) (fun _ z => absurd yes z) (fun z => ?_)
    · rw [wt_0 h20 hsv] at z
      exact ⟨_, rfl, CR_end h20 g hp z, rfl⟩
    · rw [wt_0 h20 hsv] at z
      exact ⟨_, rfl, CR_done h20 g hp z, rfl⟩
  | succ k ih =>
    intro one m c sv hone hp hsv
    have h1 : one < n := by omega
    have hm := hp.2.2.2.2
    have hW20 := g.2.2.2
    refine e_X9_cover (n_r0 := n) ?_
    have no : ¬ nI n ≤ nI one := fun z => by rw [le_nI (by omega) (by omega)] at z; omega
    refine c_X9_cover_0 hk hr RO_rm hcs0 (fun _ z => absurd z no) (fun _ _ => s_bitCount (d := d + k + 1)) ?_ (fun z => ?_)
    · rintro zf _ _ g' ⟨rfl, rfl⟩
      rw [wt_0 h20 hsv] at zf
      have hwb : ∀ j, tb (full n &&& (sv ^^^ (-1))) j = true → j < n := fun j hj => by
        rw [tb_and, Bool.and_eq_true] at hj
        exact (tb_fulln h20).mp hj.1
      rw [bc_lt h20 hwb]
      have cw := cnt_le (x := full n &&& (sv ^^^ (-1))) (n := n)
      have hmW : m * W ≤ 400 := Nat.mul_le_mul hm hW20
      have leI : nI (cnt (full n &&& (sv ^^^ (-1))) n) ≤ nI m * nI W ↔ cnt (full n &&& (sv ^^^ (-1))) n ≤ m * W := by
        rw [pk_mul]
        exact le_nI (by omega) (by omega)
      -- somebody waits
      have cpos : 0 < cnt (full n &&& (sv ^^^ (-1))) n := by
        obtain ⟨i, hi, hne⟩ := ne_bit zf
        have hin : i < n := by
          rcases Nat.lt_or_ge i n with q | q
          · exact q
          · refine absurd ?_ hne
            rw [tb_full (by omega), decide_eq_false (by omega)]
            cases r : tb sv i with
            | false => rfl
            | true => have := hsv i r; omega
        have : tb (full n &&& (sv ^^^ (-1))) i = true := by
          rw [tb_and, tb_not hi]
          rw [(tb_fulln h20).mpr hin] at hne ⊢
          cases r : tb sv i with
          | false => rfl
          | true => rw [r] at hne; exact absurd rfl hne
        have := cnt_lt (x := 0) (n := n) (fun j _ z => by rw [tb_0] at z; cases z) hin (tb_0 i) this
        omega
      by_cases few : m * W < cnt (full n &&& (sv ^^^ (-1))) n
      · refine c_X9_cover_16 (d := d + k + 1) (P48 := fun _ _ => False) hk hr RO_rm hcs0 (fun z => ?_) (fun z => ?_) (fun z => ?_) (fun _ => ⟨_, rfl, CR_few h20 g hp few, rfl⟩)
        · rw [leI] at z; omega
        · rw [leI] at z; omega
        · rw [leI] at z; omega
      · obtain ⟨m', rfl⟩ : ∃ m', m = m' + 1 := by
          cases m with
          | zero => rw [Nat.zero_mul] at few; omega
          | succ m' => exact ⟨m', rfl⟩
        have eo : (nI one).toNatClampNeg = one := tN (by omega)
        refine c_X9_cover_16 hk hr RO_rm hcs0 (fun _ => vin (by omega) (by omega)) (P48 := fun y g => CR (h.1 r) n (one + 1) (c ||| bt one) m' y ∧ h = g) (fun _ => ?_) ?_ (fun z => ?_)
        · rw [eo, nI_1, nI_pred, bt_toInt32, wt_S]
          exact ih (one + 1) m' _ _ (by omega) (hp.with h20 h1) (fun i hi => by
            rw [tb_or, Bool.or_eq_true] at hi
            rcases hi with z | z
            · exact hsv i z
            · exact g.1 one h1 i z)
        · rintro _ y g' ⟨cr, rfl⟩
          have Dx : Decidable (∃ i, i < n ∧ tb (full n &&& (sv ^^^ (-1))) i = true ∧ ∀ j, one < j → j < n → tb (h.1 r i) j = false) := Classical.propDecidable _
          refine c_X9_cover_51 (n_r0 := n) RO_rm hcs0 (fun z => ⟨_, rfl, CR_yes hp h20 h1 cr z, rfl⟩) (fun _ => s_servedBehind (d := d + k + 1) hk hr h20 g.1 h1 Dx) ?_
          rintro rfl _ g2 ⟨rfl, rfl⟩
          have ho := CR_no hp h20 h1 cr
          refine c_X9_cover_65 (n_r0 := n) RO_rm hcs0 (P81 := fun y g => CR (h.1 r) n (one + 1) c (m' + 1) y ∧ h = g) (fun _ => ?_) ?_ (fun z => ⟨_, rfl, ?_, rfl⟩)
          · rw [nI_1]
            exact ih (one + 1) (m' + 1) _ _ (by omega) (hp.without h1) hsv
          · rintro _ y g2 ⟨cr2, rfl⟩
            exact c_X9_cover_84 ⟨_, rfl, CR_rest hp h1 ho cr2, rfl⟩
          · have z : ∃ i, i < n ∧ tb (full n &&& (sv ^^^ (-1))) i = true ∧ ∀ j, one < j → j < n → tb (h.1 r i) j = false := Classical.byContradiction fun y => by
              rw [if_neg y] at z
              cases z
            obtain ⟨i, i1, i2, i3⟩ := z
            rw [tb_and, Bool.and_eq_true, tb_not (by omega)] at i2
            exact CR_behind g hp h1 ho i1 (by simpa using i2.2) i3
        · rw [leI] at z
          omega
    · rw [wt_0 h20 hsv] at z
      exact ⟨_, rfl, CR_done h20 g hp z, rfl⟩
end OPS

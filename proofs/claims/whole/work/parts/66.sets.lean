/-! bears, broken -/
section OPS
variable {X : CX} {d nx sz : Nat} {h : AH} {n : Nat}
/-- who are left, and whether they are joined -/
def lfB (n : Nat) (s : Int32) : Int32 := full n &&& (s ^^^ (-1))
def jnB (K : Nat → Int32) (n : Nat) (s : Int32) : Bool := decide (bl K n (lfB n s) (lfB n s &&& (-lfB n s)) (n - 1) = lfB n s)
def fnd (J : Int32 → Bool) : List Nat → Option Nat
  | [] => none
  | a :: t => if J (nI a) = true then fnd J t else some a
theorem fnd_app {J : Int32 → Bool} {b : List Nat} : ∀ {a : List Nat}, fnd J (a ++ b) = match fnd J a with | none => fnd J b | some x => some x
  | [] => rfl
  | x :: t => by
    show (if J (nI x) = true then fnd J (t ++ b) else some x) = match (if J (nI x) = true then fnd J t else some x) with | none => fnd J b | some x => some x
    by_cases c : J (nI x) = true
    · rw [if_pos c, if_pos c]
      exact fnd_app
    · rw [if_neg c, if_neg c]
theorem fnd_in {J : Int32 → Bool} {x : Nat} : ∀ {l : List Nat}, fnd J l = some x → x ∈ l
  | [], h => by cases h
  | a :: t, h => by
    have h : (if J (nI a) = true then fnd J t else some a) = some x := h
    split at h
    · exact List.mem_cons_of_mem _ (fnd_in h)
    · cases h
      exact List.mem_cons_self
theorem en_lt {n : Nat} : ∀ {k f s x : Nat}, s < 2 ^ n → x ∈ enN n k f s → x < 2 ^ n
  | 0, f, s, x, hs, hx => by
    have : x = s := by simpa [enN] using hx
    rw [this]
    exact hs
  | k + 1, f, s, x, hs, hx => by
    unfold enN at hx
    obtain ⟨p, hp, hx⟩ := List.mem_flatMap.mp hx
    rw [List.mem_range'_1] at hp
    exact en_lt (Nat.or_lt_two_pow hs (Nat.pow_lt_pow_right (by decide) (by omega))) hx
theorem p20 {n : Nat} (hn : n ≤ 20) : 2 ^ n < 2 ^ 31 := Nat.pow_lt_pow_right (by decide) (by omega)
theorem s_joinedA {s : Int32} (hA0 : 91 ≤ nx) (hF : Fx h) (hP : InvP h n) : Mk X (d + 2) m_X1_joined [.ref 20, .int (lfB n s)] h nx sz (RE (if jnB (h.1 2) n s = true then 1 else 0) h) := by
  refine e_X1_joined (c_X1_joined_0 hA0 hF RO_rm hcs0 (s_reached (d := d) hA0 hF (hP.np net1)) ?_)
  rintro y g ⟨rfl, rfl⟩
  unfold jnB
  refine c_X1_joined_12 (fun c => ⟨_, rfl, ?_, rfl⟩) (fun c => ⟨_, rfl, ?_, rfl⟩)
  · have c : ¬ bl (h.1 2) n (lfB n s) (lfB n s &&& (-lfB n s)) (n - 1) = lfB n s := c
    rw [decide_eq_false c]
    rfl
  · have c : bl (h.1 2) n (lfB n s) (lfB n s &&& (-lfB n s)) (n - 1) = lfB n s := c
    rw [decide_eq_true c]
    rfl
theorem s_break14 {Q : Option Value → AH → Prop} (hA0 : 91 ≤ nx) (hF : Fx h) (hP : InvP h n) : ∀ (l : List Nat) (i : Nat), chB n l = true → i + l.length ≤ 1140 → (∀ x, x ∈ l → x < 2 ^ n) → Q (some (.int (ovI (fnd (jnB (h.1 2) n) l)))) h → VM X m_X1_breakingSet (d + 3) nx sz Q 14 [some (.ref 20), none, some (.int (ovI l.head?)), some (.int (nI i))] [] h
  | [], i, _, hi, _, hq => by
    by_cases c : i = 1140
    · subst c
      have yes : nI 1140 ≤ nI 1140 := Int32.le_refl _
      exact c_X1_breakingSet_14 (d := d + 2) (P38 := fun _ _ => False) hA0 hF RO_rm hcs0 (fun _ => hq) (fun z => absurd yes z) (fun z => absurd yes z) (fun z => absurd yes z)
    · have hi : i ≤ 1140 := by simpa using hi
      have no : ¬ nI 1140 ≤ nI i := fun z => by rw [le_nI (by decide) (by omega)] at z; omega
      exact c_X1_breakingSet_14 (d := d + 2) (P38 := fun _ _ => False) hA0 hF RO_rm hcs0 (fun z => absurd z no) (fun _ _ => hq) (fun _ z => absurd rfl z) (fun _ z => absurd rfl z)
  | a :: t, i, hc, hi, hl, hq => by
    have hi : i + (t.length + 1) ≤ 1140 := by simpa using hi
    have h2 := hP.1
    have h20 := hP.2.1
    have ha := hl a List.mem_cons_self
    have h31 := p20 h20
    have no : ¬ nI 1140 ≤ nI i := fun z => by rw [le_nI (by decide) (by omega)] at z; omega
    have e1 : h.1 1 1 = full n := (hP.np net1).2.2.1
    have e0 : h.1 1 0 = nI n := (hP.np net1).2.1
    show VM X m_X1_breakingSet (d + 3) nx sz Q 14 [some (.ref 20), none, some (.int (nI a)), some (.int (nI i))] [] h
    refine c_X1_breakingSet_14 hA0 hF RO_rm hcs0 (fun z => absurd z no) (fun _ z => absurd z (nI_m1 (by omega))) (fun _ _ => ?_) (P38 := fun y g => y = (if jnB (h.1 2) n (nI a) = true then 1 else 0) ∧ h = g) ?_
    · rw [e1]
      exact s_joinedA (d := d) hA0 hF hP
    rintro _ _ y g ⟨rfl, rfl⟩
    have ef : fnd (jnB (h.1 2) n) (a :: t) = if jnB (h.1 2) n (nI a) = true then fnd (jnB (h.1 2) n) t else some a := rfl
    by_cases c : jnB (h.1 2) n (nI a) = true
    · rw [if_pos c]
      rw [ef, if_pos c] at hq
      have en : nxN n a = t.head? ∧ chB n t = true := by
        cases t with
        | nil => exact ⟨of_decide_eq_true hc, rfl⟩
        | cons b u =>
          have hc : (decide (nxN n a = some b) && chB n (b :: u)) = true := hc
          rw [Bool.and_eq_true] at hc
          exact ⟨of_decide_eq_true hc.1, hc.2⟩
      refine c_X1_breakingSet_41 hA0 hF RO_rm hcs0 (fun _ => ?_) (P54 := fun y g => y = ovI (nxN n a) ∧ h = g) ?_ (fun z => by cases z)
      · rw [e0]
        exact s_nextSet (d := d + 2) (by omega) h20 (by omega)
      rintro _ y g ⟨rfl, rfl⟩
      refine c_X1_breakingSet_57 ?_
      rw [nI_1, en.1]
      exact s_break14 hA0 hF hP t (i + 1) en.2 (by omega) (fun x hx => hl x (List.mem_cons_of_mem _ hx)) hq
    · rw [if_neg c]
      rw [ef, if_neg c] at hq
      exact c_X1_breakingSet_41 (d := d + 2) (P54 := fun _ _ => False) hA0 hF RO_rm hcs0 (fun z => absurd rfl z) (fun z => absurd rfl z) (fun _ => hq)
def brV (K : Nat → Int32) (n k : Nat) : Int32 := ovI (fnd (jnB K n) (enN n k 0 0))
theorem s_breakingSet {k : Nat} (hA0 : 91 ≤ nx) (hF : Fx h) (hP : InvP h n) (hk : k ≤ 3) : Mk X (d + 3) m_X1_breakingSet [.ref 20, .int (nI k)] h nx sz (RE (brV (h.1 2) n k) h) := by
  have h2 := hP.1
  have h20 := hP.2.1
  obtain ⟨c1, c2, c3⟩ := en_chk n (by omega) h2 k (by omega)
  refine Mk.re fun Q hq => e_X1_breakingSet (c_X1_breakingSet_0 hA0 hF RO_rm hcs0 (P8 := fun y g => y = ovI (fsN n k) ∧ h = g) ?_ ?_)
  · rw [(hP.np net1).2.1]
    exact s_firstSet (d := d + 2) hk h20
  rintro y g ⟨rfl, rfl⟩
  refine c_X1_breakingSet_11 ?_
  rw [← c3]
  exact s_break14 hA0 hF hP _ 0 c1 (by omega) (fun x hx => en_lt (Nat.two_pow_pos n) hx) hq
theorem nI_03 {t : Nat} (ht : t ≤ 3) : ¬ nI t < 0 ∧ nI t ≤ 3 ∧ ¬ 3 < nI t := by
  have : ∀ t, t < 4 → ¬ nI t < 0 ∧ nI t ≤ 3 ∧ ¬ 3 < nI t := by decide
  exact this t (by omega)
theorem s_bears_bad {x : Int32} (hA0 : 91 ≤ nx) (hF : Fx h) (c : x < 0 ∨ ¬ x ≤ 3) : Mk X (d + 1) m_X11_bears [.ref 0, .int x] h nx sz (RE (-1) h) := by
  by_cases c0 : x < 0
  · exact Mk.re fun Q hq => e_X11_bears (c_X11_bears_0 (d := d) (P16 := fun _ _ => False) hA0 hF RO_rm hcs0 (fun _ => hq) (fun z => absurd c0 z) (fun z => absurd c0 z) (fun z => absurd c0 z))
  · have c := c.resolve_left c0
    exact Mk.re fun Q hq => e_X11_bears (c_X11_bears_0 (d := d) (P16 := fun _ _ => False) hA0 hF RO_rm hcs0 (fun z => absurd z c0) (fun _ z => absurd z c) (fun _ z => absurd z c) (fun _ _ => hq))
theorem s_bears {k : Nat} (hA0 : 91 ≤ nx) (hF : Fx h) (hP : InvP h n) (hk : k ≤ 3) : Mk X (d + 4) m_X11_bears [.ref 0, .int (nI k)] h nx sz (RE (if brV (h.1 2) n k = -1 then 1 else 0) h) := by
  obtain ⟨k1, k2, -⟩ := nI_03 hk
  refine Mk.re fun Q hq => e_X11_bears (c_X11_bears_0 hA0 hF RO_rm hcs0 (fun z => absurd z k1) (fun _ _ => s_breakingSet (d := d) hA0 hF hP hk) ?_ (fun _ z => absurd k2 z))
  rintro _ _ y g ⟨rfl, rfl⟩
  refine c_X11_bears_19 (fun c => ?_) (fun c => ?_)
  · rw [if_neg c] at hq; exact hq
  · rw [if_pos c] at hq; exact hq
theorem s_broken_bad {x : Int32} (hA0 : 91 ≤ nx) (hF : Fx h) (c : x < 0 ∨ ¬ x ≤ 3) : Mk X (d + 1) m_X11_broken [.ref 0, .int x] h nx sz (RE (-1) h) := by
  by_cases c0 : x < 0
  · exact Mk.re fun Q hq => e_X11_broken (c_X11_broken_0 (d := d) (P18 := fun _ _ => False) hA0 hF RO_rm hcs0 (fun _ => c_X11_broken_21 hq) (fun z => absurd c0 z) (fun z => absurd c0 z) (fun z => absurd c0 z))
  · have c := c.resolve_left c0
    exact Mk.re fun Q hq => e_X11_broken (c_X11_broken_0 (d := d) (P18 := fun _ _ => False) hA0 hF RO_rm hcs0 (fun z => absurd z c0) (fun _ z => absurd z c) (fun _ z => absurd z c) (fun _ _ => c_X11_broken_21 hq))
theorem s_broken {k : Nat} (hA0 : 91 ≤ nx) (hF : Fx h) (hP : InvP h n) (hk : k ≤ 3) : Mk X (d + 4) m_X11_broken [.ref 0, .int (nI k)] h nx sz (RE (brV (h.1 2) n k) h) := by
  obtain ⟨k1, k2, -⟩ := nI_03 hk
  refine Mk.re fun Q hq => e_X11_broken (c_X11_broken_0 hA0 hF RO_rm hcs0 (fun z => absurd z k1) (fun _ _ => s_breakingSet (d := d) hA0 hF hP hk) ?_ (fun _ z => absurd k2 z))
  rintro _ _ y g ⟨rfl, rfl⟩
  exact c_X11_broken_21 hq
theorem bl_00 {K : Nat → Int32} {m : Int32} : ∀ {k : Nat}, bl K n m 0 k = 0
  | 0 => rfl
  | k + 1 => by
    show bl K n m 0 k ||| (arnd K (bl K n m 0 k) n &&& m) = 0
    rw [bl_00 (k := k), arnd_0, and_0, or_0]
theorem t_areJoinedWithout {s : Int32} (hA0 : 91 ≤ nx) (hF : Fx h) (hp : MP h n) (hg : Gr n (h.1 73)) : Mk X (d + 3) m_X12_areJoinedWithout [.ref 68, .int s] h nx sz (RE (if jnB (h.1 73) n s = true then 1 else 0) h) := by
  obtain ⟨h0, h2, h20⟩ := id hp
  have el : (((1 : Int32) <<< (((h.1 68 1) : Int32) &&& 31)) - 1) &&& (s ^^^ (-1)) = lfB n s := by rw [h0]; rfl
  refine Mk.re fun Q hq => e_X12_areJoinedWithout ?_
  by_cases c : lfB n s = 0
  · refine c_X12_areJoinedWithout_0 (d := d + 2) (P19 := fun _ _ => False) hA0 RO_rm hcs0 (fun _ => ?_) (fun z => absurd (el.trans c) z) (fun z => absurd (el.trans c) z)
    have : jnB (h.1 73) n s = true := by
      unfold jnB
      rw [c]
      exact decide_eq_true (by rw [show (0 : Int32) &&& (-0) = 0 from by decide]; exact bl_00)
    rw [if_pos this] at hq
    exact hq
  · obtain ⟨i, hi, l1, l2⟩ := low_ex c
    have hin : i < n := by
      unfold lfB at l1
      rw [tb_and, Bool.and_eq_true] at l1
      exact (tb_fulln h20).mp l1.1
    refine c_X12_areJoinedWithout_0 hA0 RO_rm hcs0 (fun z => absurd (el.symm.trans z) c) (P19 := fun y g => y = nI i ∧ h = g) (fun _ => ?_) ?_
    · rw [el]
      exact t_ntz (d := d + 2) (by omega) l1 l2
    rintro _ y g ⟨rfl, rfl⟩
    rw [el]
    refine c_X12_areJoinedWithout_22 hA0 RO_rm hcs0 (t_partOf (d := d) hA0 hF hp hg.kb hin) ?_
    rintro y g ⟨rfl, rfl⟩
    have eb : bl (h.1 73) n (s ^^^ (-1)) (bt i) (n - 1) = bl (h.1 73) n (lfB n s) (lfB n s &&& (-lfB n s)) (n - 1) := by
      rw [low_and hi l1 l2]
      refine bl_mask hg.kb (fun j hj => ?_) _
      unfold lfB
      rw [tb_and, (tb_fulln h20).mpr hj, Bool.true_and]
    rw [eb]
    unfold jnB at hq
    refine c_X12_areJoinedWithout_26 (fun z => ?_) (fun z => ?_)
    · rw [decide_eq_false z] at hq
      exact hq
    · rw [decide_eq_true z] at hq
      exact hq
theorem t_firstBreak (hA0 : 91 ≤ nx) (hF : Fx h) (hp : MP h n) (hg : Gr n (h.1 73)) : ∀ (k f s : Nat), k ≤ 3 → s < 2 ^ n → f ≤ n → Mk X (d + 4 + k) m_X12_firstBreak [.ref 68, .int (nI k), .int (nI f), .int (nI s)] h nx sz (RE (ovI (fnd (jnB (h.1 73) n) (enN n k f s))) h) := by
  obtain ⟨h0, h2, h20⟩ := id hp
  have h31 := p20 h20
  intro k
  induction k with
  | zero =>
    intro f s _ hs hf
    refine Mk.re fun Q hq => e_X12_firstBreak (c_X12_firstBreak_0 hA0 RO_rm hcs0 (fun z => absurd rfl z) (fun _ => t_areJoinedWithout (d := d) hA0 hF hp hg) ?_)
    rintro _ y g ⟨rfl, rfl⟩
    have ef : fnd (jnB (h.1 73) n) (enN n 0 f s) = if jnB (h.1 73) n (nI s) = true then none else some s := rfl
    rw [ef] at hq
    refine c_X12_firstBreak_9 (fun z => ?_) (fun z => ?_)
    · rw [if_neg (bt3 z)] at hq
      exact hq
    · rw [if_pos (bt4 z)] at hq
      exact hq
  | succ k ih =>
    intro f s hk hs hf
    refine Mk.re fun Q hq => e_X12_firstBreak (c_X12_firstBreak_0 (d := d + 4 + k) (P6 := fun _ _ => False) hA0 RO_rm hcs0 (fun _ => ?_) (fun z => absurd z (nI_ne0 (by omega) (by omega))) (fun z => absurd z (nI_ne0 (by omega) (by omega))))
    have key : ∀ (m p : Nat), m = n - p → p < 30 → Q (some (.int (ovI (fnd (jnB (h.1 73) n) ((List.range' p m).flatMap (fun p => enN n k (p + 1) (s ||| 2 ^ p))))))) h → VM X m_X12_firstBreak (d + 4 + (k + 1)) nx sz Q 21 [some (.ref 68), some (.int (nI (k + 1))), none, some (.int (nI s)), some (.int (nI p)), none] [] h := by
      intro m
      induction m with
      | zero =>
        intro p hm hp30 hq
        have yes : h.1 68 1 ≤ nI p := by rw [h0, le_nI (by omega) (by omega)]; omega
        exact c_X12_firstBreak_21 (d := d + 4 + k) (P44 := fun _ _ => False) hA0 RO_rm hcs0 (fun _ => hq) (fun z => absurd yes z) (fun z => absurd yes z)
      | succ m ihm =>
        intro p hm hp30 hq
        have no : ¬ h.1 68 1 ≤ nI p := fun z => by rw [h0, le_nI (by omega) (by omega)] at z; omega
        have hb : 2 ^ p < 2 ^ n := Nat.pow_lt_pow_right (by decide) (by omega)
        have hs2 : s ||| 2 ^ p < 2 ^ n := Nat.or_lt_two_pow hs hb
        refine c_X12_firstBreak_21 hA0 RO_rm hcs0 (fun z => absurd z no) (P44 := fun y g => y = ovI (fnd (jnB (h.1 73) n) (enN n k (p + 1) (s ||| 2 ^ p))) ∧ h = g) (fun _ => ?_) ?_
        · rw [nI_pred, nI_1, bt_toInt32, bt_nI (by omega), or_nI (by omega) (by omega)]
          exact ih (p + 1) (s ||| 2 ^ p) (by omega) hs2 (by omega)
        rintro _ y g ⟨rfl, rfl⟩
        rw [List.range'_succ, List.flatMap_cons, fnd_app] at hq
        cases e : fnd (jnB (h.1 73) n) (enN n k (p + 1) (s ||| 2 ^ p)) with
        | none =>
          rw [e] at hq
          refine c_X12_firstBreak_47 (fun _ => ?_) (fun z => absurd rfl z)
          rw [nI_1]
          exact ihm (p + 1) (by omega) (by omega) hq
        | some x =>
          rw [e] at hq
          have hx := en_lt hs2 (fnd_in e)
          exact c_X12_firstBreak_47 (fun z => absurd z (nI_m1 (by omega))) (fun _ => hq)
    exact key (n - f) f rfl (by omega) hq
theorem t_brk (hA0 : 91 ≤ nx) (hF : Fx h) (hp : MP h n) (hg : Gr n (h.1 73)) {k : Nat} (hk : k ≤ 3) : Mk X (d + 7) m_X12_firstBreak [.ref 68, .int (nI k), .int 0, .int 0] h nx sz (RE (brV (h.1 73) n k) h) := by
  have e := t_firstBreak (X := X) (d := d + (3 - k)) (nx := nx) (sz := sz) hA0 hF hp hg k 0 0 hk (Nat.two_pow_pos n) (Nat.zero_le _)
  rw [show d + (3 - k) + 4 + k = d + 7 by omega] at e
  exact e
theorem t_bears_bad {x : Int32} (hA0 : 91 ≤ nx) (c : x < 0 ∨ ¬ x ≤ 3) : Mk X (d + 1) m_X12_bears [.ref 68, .int x] h nx sz (RE (-1) (setI h 68 0 0)) := by
  refine Mk.re fun Q hq => e_X12_bears (c_X12_bears_0 hA0 RO_rm hcs0 (t_isIn (d := d)) ?_)
  rintro y g ⟨rfl, rfl⟩
  rw [if_neg (fun z => c.elim z.1 (fun q => q (Int32.not_lt.mp z.2)))]
  exact c_X12_bears_11 (d := d) (P22 := fun _ _ => False) hA0 RO_rm hcs0 (fun z => absurd rfl z) (fun z => absurd rfl z) (fun _ => hq)
theorem t_bears {k : Nat} (hA0 : 91 ≤ nx) (hF : Fx h) (hP : InvP h n) (hg : Gr n (h.1 73)) (hk : k ≤ 3) : Mk X (d + 8) m_X12_bears [.ref 68, .int (nI k)] h nx sz (RE (if brV (h.1 73) n k = -1 then 1 else 0) (setI h 68 0 0)) := by
  obtain ⟨k1, -, k2⟩ := nI_03 hk
  have s0 : Sc h (setI h 68 0 0) := Sc.rfl.setI rfl
  refine Mk.re fun Q hq => e_X12_bears (c_X12_bears_0 hA0 RO_rm hcs0 (t_isIn (d := d + 7)) ?_)
  rintro y g ⟨rfl, rfl⟩
  rw [if_pos ⟨k1, k2⟩]
  refine c_X12_bears_11 hA0 RO_rm hcs0 (fun _ => t_brk (d := d) hA0 (hF.sc s0) (hP.sc s0).mp hg hk) ?_ (fun z => by cases z)
  rintro _ y g ⟨rfl, rfl⟩
  have e : (setI h 68 0 0).1 73 = h.1 73 := rfl
  rw [e]
  refine c_X12_bears_25 (fun c => ?_) (fun c => ?_)
  · rw [if_neg c] at hq; exact hq
  · rw [if_pos c] at hq; exact hq
theorem t_broken_bad {x : Int32} (hA0 : 91 ≤ nx) (c : x < 0 ∨ ¬ x ≤ 3) : Mk X (d + 1) m_X12_broken [.ref 68, .int x] h nx sz (RE (-1) (setI h 68 0 0)) := by
  refine Mk.re fun Q hq => e_X12_broken (c_X12_broken_0 hA0 RO_rm hcs0 (t_isIn (d := d)) ?_)
  rintro y g ⟨rfl, rfl⟩
  rw [if_neg (fun z => c.elim z.1 (fun q => q (Int32.not_lt.mp z.2)))]
  exact c_X12_broken_11 (d := d) (P18 := fun _ _ => False) hA0 RO_rm hcs0 (fun _ => hq) (fun z => absurd rfl z) (fun z => absurd rfl z)
theorem t_broken {k : Nat} (hA0 : 91 ≤ nx) (hF : Fx h) (hP : InvP h n) (hg : Gr n (h.1 73)) (hk : k ≤ 3) : Mk X (d + 8) m_X12_broken [.ref 68, .int (nI k)] h nx sz (RE (brV (h.1 73) n k) (setI h 68 0 0)) := by
  obtain ⟨k1, -, k2⟩ := nI_03 hk
  have s0 : Sc h (setI h 68 0 0) := Sc.rfl.setI rfl
  refine Mk.re fun Q hq => e_X12_broken (c_X12_broken_0 hA0 RO_rm hcs0 (t_isIn (d := d + 7)) ?_)
  rintro y g ⟨rfl, rfl⟩
  rw [if_pos ⟨k1, k2⟩]
  refine c_X12_broken_11 hA0 RO_rm hcs0 (fun z => by cases z) (fun _ => t_brk (d := d) hA0 (hF.sc s0) (hP.sc s0).mp hg hk) ?_
  rintro _ y g ⟨rfl, rfl⟩
  exact c_X12_broken_21 hq
end OPS

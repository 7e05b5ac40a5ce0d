/-! begin: the sets of so many, each once; the one that more hear of, in fewer rounds -/
section EN
variable {n : Nat}
theorem cN_step (x m : Nat) : cN x (m + 1) = cN x m + (if x.testBit m = true then 1 else 0) := rfl
theorem cN_flat {x f : Nat} : ∀ d, (∀ j, f ≤ j → j < f + d → x.testBit j = false) → cN x (f + d) = cN x f
  | 0, _ => rfl
  | d + 1, h => by
    rw [show f + (d + 1) = (f + d) + 1 from rfl, cN_step, cN_flat d (fun j a b => h j a (by omega)), h (f + d) (by omega) (by omega)]
    rfl
theorem cN_mono {x f : Nat} : ∀ d, cN x f ≤ cN x (f + d)
  | 0 => Nat.le_refl _
  | d + 1 => by
    have := cN_mono (x := x) (f := f) d
    rw [show f + (d + 1) = (f + d) + 1 from rfl, cN_step]
    omega
theorem cN_first {x : Nat} : ∀ (d f : Nat), cN x f < cN x (f + d) → ∃ p, f ≤ p ∧ p < f + d ∧ x.testBit p = true ∧ ∀ j, f ≤ j → j < p → x.testBit j = false
  | 0, f, h => absurd h (Nat.lt_irrefl _)
  | d + 1, f, h => by
    by_cases c : x.testBit f = true
    · exact ⟨f, Nat.le_refl _, by omega, c, fun j a b => by omega⟩
    · have c : x.testBit f = false := by simpa using c
      have e : cN x (f + 1) = cN x f := cN_flat 1 (fun j a b => by rw [show j = f by omega]; exact c)
      obtain ⟨p, p1, p2, p3, p4⟩ := cN_first (x := x) d (f + 1) (by rw [e, show f + 1 + d = f + (d + 1) by omega]; exact h)
      refine ⟨p, by omega, by omega, p3, fun j a b => ?_⟩
      by_cases q : j = f
      · rw [q]; exact c
      · exact p4 j (by omega) b
theorem tB_lt {s f j : Nat} (hs : s < 2 ^ f) (h : f ≤ j) : s.testBit j = false := Nat.testBit_lt_two_pow (Nat.lt_of_lt_of_le hs (Nat.pow_le_pow_right (by decide) h))
theorem tB_or {s p j : Nat} : (s ||| 2 ^ p).testBit j = (s.testBit j || decide (p = j)) := by rw [Nat.testBit_or, Nat.testBit_two_pow]
theorem en_mem : ∀ (k f s x : Nat), s < 2 ^ f → f ≤ n → (x ∈ enN n k f s ↔ x < 2 ^ n ∧ (∀ j, j < f → x.testBit j = s.testBit j) ∧ cN x n = cN x f + k)
  | 0, f, s, x, hs, hf => by
    have e0 : x ∈ enN n 0 f s ↔ x = s := by simp [enN]
    rw [e0]
    constructor
    · intro e
      subst e
      refine ⟨Nat.lt_of_lt_of_le hs (Nat.pow_le_pow_right (by decide) hf), fun _ _ => rfl, ?_⟩
      have := cN_flat (x := x) (f := f) (n - f) (fun j a _ => tB_lt hs a)
      rw [show f + (n - f) = n by omega] at this
      omega
    · rintro ⟨h1, h2, h3⟩
      apply Nat.eq_of_testBit_eq
      intro j
      rcases Nat.lt_or_ge j f with q | q
      · exact h2 j q
      · rw [tB_lt hs q]
        rcases Nat.lt_or_ge j n with r | r
        · cases c : x.testBit j with
          | false => rfl
          | true =>
            have a1 := cN_mono (x := x) (f := f) (j - f)
            rw [show f + (j - f) = j by omega] at a1
            have a2 := cN_step x j
            rw [c] at a2
            have a3 := cN_mono (x := x) (f := j + 1) (n - (j + 1))
            rw [show j + 1 + (n - (j + 1)) = n by omega] at a3
            simp at a2
            omega
        · exact tB_lt h1 r
  | k + 1, f, s, x, hs, hf => by
    have lt' : ∀ p, f ≤ p → s ||| 2 ^ p < 2 ^ (p + 1) := fun p hp => Nat.or_lt_two_pow (Nat.lt_of_lt_of_le hs (Nat.pow_le_pow_right (by decide) (by omega))) (Nat.pow_lt_pow_right (by decide) (by omega))
    unfold enN
    rw [List.mem_flatMap]
    constructor
    · rintro ⟨p, hp, hx⟩
      rw [List.mem_range'_1] at hp
      obtain ⟨h1, h2, h3⟩ := (en_mem k (p + 1) (s ||| 2 ^ p) x (lt' p hp.1) (by omega)).mp hx
      refine ⟨h1, fun j hj => ?_, ?_⟩
      · rw [h2 j (by omega), tB_or, decide_eq_false (by omega), Bool.or_false]
      · have e1 : x.testBit p = true := by rw [h2 p (by omega), tB_or, decide_eq_true rfl, Bool.or_true]
        have e2 := cN_flat (x := x) (f := f) (p - f) (fun j a b => by
          rw [h2 j (by omega), tB_or, decide_eq_false (by omega), Bool.or_false]
          exact tB_lt hs a)
        rw [show f + (p - f) = p by omega] at e2
        rw [h3, cN_step, e1, e2, if_pos rfl]
        omega
    · rintro ⟨h1, h2, h3⟩
      obtain ⟨p, p1, p2, p3, p4⟩ := cN_first (x := x) (n - f) f (by rw [show f + (n - f) = n by omega]; omega)
      refine ⟨p, List.mem_range'_1.mpr ⟨p1, p2⟩, (en_mem k (p + 1) (s ||| 2 ^ p) x (lt' p p1) (by omega)).mpr ⟨h1, fun j hj => ?_, ?_⟩⟩
      · rw [tB_or]
        by_cases q : p = j
        · rw [decide_eq_true q, Bool.or_true, ← q, p3]
        · rw [decide_eq_false q, Bool.or_false]
          rcases Nat.lt_or_ge j f with r | r
          · exact h2 j r
          · rw [p4 j r (by omega), tB_lt hs r]
      · have e2 := cN_flat (x := x) (f := f) (p - f) (fun j a b => p4 j a (by omega))
        rw [show f + (p - f) = p by omega] at e2
        rw [cN_step, p3, e2, if_pos rfl]
        omega
theorem en_all {k x : Nat} (hn : n ≤ 20) : x ∈ enN n k 0 0 ↔ x < 2 ^ n ∧ cnt (nI x) n = k := by
  rw [en_mem k 0 0 x (by decide) (Nat.zero_le _)]
  constructor
  · rintro ⟨a, -, b⟩
    refine ⟨a, ?_⟩
    rw [← cN_cnt, u_nI (Nat.lt_trans a (p20 hn)), b]
    exact Nat.zero_add k
  · rintro ⟨a, b⟩
    rw [← cN_cnt, u_nI (Nat.lt_trans a (p20 hn))] at b
    exact ⟨a, fun j hj => absurd hj (Nat.not_lt_zero _), by rw [b]; exact (Nat.zero_add k).symm⟩
def lxR (a b : Nat) : Nat → Nat → Bool
  | 0, _ => false
  | f + 1, i => if a.testBit i = b.testBit i then lxR a b f (i + 1) else a.testBit i
def srB : List Nat → Bool
  | [] => true
  | [_] => true
  | a :: b :: t => lxR a b 20 0 && srB (b :: t)
theorem en_srt : ∀ n, n < 21 → 2 ≤ n → ∀ k, k < 4 → srB (enN n k 0 0) = true := by decide +kernel
theorem lxR_lx {a b : Nat} (ha : a < 2 ^ 31) (hb : b < 2 ^ 31) : ∀ (f i : Nat), (∀ j, j < i → a.testBit j = b.testBit j) → lxR a b f i = true → lx (nI a) (nI b)
  | 0, i, _, h => by cases h
  | f + 1, i, hj, h => by
    unfold lxR at h
    split at h
    next q =>
      refine lxR_lx ha hb f (i + 1) (fun j hji => ?_) h
      by_cases e : j = i
      · rw [e]; exact q
      · exact hj j (by omega)
    next q =>
      refine ⟨i, by rw [tb_nI ha]; exact h, ?_, fun j hji => by rw [tb_nI ha, tb_nI hb]; exact hj j hji⟩
      rw [tb_nI hb]
      rw [h] at q
      cases c : b.testBit i with
      | false => rfl
      | true => rw [c] at q; exact absurd rfl q
end EN
section BG
variable {n : Nat} {K : Nat → Int32}
def hdN (K : Nat → Int32) (n s : Nat) : Nat := cnt (bl K n (full n) (nI s) (n - 1)) n
def rdN (K : Nat → Int32) (n s : Nat) : Nat := rds K n (nI s)
def bg (K : Nat → Int32) (n a b : Nat) : Prop := hdN K n b < hdN K n a ∨ (hdN K n a = hdN K n b ∧ (rdN K n a < rdN K n b ∨ (rdN K n a = rdN K n b ∧ lx (nI a) (nI b))))
theorem bg_trans {a b c : Nat} (x : bg K n a b) (y : bg K n b c) : bg K n a c := by
  unfold bg at *
  rcases x with x | ⟨x1, x | ⟨x2, x3⟩⟩ <;> rcases y with y | ⟨y1, y | ⟨y2, y3⟩⟩
  · left; omega
  · left; omega
  · left; omega
  · left; omega
  · right; exact ⟨by omega, Or.inl (by omega)⟩
  · right; exact ⟨by omega, Or.inl (by omega)⟩
  · left; omega
  · right; exact ⟨by omega, Or.inl (by omega)⟩
  · right; exact ⟨by omega, Or.inr ⟨by omega, lx_trans x3 y3⟩⟩
theorem bg_irr {a : Nat} (x : bg K n a a) : False := by
  rcases x with x | ⟨-, x | ⟨-, x⟩⟩
  · omega
  · omega
  · exact lx_irr x
theorem bg_tot {a b : Nat} (ha : a < 2 ^ 31) (hb : b < 2 ^ 31) (h : a ≠ b) : bg K n a b ∨ bg K n b a := by
  unfold bg
  rcases Nat.lt_trichotomy (hdN K n a) (hdN K n b) with q | q | q
  · exact Or.inr (Or.inl q)
  · rcases Nat.lt_trichotomy (rdN K n a) (rdN K n b) with r | r | r
    · exact Or.inl (Or.inr ⟨q, Or.inl r⟩)
    · rcases lx_tot (s := nI a) (t := nI b) (fun z => h (nI_inj ha hb z)) with l | l
      · exact Or.inl (Or.inr ⟨q, Or.inr ⟨r, l⟩⟩)
      · exact Or.inr (Or.inr ⟨q.symm, Or.inr ⟨r.symm, l⟩⟩)
    · exact Or.inr (Or.inr ⟨q.symm, Or.inl r⟩)
  · exact Or.inl (Or.inl q)
/-- the answer: none, or the best -/
def BGV (K : Nat → Int32) (n k : Nat) (y : Int32) : Prop := (y = -1 ∧ ∀ t, t < 2 ^ n → cnt (nI t) n ≠ k) ∨ ∃ r, y = nI r ∧ r < 2 ^ n ∧ cnt (nI r) n = k ∧ ∀ t, t < 2 ^ n → cnt (nI t) n = k → t = r ∨ bg K n r t
theorem BGV_one {k : Nat} {x y : Int32} (a : BGV K n k x) (b : BGV K n k y) : x = y := by
  rcases a with ⟨a1, a2⟩ | ⟨r, a1, a2, a3, a4⟩ <;> rcases b with ⟨b1, b2⟩ | ⟨s, b1, b2, b3, b4⟩
  · rw [a1, b1]
  · exact absurd b3 (a2 s b2)
  · exact absurd a3 (b2 r a2)
  · rcases a4 s b2 b3 with e | e
    · rw [a1, b1, e]
    · rcases b4 r a2 a3 with e2 | e2
      · rw [a1, b1, e2]
      · exact (bg_irr (bg_trans e e2)).elim
def cls (K : Nat → Int32) (n : Nat) (o : Option Nat) (a : Nat) : Option Nat := match o with
  | none => some a
  | some r => if hdN K n r < hdN K n a ∨ (hdN K n a = hdN K n r ∧ rdN K n a < rdN K n r) then some a else some r
def clF (K : Nat → Int32) (n : Nat) : List Nat → Option Nat → Option Nat
  | [], o => o
  | a :: t, o => clF K n t (cls K n o a)
theorem clF_some {r0 : Nat} : ∀ (L : List Nat) (r : Nat) (pre : Nat → Prop), pre r → (∀ t, pre t → t = r ∨ bg K n r t) → (∀ x, x ∈ L → x < 2 ^ 31) → srB (r0 :: L) = true → r0 < 2 ^ 31 → (∀ t, pre t → t = r0 ∨ lx (nI t) (nI r0)) → ∃ s, clF K n L (some r) = some s ∧ (pre s ∨ s ∈ L) ∧ ∀ t, (pre t ∨ t ∈ L) → t = s ∨ bg K n s t
  | [], r, pre, h1, h2, _, _, _, _ => ⟨r, rfl, Or.inl h1, fun t ht => ht.elim (h2 t) (fun z => by cases z)⟩
  | a :: L, r, pre, h1, h2, hb, hs, hr0, hl => by
    have hs : (lxR r0 a 20 0 && srB (a :: L)) = true := hs
    rw [Bool.and_eq_true] at hs
    have ha := hb a List.mem_cons_self
    have la : lx (nI r0) (nI a) := lxR_lx hr0 ha 20 0 (fun j hj => absurd hj (Nat.not_lt_zero _)) hs.1
    have lp : ∀ t, pre t → lx (nI t) (nI a) := fun t ht => (hl t ht).elim (fun z => by rw [z]; exact la) (fun z => lx_trans z la)
    have gen : ∀ r', (pre r' ∨ r' = a) → (∀ t, (pre t ∨ t = a) → t = r' ∨ bg K n r' t) → ∃ s, clF K n L (some r') = some s ∧ (pre s ∨ s ∈ a :: L) ∧ ∀ t, (pre t ∨ t ∈ a :: L) → t = s ∨ bg K n s t := fun r' c1 c2 => by
      obtain ⟨s, s1, s2, s3⟩ := clF_some (r0 := a) L r' (fun t => pre t ∨ t = a) c1 c2 (fun x hx => hb x (List.mem_cons_of_mem _ hx)) hs.2 ha (fun t ht => ht.elim (fun z => Or.inr (lp t z)) Or.inl)
      refine ⟨s, s1, ?_, fun t ht => s3 t ?_⟩
      · rcases s2 with (z | z) | z
        · exact Or.inl z
        · rw [z]; exact Or.inr List.mem_cons_self
        · exact Or.inr (List.mem_cons_of_mem _ z)
      · rcases ht with z | z
        · exact Or.inl (Or.inl z)
        · rcases List.mem_cons.mp z with y | y
          · exact Or.inl (Or.inr y)
          · exact Or.inr y
    show ∃ s, clF K n L (if hdN K n r < hdN K n a ∨ (hdN K n a = hdN K n r ∧ rdN K n a < rdN K n r) then some a else some r) = some s ∧ _
    by_cases c : hdN K n r < hdN K n a ∨ (hdN K n a = hdN K n r ∧ rdN K n a < rdN K n r)
    · rw [if_pos c]
      have bar : bg K n a r := by
        rcases c with c | ⟨c1, c2⟩
        · exact Or.inl c
        · exact Or.inr ⟨c1, Or.inl c2⟩
      refine gen a (Or.inr rfl) (fun t ht => ?_)
      rcases ht with z | z
      · rcases h2 t z with y | y
        · rw [y]; exact Or.inr bar
        · exact Or.inr (bg_trans bar y)
      · exact Or.inl z
    · rw [if_neg c]
      refine gen r (Or.inl h1) (fun t ht => ?_)
      rcases ht with z | z
      · exact h2 t z
      · rw [z]
        right
        unfold bg
        rcases Nat.lt_trichotomy (hdN K n a) (hdN K n r) with q | q | q
        · exact Or.inl q
        · rcases Nat.lt_trichotomy (rdN K n a) (rdN K n r) with w | w | w
          · exact absurd (Or.inr ⟨q, w⟩) c
          · exact Or.inr ⟨q.symm, Or.inr ⟨w.symm, lp r h1⟩⟩
          · exact Or.inr ⟨q.symm, Or.inl w⟩
        · exact absurd (Or.inl q) c
theorem clF_bgv {k : Nat} (h2 : 2 ≤ n) (hn : n ≤ 20) (hk : k ≤ 3) : BGV K n k (ovI (clF K n (enN n k 0 0) none)) := by
  have hs := en_srt n (by omega) h2 k (by omega)
  have hm : ∀ x, x ∈ enN n k 0 0 ↔ x < 2 ^ n ∧ cnt (nI x) n = k := fun x => en_all hn
  cases e : enN n k 0 0 with
  | nil =>
    refine Or.inl ⟨rfl, fun t ht hc => ?_⟩
    have := (hm t).mpr ⟨ht, hc⟩
    rw [e] at this
    cases this
  | cons a L =>
    rw [e] at hs hm
    have h31 := p20 hn
    have lt31 : ∀ x, x ∈ a :: L → x < 2 ^ 31 := fun x hx => Nat.lt_trans ((hm x).mp hx).1 h31
    obtain ⟨s, s1, s2, s3⟩ := clF_some (K := K) (n := n) (r0 := a) L a (fun t => t = a) rfl (fun t ht => Or.inl ht) (fun x hx => lt31 x (List.mem_cons_of_mem _ hx)) hs (lt31 a List.mem_cons_self) (fun t ht => Or.inl ht)
    have e2 : clF K n (a :: L) none = some s := s1
    rw [e2]
    have sm : s ∈ a :: L := by
      rcases s2 with z | z
      · rw [z]; exact List.mem_cons_self
      · exact List.mem_cons_of_mem _ z
    refine Or.inr ⟨s, rfl, ((hm s).mp sm).1, ((hm s).mp sm).2, fun t ht hc => s3 t ?_⟩
    rcases List.mem_cons.mp ((hm t).mpr ⟨ht, hc⟩) with z | z
    · exact Or.inl z
    · exact Or.inr z
end BG
section OPS
variable {X : CX} {d nx sz : Nat} {h : AH} {n : Nat}
theorem hdN_pos {K : Nat → Int32} {s : Nat} (hn : n ≤ 20) (hs : s < 2 ^ n) (h0 : 0 < cnt (nI s) n) : 0 < hdN K n s := by
  unfold hdN
  have : cnt (nI s) n ≤ cnt (bl K n (full n) (nI s) (n - 1)) n := cnt_mono fun i _ hi => bl_mono (a := 0) (Nat.zero_le _) hi
  omega
theorem s_beg23 {Q : Option Value → AH → Prop} {k : Nat} (hA0 : 91 ≤ nx) (hF : Fx h) (hP : InvP h n) (hg : Gr n (h.1 2)) (hk1 : 1 ≤ k) : ∀ (l : List Nat) (i : Nat) (o : Option Nat), chB n l = true → i + l.length ≤ 1140 → (∀ x, x ∈ l → x < 2 ^ n ∧ cnt (nI x) n = k) → (∀ r, o = some r → r < 2 ^ n) → Q (some (.int (ovI (clF (h.1 2) n l o)))) h → VM X m_X9_beginners (d + 2) nx sz Q 23 [some (.ref 21), none, some (.int (ovI o)), some (.int (nI (match o with | none => 0 | some r => hdN (h.1 2) n r))), some (.int (nI (match o with | none => 0 | some r => rdN (h.1 2) n r))), some (.int (ovI l.head?)), some (.int (nI i)), none, none] [] h
  | [], i, o, _, hi, _, _, hq => by
    by_cases c : i = 1140
    · subst c
      have yes : nI 1140 ≤ nI 1140 := Int32.le_refl _
      exact c_X9_beginners_23 (d := d + 1) (P50 := fun _ _ => False) hA0 hF RO_rm hcs0 (fun _ => hq) (fun z => absurd yes z) (fun z => absurd yes z) (fun z => absurd yes z)
    · have hi : i ≤ 1140 := by simpa using hi
      have no : ¬ nI 1140 ≤ nI i := fun z => by rw [le_nI (by decide) (by omega)] at z; omega
      exact c_X9_beginners_23 (d := d + 1) (P50 := fun _ _ => False) hA0 hF RO_rm hcs0 (fun z => absurd z no) (fun _ _ => hq) (fun _ z => absurd rfl z) (fun _ z => absurd rfl z)
  | a :: t, i, o, hc, hi, hl, ho, hq => by
    have hi : i + (t.length + 1) ≤ 1140 := by simpa using hi
    have h2 := hP.1
    have h20 := hP.2.1
    obtain ⟨ha, hak⟩ := hl a List.mem_cons_self
    have h31 := p20 h20
    have no : ¬ nI 1140 ≤ nI i := fun z => by rw [le_nI (by decide) (by omega)] at z; omega
    have e1 : h.1 1 1 = full n := (hP.np net1).2.2.1
    have e0 : h.1 1 0 = nI n := (hP.np net1).2.1
    have en : nxN n a = t.head? ∧ chB n t = true := by
      cases t with
      | nil => exact ⟨of_decide_eq_true hc, rfl⟩
      | cons b u =>
        have hc : (decide (nxN n a = some b) && chB n (b :: u)) = true := hc
        rw [Bool.and_eq_true] at hc
        exact ⟨of_decide_eq_true hc.1, hc.2⟩
    obtain ⟨bh, ebh⟩ : ∃ bh, bh = (match o with | none => 0 | some r => hdN (h.1 2) n r) := ⟨_, rfl⟩
    obtain ⟨br, ebr⟩ : ∃ br, br = (match o with | none => 0 | some r => rdN (h.1 2) n r) := ⟨_, rfl⟩
    have hbh : bh ≤ 20 := by
      rw [ebh]
      cases o with
      | none => exact Nat.zero_le _
      | some r => exact Nat.le_trans cnt_le h20
    have hbr : br ≤ 20 := by
      rw [ebr]
      cases o with
      | none => exact Nat.zero_le _
      | some r => exact Nat.le_trans rds_le h20
    rw [← ebh, ← ebr]
    show VM X m_X9_beginners (d + 2) nx sz Q 23 [some (.ref 21), none, some (.int (ovI o)), some (.int (nI bh)), some (.int (nI br)), some (.int (nI a)), some (.int (nI i)), none, none] [] h
    refine c_X9_beginners_23 hA0 hF RO_rm hcs0 (fun z => absurd z no) (fun _ z => absurd z (nI_m1 (by omega))) (fun _ _ => s_reached (d := d) hA0 hF (hP.np net1)) ?_
    rintro _ _ _ g ⟨rfl, rfl⟩
    refine c_X9_beginners_53 RO_rm hcs0 (s_bitCount (d := d + 1)) ?_
    rintro _ g ⟨rfl, rfl⟩
    refine c_X9_beginners_56 hA0 hF RO_rm hcs0 (s_roundsFrom (d := d) hA0 hF (hP.np net1)) ?_
    rintro _ g ⟨rfl, rfl⟩
    have eb : bc (bl (h.1 (1 + 1)) n (h.1 1 1) (nI a) (n - 1)) = nI (hdN (h.1 2) n a) := by
      rw [e1]
      exact bc_lt h20 (fun j hj => bl_in hg.kb (bits_of_lt h20 ha) _ _ hj)
    rw [eb]
    have hhd : hdN (h.1 2) n a ≤ 20 := Nat.le_trans cnt_le h20
    have hrd : rdN (h.1 2) n a ≤ 20 := Nat.le_trans rds_le h20
    have hpos : 0 < hdN (h.1 2) n a := hdN_pos h20 ha (by omega)
    have erd : nI (rds (h.1 (1 + 1)) n (nI a)) = nI (rdN (h.1 2) n a) := rfl
    rw [erd]
    have lt1 : nI bh < nI (hdN (h.1 2) n a) ↔ bh < hdN (h.1 2) n a := nI_ltI (by omega) (by omega)
    have eq1 : nI (hdN (h.1 2) n a) = nI bh ↔ hdN (h.1 2) n a = bh := nI_eq (by omega) (by omega)
    have le1 : nI br ≤ nI (rdN (h.1 2) n a) ↔ br ≤ rdN (h.1 2) n a := le_nI (by omega) (by omega)
    have nx2 : Mk X (d + 1) m_X11_nextSet [.int (nI a), .int (h.1 1 0)] h nx sz (RE (ovI (nxN n a)) h) := by
      rw [e0]
      exact s_nextSet (d := d + 1) (by omega) h20 (by omega)
    have taken : (bh < hdN (h.1 2) n a ∨ (hdN (h.1 2) n a = bh ∧ rdN (h.1 2) n a < br)) → VM X m_X9_beginners (d + 2) nx sz Q 110 [some (.ref 21), none, some (.int (nI a)), some (.int (nI (hdN (h.1 2) n a))), some (.int (nI (rdN (h.1 2) n a))), none, some (.int (nI i)), none, none] [.int (ovI (nxN n a))] h := fun c => by
      refine c_X9_beginners_110 ?_
      rw [nI_1, en.1]
      have q := s_beg23 hA0 hF hP hg hk1 t (i + 1) (some a) en.2 (by omega) (fun x hx => hl x (List.mem_cons_of_mem _ hx)) (fun r hr => by cases hr; exact ha) (by
        have e : clF (h.1 2) n (a :: t) o = clF (h.1 2) n t (cls (h.1 2) n o a) := rfl
        have e3 : cls (h.1 2) n o a = some a := by
          cases o with
          | none => rfl
          | some r =>
            unfold cls
            rw [ebh, ebr] at c
            exact if_pos c
        rw [e, e3] at hq
        exact hq)
      exact q
    have kept : ¬ (bh < hdN (h.1 2) n a ∨ (hdN (h.1 2) n a = bh ∧ rdN (h.1 2) n a < br)) → VM X m_X9_beginners (d + 2) nx sz Q 110 [some (.ref 21), none, some (.int (ovI o)), some (.int (nI bh)), some (.int (nI br)), none, some (.int (nI i)), none, none] [.int (ovI (nxN n a))] h := fun c => by
      refine c_X9_beginners_110 ?_
      rw [nI_1, en.1]
      cases o with
      | none =>
        rw [ebh] at c
        exact absurd (Or.inl hpos) c
      | some r =>
        have q := s_beg23 hA0 hF hP hg hk1 t (i + 1) (some r) en.2 (by omega) (fun x hx => hl x (List.mem_cons_of_mem _ hx)) ho (by
          have e : clF (h.1 2) n (a :: t) (some r) = clF (h.1 2) n t (cls (h.1 2) n (some r) a) := rfl
          have e3 : cls (h.1 2) n (some r) a = some r := by
            unfold cls
            rw [ebh, ebr] at c
            exact if_neg c
          rw [e, e3] at hq
          exact hq)
        rw [ebh, ebr]
        exact q
    refine c_X9_beginners_67 (P107 := fun y g => y = ovI (nxN n a) ∧ h = g) (P107_1 := fun y g => y = ovI (nxN n a) ∧ h = g) (P107_2 := fun y g => y = ovI (nxN n a) ∧ h = g) (P107_3 := fun y g => y = ovI (nxN n a) ∧ h = g) hA0 hF RO_rm hcs0 (fun _ => nx2) ?_ (fun _ _ => nx2) ?_ (fun _ _ _ => nx2) ?_ (fun _ _ _ => nx2) ?_
    · rintro z _ g ⟨rfl, rfl⟩
      exact taken (Or.inl (lt1.mp z))
    · rintro z z2 _ g ⟨rfl, rfl⟩
      refine kept (fun c => c.elim (fun y => z (lt1.mpr y)) (fun y => z2 (eq1.mpr y.1)))
    · rintro z z2 z3 _ g ⟨rfl, rfl⟩
      rw [le1] at z3
      exact kept (fun c => c.elim (fun y => z (lt1.mpr y)) (fun y => by omega))
    · rintro z z2 z3 _ g ⟨rfl, rfl⟩
      rw [le1] at z3
      exact taken (Or.inr ⟨eq1.mp z2, by omega⟩)
theorem s_begin_bad {x : Int32} (hA0 : 91 ≤ nx) (hF : Fx h) (c : x < 1 ∨ ¬ x ≤ 3) : Mk X (d + 1) m_X11_begin [.ref 0, .int x] h nx sz (RE (-1) h) := by
  by_cases c0 : x < 1
  · exact Mk.re fun Q hq => e_X11_begin (c_X11_begin_0 (d := d) (P19 := fun _ _ => False) hA0 hF RO_rm hcs0 (fun _ => c_X11_begin_22 hq) (fun z => absurd c0 z) (fun z => absurd c0 z) (fun z => absurd c0 z))
  · have c := c.resolve_left c0
    exact Mk.re fun Q hq => e_X11_begin (c_X11_begin_0 (d := d) (P19 := fun _ _ => False) hA0 hF RO_rm hcs0 (fun z => absurd z c0) (fun _ z => absurd z c) (fun _ z => absurd z c) (fun _ _ => c_X11_begin_22 hq))
theorem s_begin {k : Nat} (hA0 : 91 ≤ nx) (hF : Fx h) (hP : InvP h n) (hg : Gr n (h.1 2)) (hk1 : 1 ≤ k) (hk : k ≤ 3) : Mk X (d + 3) m_X11_begin [.ref 0, .int (nI k)] h nx sz (RI fun y g => BGV (h.1 2) n k y ∧ h = g) := by
  have h2 := hP.1
  have h20 := hP.2.1
  obtain ⟨k1, k2⟩ := nI_13 hk1 hk
  have k3 := Int32.not_lt.mp k2
  obtain ⟨c1, c2, c3⟩ := en_chk n (by omega) h2 k (by omega)
  refine e_X11_begin (c_X11_begin_0 (P19 := fun y g => BGV (h.1 2) n k y ∧ h = g) hA0 hF RO_rm hcs0 (fun z => absurd z k1) (fun _ _ => ?_) ?_ (fun _ z => absurd k3 z))
  · refine e_X9_beginners (c_X9_beginners_0 hA0 hF RO_rm hcs0 (P15 := fun y g => y = ovI (fsN n k) ∧ h = g) ?_ ?_)
    · rw [(hP.np net1).2.1]
      exact s_firstSet (d := d + 1) hk h20
    rintro y g ⟨rfl, rfl⟩
    refine c_X9_beginners_18 ?_
    rw [← c3]
    exact s_beg23 hA0 hF hP hg hk1 (enN n k 0 0) 0 none c1 (by omega) (fun x hx => (en_all h20).mp hx) (fun r hr => by cases hr) ⟨_, rfl, clF_bgv h2 h20 hk, rfl⟩
  · rintro _ _ y g p
    exact c_X11_begin_22 ⟨_, rfl, p⟩
end OPS

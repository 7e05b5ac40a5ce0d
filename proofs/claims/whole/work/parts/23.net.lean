/-! distances, and SevenTown.Net's walks -/
theorem arnd_0 {K : Nat → Int32} {n : Nat} : arnd K 0 n = 0 := by
  apply tb_ext
  intro j _
  rw [tb_0]
  cases hq : tb (arnd K 0 n) j with
  | false => rfl
  | true =>
    obtain ⟨i, -, h2, -⟩ := tb_arnd.mp hq
    rw [tb_0] at h2
    cases h2
theorem and_0 {m : Int32} : 0 &&& m = 0 := by
  apply tb_ext
  intro j _
  rw [tb_and, tb_0, Bool.false_and]
theorem fro_stop {K : Nat → Int32} {n : Nat} {m f : Int32} {k : Nat} (h : fro K n m f k = 0) {j : Nat} (hj : k ≤ j) : bl K n m f j = bl K n m f k := by
  have h1 : fro K n m f (k + 1) = 0 := by
    show arnd K (fro K n m f k) n &&& _ = 0
    rw [h, arnd_0, and_0]
  have h2 := bl_stop (fro_zero.mp h1) (j - k)
  rwa [show k + (j - k) = j by omega] at h2
/-- how far b is from a over those of m -/
def dst (K : Nat → Int32) (n : Nat) (m : Int32) (a b : Nat) : Option Nat := fstp (fun k => tb (bl K n m (bt a) k) b) 0 n
def dstI (K : Nat → Int32) (n : Nat) (m : Int32) (a b : Nat) : Int32 := match dst K n m a b with
  | some k => nI k
  | none => -1
/-- n where there is no way -/
def dstN (K : Nat → Int32) (n : Nat) (m : Int32) (a b : Nat) : Nat := (dst K n m a b).getD n
theorem dst_self {K : Nat → Int32} {n : Nat} {m : Int32} {a : Nat} (hn : 0 < n) (ha : a < 32) : dst K n m a a = some 0 :=
  fstp_some (Nat.le_refl _) (by omega) (by show tb (bt a) a = true; rw [tb_bt ha]; simp) (fun j _ h => by omega)
theorem dst_fro {K : Nat → Int32} {n : Nat} {m : Int32} {a b k : Nat} (hk : k < n) (h : tb (fro K n m (bt a) k) b = true) : dst K n m a b = some k := by
  obtain ⟨h1, h2⟩ := (tb_fro k b).mp h
  refine fstp_some (Nat.zero_le _) (by omega) h1 (fun j _ hj => ?_)
  cases hq : tb (bl K n m (bt a) j) b with
  | false => rfl
  | true =>
    have := bl_mono (b := k - 1) (by omega) hq
    rw [h2 (k - 1) (by omega)] at this
    cases this
theorem dst_none {K : Nat → Int32} {n : Nat} {m : Int32} {a b k : Nat} (hk : ∀ j, k ≤ j → j < n → bl K n m (bt a) j = bl K n m (bt a) k) (h : tb (bl K n m (bt a) k) b = false) : dst K n m a b = none := by
  refine fstp_none (fun j _ hj => ?_)
  rcases Nat.lt_or_ge j k with q | q
  · cases hq : tb (bl K n m (bt a) j) b with
    | false => rfl
    | true =>
      have := bl_mono (b := k) (by omega) hq
      rw [h] at this
      cases this
  · show tb (bl K n m (bt a) j) b = false
    rw [hk j q (by omega), h]
theorem dst_in {K : Nat → Int32} {n : Nat} {m : Int32} {a b k : Nat} (hk : k < n) (h : tb (bl K n m (bt a) k) b = true) : ∃ j, j ≤ k ∧ dst K n m a b = some j := by
  cases hd : dst K n m a b with
  | none =>
    have : tb (bl K n m (bt a) k) b = false := fstp_spec0 hd k (Nat.zero_le _) (by omega)
    rw [h] at this
    cases this
  | some j =>
    obtain ⟨-, h2, h3, h4⟩ := fstp_spec hd
    refine ⟨j, ?_, rfl⟩
    rcases Nat.lt_or_ge k j with q | q
    · have : tb (bl K n m (bt a) k) b = false := h4 k (Nat.zero_le _) q
      rw [h] at this
      cases this
    · exact q
/-- behind how many rounds nobody comes more -/
def rds (K : Nat → Int32) (n : Nat) (f : Int32) : Nat := (fstp (fun k => decide (bl K n (full n) f (k + 1) = bl K n (full n) f k)) 0 n).getD n
/-- the distances from one to all of c together -/
def sumD (K : Nat → Int32) (n : Nat) (m c : Int32) (a : Nat) : Nat := sm (fun b => if tb c b then dstN K n m a b else 0) n
theorem cnt_and_sm {x y : Int32} {n : Nat} : cnt (x &&& y) n = sm (fun i => if tb x i = true ∧ tb y i = true then 1 else 0) n := by
  rw [cnt_sm]
  refine sm_cong (fun i _ => ?_)
  rw [tb_and]
  cases tb x i <;> cases tb y i <;> simp
theorem sumD_part {K : Nat → Int32} {n : Nat} {m c : Int32} {a : Nat} (ha : a < n) (hn : n ≤ 20) : ∀ k, k < n → sm (fun j => (j + 1) * cnt (fro K n m (bt a) (j + 1) &&& c) n) k = sm (fun b => if tb c b = true ∧ tb (bl K n m (bt a) k) b = true then dstN K n m a b else 0) n
  | 0, _ => by
    show 0 = _
    have : sm (fun b => if tb c b = true ∧ tb (bl K n m (bt a) 0) b = true then dstN K n m a b else 0) n = sm (fun _ => 0 * 0) n := by
      refine sm_cong (fun b hb => ?_)
      split
      next h =>
        have e : tb (bt a) b = true := h.2
        rw [tb_bt (by omega)] at e
        have e : a = b := by simpa using e
        subst e
        unfold dstN
        rw [dst_self (by omega) (by omega)]
        rfl
      next => rfl
    rw [this, sm_mul, Nat.zero_mul]
  | k + 1, hk => by
    show sm _ k + (k + 1) * cnt (fro K n m (bt a) (k + 1) &&& c) n = _
    rw [sumD_part ha hn k (by omega), cnt_and_sm, ← sm_mul, ← sm_add]
    refine sm_cong (fun b _ => ?_)
    by_cases hc : tb c b = true
    · cases h0 : tb (bl K n m (bt a) k) b with
      | true =>
        have h1 := bl_mono1 h0
        have h2 : tb (fro K n m (bt a) (k + 1)) b = false := by
          cases hq : tb (fro K n m (bt a) (k + 1)) b with
          | false => rfl
          | true =>
            have := ((tb_fro _ _).mp hq).2 k rfl
            rw [h0] at this
            cases this
        simp [hc, h1, h2]
      | false =>
        cases h1 : tb (bl K n m (bt a) (k + 1)) b with
        | true =>
          have h2 : tb (fro K n m (bt a) (k + 1)) b = true := by
            refine (tb_fro _ _).mpr ⟨h1, fun k' e => ?_⟩
            have : k' = k := by omega
            subst this
            exact h0
          have h3 : dstN K n m a b = k + 1 := by unfold dstN; rw [dst_fro hk h2]; rfl
          simp [hc, h2, h3]
        | false =>
          have h2 : tb (fro K n m (bt a) (k + 1)) b = false := by
            cases hq : tb (fro K n m (bt a) (k + 1)) b with
            | false => rfl
            | true =>
              have := ((tb_fro _ _).mp hq).1
              rw [h1] at this
              cases this
          simp [hc, h2]
    · simp [hc]
theorem sumD_end {K : Nat → Int32} {n : Nat} {m c : Int32} {a k : Nat} (ha : a < n) (hn : n ≤ 20) (hk : k < n) (hst : ∀ j, k ≤ j → j < n → bl K n m (bt a) j = bl K n m (bt a) k) : sm (fun j => (j + 1) * cnt (fro K n m (bt a) (j + 1) &&& c) n) k + n * cnt (c &&& (bl K n m (bt a) k ^^^ (-1))) n = sumD K n m c a := by
  rw [sumD_part ha hn k hk, cnt_and_sm, ← sm_mul, ← sm_add]
  refine sm_cong (fun b hb => ?_)
  by_cases hc : tb c b = true
  · rw [tb_not (by omega)]
    cases h0 : tb (bl K n m (bt a) k) b with
    | true => simp [hc]
    | false =>
      have : dstN K n m a b = n := by unfold dstN; rw [dst_none hst h0]; rfl
      simp [hc, this]
  · simp [hc]
theorem nI_add_e {x y : Int32} {a b : Nat} (hx : x = nI a) (hy : y = nI b) : x + y = nI (a + b) := by rw [hx, hy, nI_add]
section NET
variable {X : CX} {d nx sz : Nat} {h : AH} {a n : Nat}
theorem hcs0 {d : Nat} : 0 ≤ (rm d 0 0).cells ∧ 0 ≤ (rm d 0 0).slots := ⟨Nat.le_refl _, Nat.le_refl _⟩
theorem s_reached {f m : Int32} (hA0 : 91 ≤ nx) (hF : Fx h) (hp : NP h a n) : Mk X (d + 1) m_X3_reached [.ref a, .int f, .int m] h nx sz (RE (bl (h.1 (a + 1)) n m f (n - 1)) h) := by
  obtain ⟨hn, h0, h1, h2, h20⟩ := id hp
  refine Mk.re fun Q hq => e_X3_reached (c_X3_reached_0 ?_)
  refine down_ind (N := n - 1) (P := fun k => VM X m_X3_reached (d + 1) nx sz Q 8 [some (.ref a), none, some (.int m), some (.int (bl (h.1 (a + 1)) n m f k)), some (.int (fro (h.1 (a + 1)) n m f k)), some (.int (nI (k + 1)))] [] h) ?_ (fun k hk q => ?_)
  · refine c_X3_reached_8 (P30 := fun _ _ => False) hA0 hn RO_rm hcs0 (fun _ => hq) (fun c => absurd (by rw [h0, show n - 1 + 1 = n by omega]; exact Int32.le_refl _) c) (fun c => absurd (by rw [h0, show n - 1 + 1 = n by omega]; exact Int32.le_refl _) c) (fun c => absurd (by rw [h0, show n - 1 + 1 = n by omega]; exact Int32.le_refl _) c)
  · refine c_X3_reached_8 hA0 hn RO_rm hcs0 (fun c => ?_) (fun _ c => ?_) (fun _ _ => s_around (d := d) hA0 hF hp) ?_
    · rw [h0, le_nI (by omega) (by omega)] at c
      omega
    · have e := fro_stop c (j := n - 1) (by omega)
      rw [← e]
      exact hq
    · rintro _ _ y g ⟨rfl, rfl⟩
      refine c_X3_reached_33 ?_
      rw [nI_1]
      have e : arnd (h.1 (a + 1)) (fro (h.1 (a + 1)) n m f k) n &&& (m &&& (bl (h.1 (a + 1)) n m f k ^^^ (-1))) = fro (h.1 (a + 1)) n m f (k + 1) := rfl
      rw [e, bl_fro]
      exact q
theorem s_roundsFrom {f : Int32} (hA0 : 91 ≤ nx) (hF : Fx h) (hp : NP h a n) : Mk X (d + 1) m_X3_roundsFrom [.ref a, .int f] h nx sz (RE (nI (rds (h.1 (a + 1)) n f)) h) := by
  obtain ⟨hn, h0, h1, h2, h20⟩ := id hp
  refine Mk.re fun Q hq => e_X3_roundsFrom (c_X3_roundsFrom_0 ?_)
  refine down_ind (N := n) (P := fun k => (∀ j, j < k → bl (h.1 (a + 1)) n (full n) f (j + 1) ≠ bl (h.1 (a + 1)) n (full n) f j) → VM X m_X3_roundsFrom (d + 1) nx sz Q 7 [some (.ref a), none, some (.int (bl (h.1 (a + 1)) n (full n) f k)), some (.int (fro (h.1 (a + 1)) n (full n) f k)), some (.int (nI k))] [] h) (fun hno => ?_) (fun k hk q hno => ?_) (fun j hj => by omega)
  · refine c_X3_roundsFrom_7 (P26 := fun _ _ => False) hA0 hn RO_rm hcs0 (fun _ => ?_) (fun c => absurd (by rw [h0]; exact Int32.le_refl _) c) (fun c => absurd (by rw [h0]; exact Int32.le_refl _) c)
    have e : rds (h.1 (a + 1)) n f = n := by
      unfold rds
      rw [fstp_none (fun j _ hj => by simpa using hno j (by omega))]
      rfl
    rw [h0, ← e]
    rw [e] at hq ⊢
    exact hq
  · refine c_X3_roundsFrom_7 hA0 hn RO_rm hcs0 (fun c => ?_) (fun _ => s_around (d := d) hA0 hF hp) ?_
    · rw [h0, le_nI (by omega) (by omega)] at c
      omega
    · rintro _ y g ⟨rfl, rfl⟩
      rw [h1]
      have e : arnd (h.1 (a + 1)) (fro (h.1 (a + 1)) n (full n) f k) n &&& (full n &&& (bl (h.1 (a + 1)) n (full n) f k ^^^ (-1))) = fro (h.1 (a + 1)) n (full n) f (k + 1) := rfl
      rw [e]
      refine c_X3_roundsFrom_29 (fun c => ?_) (fun c => ?_)
      · rw [nI_1, bl_fro]
        refine q (fun j hj => ?_)
        by_cases e2 : j = k
        · subst e2
          exact fun z => c (fro_zero.mpr z)
        · exact hno j (by omega)
      · have e3 : rds (h.1 (a + 1)) n f = k := by
          unfold rds
          rw [fstp_some (k := k) (Nat.zero_le _) (by omega) (by simpa using fro_zero.mp c) (fun j _ hj => by simpa using hno j hj)]
          rfl
        rw [e3] at hq
        exact hq
theorem s_distance {i j : Nat} {m : Int32} (hA0 : 91 ≤ nx) (hF : Fx h) (hp : NP h a n) (hi : i < n) (hj : j < n) : Mk X (d + 1) m_X3_distance [.ref a, .int (nI i), .int (nI j), .int m] h nx sz (RE (dstI (h.1 (a + 1)) n m i j) h) := by
  obtain ⟨hn, h0, h1, h2, h20⟩ := id hp
  refine Mk.re fun Q hq => e_X3_distance (c_X3_distance_0 (fun c => ?_) (fun c => ?_))
  · have hij : i ≠ j := fun z => c (by rw [z])
    rw [bt_toInt32]
    refine down_ind (N := n - 1) (P := fun k => (tb (bl (h.1 (a + 1)) n m (bt i) k) j = false) → VM X m_X3_distance (d + 1) nx sz Q 19 [some (.ref a), none, some (.int (nI j)), some (.int m), some (.int (bl (h.1 (a + 1)) n m (bt i) k)), some (.int (fro (h.1 (a + 1)) n m (bt i) k)), some (.int (nI (k + 1)))] [] h) (fun hno => ?_) (fun k hk q hno => ?_) (by show tb (bt i) j = false; rw [tb_bt (by omega)]; simpa using hij)
    · have e : dstI (h.1 (a + 1)) n m i j = -1 := by
        unfold dstI
        rw [dst_none (fun k hk hk2 => by rw [show k = n - 1 by omega]) hno]
      rw [e] at hq
      exact c_X3_distance_19 (P42 := fun _ _ => False) hA0 hn RO_rm hcs0 (fun _ => hq) (fun c => absurd (by rw [h0, show n - 1 + 1 = n by omega]; exact Int32.le_refl _) c) (fun c => absurd (by rw [h0, show n - 1 + 1 = n by omega]; exact Int32.le_refl _) c) (fun c => absurd (by rw [h0, show n - 1 + 1 = n by omega]; exact Int32.le_refl _) c)
    · refine c_X3_distance_19 hA0 hn RO_rm hcs0 (fun c => ?_) (fun _ c => ?_) (fun _ _ => s_around (d := d) hA0 hF hp) ?_
      · rw [h0, le_nI (by omega) (by omega)] at c
        omega
      · have e : dstI (h.1 (a + 1)) n m i j = -1 := by
          unfold dstI
          rw [dst_none (fun k2 hk2 _ => fro_stop c hk2) hno]
        rw [e] at hq
        exact hq
      · rintro _ _ y g ⟨rfl, rfl⟩
        have e : arnd (h.1 (a + 1)) (fro (h.1 (a + 1)) n m (bt i) k) n &&& (m &&& (bl (h.1 (a + 1)) n m (bt i) k ^^^ (-1))) = fro (h.1 (a + 1)) n m (bt i) (k + 1) := rfl
        rw [e]
        refine c_X3_distance_45 (fun c => ?_) (fun c => ?_)
        · rw [shr_eq0 (by omega)] at c
          rw [nI_1, bl_fro]
          refine q ?_
          cases hq2 : tb (bl (h.1 (a + 1)) n m (bt i) (k + 1)) j with
          | false => rfl
          | true =>
            have := (tb_fro (k + 1) j).mpr ⟨hq2, fun k' e => by
              have : k' = k := by omega
              subst this
              exact hno⟩
            rw [c] at this
            cases this
        · rw [shr_eq0 (by omega)] at c
          have e2 : dstI (h.1 (a + 1)) n m i j = nI (k + 1) := by
            unfold dstI
            rw [dst_fro (k := k + 1) (by omega) (by simpa using c)]
          rw [e2] at hq
          exact hq
  · have e : i = j := (nI_eq (by omega) (by omega)).mp c
    subst e
    have e : dstI (h.1 (a + 1)) n m i i = 0 := by
      unfold dstI
      rw [dst_self (by omega) (by omega)]
      rfl
    rw [e] at hq
    exact hq
theorem s_sumOver {i : Nat} {m c : Int32} (hA0 : 91 ≤ nx) (hF : Fx h) (hp : NP h a n) (hi : i < n) (hc : ∀ j, tb c j = true → j < n) : Mk X (d + 1) m_X3_sumOver [.ref a, .int (nI i), .int m, .int c] h nx sz (RE (nI (sumD (h.1 (a + 1)) n m c i)) h) := by
  obtain ⟨hn, h0, h1, h2, h20⟩ := id hp
  refine Mk.re fun Q hq => e_X3_sumOver (c_X3_sumOver_0 ?_)
  rw [bt_toInt32]
  have ec : ∀ x : Int32, bc (c &&& x) = nI (cnt (c &&& x) n) := fun x => by
    rw [bc_cnt, cnt_32 (n := n) (by omega) (fun j hj => by rw [tb_and, Bool.and_eq_true] at hj; exact hc j hj.1)]
  have ec2 : ∀ x : Int32, bc (x &&& c) = nI (cnt (x &&& c) n) := fun x => by
    rw [bc_cnt, cnt_32 (n := n) (by omega) (fun j hj => by rw [tb_and, Bool.and_eq_true] at hj; exact hc j hj.2)]
  have fin : ∀ k, k < n → (∀ j, k ≤ j → j < n → bl (h.1 (a + 1)) n m (bt i) j = bl (h.1 (a + 1)) n m (bt i) k) → VM X m_X3_sumOver (d + 1) nx sz Q 86 [none, none, none, none, none, none, none, none] [.int (bc (c &&& (bl (h.1 (a + 1)) n m (bt i) k ^^^ (-1)))), .int (h.1 a 0), .int (nI (sm (fun j => (j + 1) * cnt (fro (h.1 (a + 1)) n m (bt i) (j + 1) &&& c) n) k))] h := fun k hk hst => by
    refine c_X3_sumOver_86 ?_
    rw [ec, h0, pk_mul, nI_add, sumD_end hi h20 hk hst]
    exact hq
  refine down_ind (N := n - 1) (P := fun k => VM X m_X3_sumOver (d + 1) nx sz Q 15 [some (.ref a), none, some (.int m), some (.int c), some (.int (bl (h.1 (a + 1)) n m (bt i) k)), some (.int (fro (h.1 (a + 1)) n m (bt i) k)), some (.int (nI (sm (fun j => (j + 1) * cnt (fro (h.1 (a + 1)) n m (bt i) (j + 1) &&& c) n) k))), some (.int (nI (k + 1)))] [] h) ?_ (fun k hk q => ?_)
  · refine c_X3_sumOver_15 (P38 := fun _ _ => False) (P83_1 := fun _ _ => False) hA0 hn RO_rm hcs0 (fun _ => s_bitCount (d := d)) ?_ (fun c => absurd (by rw [h0, show n - 1 + 1 = n by omega]; exact Int32.le_refl _) c) (fun c => absurd (by rw [h0, show n - 1 + 1 = n by omega]; exact Int32.le_refl _) c) (fun c => absurd (by rw [h0, show n - 1 + 1 = n by omega]; exact Int32.le_refl _) c) (fun c => absurd (by rw [h0, show n - 1 + 1 = n by omega]; exact Int32.le_refl _) c)
    rintro _ y g ⟨rfl, rfl⟩
    exact fin (n - 1) (by omega) (fun j h1 h2 => by rw [show j = n - 1 by omega])
  · refine c_X3_sumOver_15 (P83 := fun _ _ => False) hA0 hn RO_rm hcs0 (fun c => ?_) (fun c => ?_) (fun _ _ => s_bitCount (d := d)) ?_ (fun _ _ => s_around (d := d) hA0 hF hp) ?_
    · rw [h0, le_nI (by omega) (by omega)] at c
      omega
    · rw [h0, le_nI (by omega) (by omega)] at c
      omega
    · rintro _ c0 y g ⟨rfl, rfl⟩
      exact fin k (by omega) (fun j hj _ => fro_stop c0 hj)
    · rintro _ _ y g ⟨rfl, rfl⟩
      have e : arnd (h.1 (a + 1)) (fro (h.1 (a + 1)) n m (bt i) k) n &&& (m &&& (bl (h.1 (a + 1)) n m (bt i) k ^^^ (-1))) = fro (h.1 (a + 1)) n m (bt i) (k + 1) := rfl
      rw [e]
      refine c_X3_sumOver_41 RO_rm hcs0 (s_bitCount (d := d)) ?_
      rintro y g ⟨rfl, rfl⟩
      refine c_X3_sumOver_54 ?_
      rw [nI_1, bl_fro, ec2, pk_mul, nI_add]
      exact q
theorem s_sumOf {i : Nat} (hA0 : 91 ≤ nx) (hF : Fx h) (hp : NP h a n) (hi : i < n) : Mk X (d + 2) m_X3_sumOf [.ref a, .int (nI i)] h nx sz (RE (nI (sumD (h.1 (a + 1)) n (full n) (full n) i)) h) := by
  obtain ⟨hn, h0, h1, h2, h20⟩ := id hp
  refine Mk.re fun Q hq => e_X3_sumOf (c_X3_sumOf_0 hA0 hn RO_rm hcs0 (P10 := fun y g => y = nI (sumD (h.1 (a + 1)) n (full n) (full n) i) ∧ h = g) ?_ ?_)
  · rw [h1]
    exact s_sumOver (d := d) hA0 hF hp hi (fun j hj => by rw [tb_full (n := n) (by omega)] at hj; simpa using hj)
  · rintro y g ⟨rfl, rfl⟩
    exact c_X3_sumOf_13 hq
theorem s_sums (hA0 : 91 ≤ nx) (hF : Fx h) (hp : NP h a n) : Mk X (d + 3) m_X3_sums [.ref a] h nx sz (RE (nI (sm (fun i => sumD (h.1 (a + 1)) n (full n) (full n) i) n)) h) := by
  obtain ⟨hn, h0, h1, h2, h20⟩ := id hp
  refine Mk.re fun Q hq => e_X3_sums (c_X3_sums_0 ?_)
  refine down_ind (N := n) (P := fun i => VM X m_X3_sums (d + 3) nx sz Q 4 [some (.ref a), some (.int (nI (sm (fun i => sumD (h.1 (a + 1)) n (full n) (full n) i) i))), some (.int (nI i))] [] h) ?_ (fun i hi q => ?_)
  · exact c_X3_sums_4 (P15 := fun _ _ => False) hA0 hn RO_rm hcs0 (fun _ => hq) (fun c => absurd (by rw [h0]; exact Int32.le_refl _) c) (fun c => absurd (by rw [h0]; exact Int32.le_refl _) c)
  · refine c_X3_sums_4 hA0 hn RO_rm hcs0 (fun c => ?_) (fun _ => s_sumOf (d := d) hA0 hF hp hi) ?_
    · rw [h0, le_nI (by omega) (by omega)] at c
      omega
    · rintro _ y g ⟨rfl, rfl⟩
      refine c_X3_sums_18 ?_
      rw [nI_1, nI_add]
      exact q
/-- the greatest of the first n -/
def mxN (f : Nat → Nat) : Nat → Nat
  | 0 => 0
  | n + 1 => if mxN f n < f n then f n else mxN f n
theorem rds_le {K : Nat → Int32} {n : Nat} {f : Int32} : rds K n f ≤ n := by
  unfold rds
  cases hq : fstp (fun k => decide (bl K n (full n) f (k + 1) = bl K n (full n) f k)) 0 n with
  | none => exact Nat.le_refl _
  | some k =>
    have := (fstp_spec hq).2.1
    show k ≤ n
    omega
theorem mxN_le {f : Nat → Nat} {c : Nat} : ∀ {n : Nat}, (∀ i, i < n → f i ≤ c) → mxN f n ≤ c
  | 0, _ => Nat.zero_le _
  | n + 1, h => by
    unfold mxN
    split
    · exact h n (by omega)
    · exact mxN_le (n := n) (fun i hi => h i (by omega))
theorem s_widest (hA0 : 91 ≤ nx) (hF : Fx h) (hp : NP h a n) : Mk X (d + 2) m_X3_widest [.ref a] h nx sz (RE (nI (mxN (fun i => rds (h.1 (a + 1)) n (bt i)) n)) h) := by
  obtain ⟨hn, h0, h1, h2, h20⟩ := id hp
  refine Mk.re fun Q hq => e_X3_widest (c_X3_widest_0 ?_)
  refine down_ind (N := n) (P := fun i => VM X m_X3_widest (d + 2) nx sz Q 4 [some (.ref a), some (.int (nI (mxN (fun i => rds (h.1 (a + 1)) n (bt i)) i))), some (.int (nI i))] [] h) ?_ (fun i hi q => ?_)
  · exact c_X3_widest_4 (P17 := fun _ _ => False) hA0 hn RO_rm hcs0 (fun _ => hq) (fun c => absurd (by rw [h0]; exact Int32.le_refl _) c) (fun c => absurd (by rw [h0]; exact Int32.le_refl _) c)
  · refine c_X3_widest_4 hA0 hn RO_rm hcs0 (fun c => ?_) (fun _ => s_roundsFrom (d := d) hA0 hF hp) ?_
    · rw [h0, le_nI (by omega) (by omega)] at c
      omega
    · rintro _ y g ⟨rfl, rfl⟩
      refine c_X3_widest_20 RO_rm hcs0 ?_
      rw [nI_1, bt_toInt32]
      have b1 : mxN (fun i => rds (h.1 (a + 1)) n (bt i)) i ≤ n := mxN_le (fun i _ => rds_le)
      have b2 := rds_le (K := h.1 (a + 1)) (n := n) (f := bt i)
      have e : (if nI (mxN (fun i => rds (h.1 (a + 1)) n (bt i)) i) < nI (rds (h.1 (a + 1)) n (bt i)) then nI (rds (h.1 (a + 1)) n (bt i)) else nI (mxN (fun i => rds (h.1 (a + 1)) n (bt i)) i)) = nI (mxN (fun i => rds (h.1 (a + 1)) n (bt i)) (i + 1)) := by
        show _ = nI (if _ < _ then _ else _)
        by_cases hlt : mxN (fun i => rds (h.1 (a + 1)) n (bt i)) i < rds (h.1 (a + 1)) n (bt i)
        · rw [if_pos hlt, if_pos ((nI_ltI (by omega) (by omega)).mpr hlt)]
        · rw [if_neg hlt, if_neg (fun z => hlt ((nI_ltI (by omega) (by omega)).mp z))]
      rw [e]
      exact q
end NET

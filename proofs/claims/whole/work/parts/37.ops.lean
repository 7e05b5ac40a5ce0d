/-! rings -/
theorem pos_nI {x : Int32} (h1 : ¬ x ≤ 0) : ∃ m, 0 < m ∧ m < 2 ^ 31 ∧ x = nI m := by
  have h1 := Int32.not_le.mp h1
  rw [Int32.lt_iff_toInt_lt] at h1
  have h0 : (0 : Int32).toInt = 0 := by decide
  have := x.toInt_lt
  refine ⟨x.toInt.toNat, by omega, by omega, ?_⟩
  apply Int32.toInt_inj.mp
  rw [nI_toInt (by omega)]
  omega
theorem md {x n : Nat} (h : x < n + n) : (x < n ∧ x % n = x) ∨ (n ≤ x ∧ x % n = x - n) := by
  by_cases c : x < n
  · exact Or.inl ⟨c, Nat.mod_eq_of_lt c⟩
  · refine Or.inr ⟨by omega, ?_⟩
    rw [Nat.mod_eq_sub_mod (by omega), Nat.mod_eq_of_lt (by omega)]
def rrF (n : Nat) (J : Int32) (p : Nat) : Nat → Int32
  | 0 => 0
  | k + 1 => if tb J k = true then (rrF n J p k ||| bt ((p + (k + 1)) % n)) ||| bt ((p + n - (k + 1)) % n) else rrF n J p k
def rM (n : Nat) : Nat := min 10 (n - 1)
def rK (n : Nat) (J : Int32) : Nat → Int32 := fun p => rrF n J p (rM n)
def okj (n j : Nat) : Prop := 0 < j ∧ j < 2 ^ (min 10 (n / 2))
theorem tb_rrF {n : Nat} {J : Int32} {p b : Nat} (h0 : 0 < n) (hn : n ≤ 20) : ∀ {m : Nat}, tb (rrF n J p m) b = true ↔ ∃ k, k < m ∧ tb J k = true ∧ (b = (p + (k + 1)) % n ∨ b = (p + n - (k + 1)) % n)
  | 0 => by simp [rrF, tb_0]
  | m + 1 => by
    have ih := tb_rrF (J := J) (p := p) (b := b) h0 hn (m := m)
    have m1 := Nat.mod_lt (p + (m + 1)) h0
    have m2 := Nat.mod_lt (p + n - (m + 1)) h0
    unfold rrF
    constructor
    · intro h
      split at h
      next c =>
        rw [tb_or, tb_or, Bool.or_eq_true, Bool.or_eq_true, tb_bt (by omega), tb_bt (by omega)] at h
        rcases h with (h | h) | h
        · obtain ⟨k, h1, h2⟩ := ih.mp h
          exact ⟨k, by omega, h2⟩
        · exact ⟨m, by omega, c, Or.inl (by simpa using Eq.symm (of_decide_eq_true h))⟩
        · exact ⟨m, by omega, c, Or.inr (by simpa using Eq.symm (of_decide_eq_true h))⟩
      next c =>
        obtain ⟨k, h1, h2⟩ := ih.mp h
        exact ⟨k, by omega, h2⟩
    · rintro ⟨k, h1, h2, h3⟩
      by_cases e : k = m
      · subst e
        rw [if_pos h2, tb_or, tb_or, tb_bt (by omega), tb_bt (by omega)]
        rcases h3 with h3 | h3 <;> rw [h3] <;> simp
      · have := ih.mpr ⟨k, by omega, h2, h3⟩
        split
        · rw [tb_or, tb_or, this]
          simp
        · exact this
theorem okj_tb {n j k : Nat} (hn : n ≤ 20) (h : okj n j) (hk : tb (nI j) k = true) : k + 1 ≤ n / 2 ∧ k < 10 := by
  obtain ⟨h1, h2⟩ := h
  have hp : 2 ^ (min 10 (n / 2)) ≤ 2 ^ 10 := Nat.pow_le_pow_right (by decide) (by omega)
  have h10 : (2 : Nat) ^ 10 = 1024 := by decide
  have hu : u (nI j) < 2 ^ (min 10 (n / 2)) := by rw [u_nI (by omega)]; exact h2
  have : ¬ min 10 (n / 2) ≤ k := fun z => by
    rw [u_tb.mpr hu k z] at hk
    cases hk
  omega
def roF (n : Nat) (J : Int32) : Nat → Int32
  | 0 => 0
  | k + 1 => if tb J k = true then roF n J k ||| (bt ((k + 1) % n) ||| bt (n - (k + 1))) else roF n J k
theorem tb_roF {n j b : Nat} (hn : n ≤ 20) (ok : okj n j) : ∀ {m : Nat}, tb (roF n (nI j) m) b = true ↔ ∃ k, k < m ∧ tb (nI j) k = true ∧ (b = k + 1 ∨ b = n - (k + 1))
  | 0 => by simp [roF, tb_0]
  | m + 1 => by
    have ih := tb_roF (b := b) hn ok (m := m)
    unfold roF
    constructor
    · intro h
      split at h
      next c =>
        obtain ⟨o1, o2⟩ := okj_tb hn ok c
        rw [tb_or, tb_or, Bool.or_eq_true, Bool.or_eq_true, Nat.mod_eq_of_lt (by omega), tb_bt (by omega), tb_bt (by omega)] at h
        rcases h with h | h | h
        · obtain ⟨k, h1, h2⟩ := ih.mp h
          exact ⟨k, by omega, h2⟩
        · exact ⟨m, by omega, c, Or.inl (by simpa using Eq.symm (of_decide_eq_true h))⟩
        · exact ⟨m, by omega, c, Or.inr (by simpa using Eq.symm (of_decide_eq_true h))⟩
      next c =>
        obtain ⟨k, h1, h2⟩ := ih.mp h
        exact ⟨k, by omega, h2⟩
    · rintro ⟨k, h1, h2, h3⟩
      by_cases e : k = m
      · subst e
        obtain ⟨o1, o2⟩ := okj_tb hn ok h2
        rw [if_pos h2, tb_or, tb_or, Nat.mod_eq_of_lt (by omega), tb_bt (by omega), tb_bt (by omega)]
        rcases h3 with h3 | h3 <;> rw [h3] <;> simp
      · have := ih.mpr ⟨k, by omega, h2, h3⟩
        split
        · rw [tb_or, tb_or, this]
          simp
        · exact this
def lrF (n : Nat) (B : Int32) (p : Nat) : Nat → Int32
  | 0 => 0
  | m + 1 => if tb B (m + 1) = true then lrF n B p m ||| bt ((p + (m + 1)) % n) else lrF n B p m
theorem tb_lrF {n : Nat} {B : Int32} {p b : Nat} (h0 : 0 < n) (hn : n ≤ 20) : ∀ {m : Nat}, tb (lrF n B p m) b = true ↔ ∃ k, k < m ∧ tb B (k + 1) = true ∧ b = (p + (k + 1)) % n
  | 0 => by simp [lrF, tb_0]
  | m + 1 => by
    have ih := tb_lrF (B := B) (p := p) (b := b) h0 hn (m := m)
    have m1 := Nat.mod_lt (p + (m + 1)) h0
    unfold lrF
    constructor
    · intro h
      split at h
      next c =>
        rw [tb_or, Bool.or_eq_true, tb_bt (by omega)] at h
        rcases h with h | h
        · obtain ⟨k, h1, h2⟩ := ih.mp h
          exact ⟨k, by omega, h2⟩
        · exact ⟨m, by omega, c, by simpa using Eq.symm (of_decide_eq_true h)⟩
      next c =>
        obtain ⟨k, h1, h2⟩ := ih.mp h
        exact ⟨k, by omega, h2⟩
    · rintro ⟨k, h1, h2, h3⟩
      by_cases e : k = m
      · subst e
        rw [if_pos h2, tb_or, tb_bt (by omega), h3]
        simp
      · have := ih.mpr ⟨k, by omega, h2, h3⟩
        split
        · rw [tb_or, this]
          simp
        · exact this
theorem lr_rr {n j p : Nat} (h2 : 2 ≤ n) (hn : n ≤ 20) (ok : okj n j) : lrF n (roF n (nI j) 10) p (n - 1) = rK n (nI j) p := by
  apply tb_ext
  intro b _
  rw [Bool.eq_iff_iff, tb_lrF (by omega) hn]
  unfold rK
  rw [tb_rrF (by omega) hn]
  constructor
  · rintro ⟨m, h3, h4, h5⟩
    obtain ⟨k, k1, k2, k3⟩ := (tb_roF hn ok).mp h4
    obtain ⟨o1, o2⟩ := okj_tb hn ok k2
    refine ⟨k, by unfold rM; omega, k2, ?_⟩
    rcases k3 with k3 | k3
    · refine Or.inl ?_
      rw [h5, show p + (m + 1) = p + (k + 1) by omega]
    · refine Or.inr ?_
      rw [h5, show p + (m + 1) = p + n - (k + 1) by omega]
  · rintro ⟨k, k1, k2, k3⟩
    obtain ⟨o1, o2⟩ := okj_tb hn ok k2
    rcases k3 with k3 | k3
    · exact ⟨k, by omega, (tb_roF hn ok).mpr ⟨k, o2, k2, Or.inl rfl⟩, k3⟩
    · refine ⟨n - (k + 1) - 1, by omega, (tb_roF hn ok).mpr ⟨k, o2, k2, Or.inr (by omega)⟩, ?_⟩
      rw [k3, show p + (n - (k + 1) - 1 + 1) = p + n - (k + 1) by omega]
theorem sm_split {f : Nat → Nat} {a : Nat} : ∀ {b : Nat}, sm f (a + b) = sm f a + sm (fun i => f (a + i)) b
  | 0 => rfl
  | b + 1 => by
    show sm f (a + b) + f (a + b) = sm f a + (sm (fun i => f (a + i)) b + f (a + b))
    rw [sm_split (b := b)]
    omega
theorem sm_rot {f : Nat → Nat} {n s : Nat} (hs : s ≤ n) (h0 : 0 < n) : sm (fun b => f ((b + s) % n)) n = sm f n := by
  have e1 : sm (fun b => f ((b + s) % n)) ((n - s) + s) = _ := sm_split
  have e2 : sm f (s + (n - s)) = _ := sm_split
  rw [show n - s + s = n by omega] at e1
  rw [show s + (n - s) = n by omega] at e2
  rw [e1, e2]
  have a1 : sm (fun b => f ((b + s) % n)) (n - s) = sm (fun i => f (s + i)) (n - s) := sm_cong fun i hi => by
    show f ((i + s) % n) = f (s + i)
    rw [Nat.mod_eq_of_lt (by omega), Nat.add_comm]
  have a2 : sm (fun i => f ((n - s + i + s) % n)) s = sm f s := sm_cong fun i hi => by
    show f ((n - s + i + s) % n) = f i
    rw [show n - s + i + s = n + i by omega, Nat.add_mod_left, Nat.mod_eq_of_lt (by omega)]
  rw [a1, a2]
  omega
theorem rK_tb {n j p b : Nat} (h2 : 2 ≤ n) (hn : n ≤ 20) (ok : okj n j) (hp : p < n) (hb : b < n) : tb (rK n (nI j) p) b = tb (roF n (nI j) 10) ((b + (n - p)) % n) := by
  unfold rK
  rw [Bool.eq_iff_iff, tb_rrF (by omega) hn, tb_roF hn ok]
  constructor
  · rintro ⟨k, k1, k2, k3⟩
    obtain ⟨o1, o2⟩ := okj_tb hn ok k2
    refine ⟨k, o2, k2, ?_⟩
    have m1 := md (x := p + (k + 1)) (n := n) (by omega)
    have m2 := md (x := p + n - (k + 1)) (n := n) (by omega)
    have m3 := md (x := b + (n - p)) (n := n) (by omega)
    rcases k3 with k3 | k3 <;> rcases m1 with ⟨_, m1⟩ | ⟨_, m1⟩ <;> rcases m2 with ⟨_, m2⟩ | ⟨_, m2⟩ <;> rcases m3 with ⟨_, m3⟩ | ⟨_, m3⟩ <;> rw [m3] <;> (first | rw [m1] at k3 | rw [m2] at k3) <;> omega
  · rintro ⟨k, k1, k2, k3⟩
    obtain ⟨o1, o2⟩ := okj_tb hn ok k2
    refine ⟨k, by unfold rM; omega, k2, ?_⟩
    have m1 := md (x := p + (k + 1)) (n := n) (by omega)
    have m2 := md (x := p + n - (k + 1)) (n := n) (by omega)
    have m3 := md (x := b + (n - p)) (n := n) (by omega)
    rcases m1 with ⟨_, m1⟩ | ⟨_, m1⟩ <;> rcases m2 with ⟨_, m2⟩ | ⟨_, m2⟩ <;> rcases m3 with ⟨_, m3⟩ | ⟨_, m3⟩ <;> rw [m3] at k3 <;> rw [m1, m2] <;> omega
theorem rK_lt {n j p b : Nat} (h2 : 2 ≤ n) (hn : n ≤ 20) (h : tb (rK n (nI j) p) b = true) : b < n := by
  obtain ⟨k, -, -, h3⟩ := (tb_rrF (by omega) hn).mp h
  have m1 := Nat.mod_lt (p + (k + 1)) (show 0 < n by omega)
  have m2 := Nat.mod_lt (p + n - (k + 1)) (show 0 < n by omega)
  omega
theorem roF_lt {n j b m : Nat} (hn : n ≤ 20) (ok : okj n j) (h : tb (roF n (nI j) m) b = true) : b < n := by
  obtain ⟨k, -, h2, h3⟩ := (tb_roF hn ok).mp h
  obtain ⟨o1, o2⟩ := okj_tb hn ok h2
  omega
theorem rK_cnt {n j p : Nat} (h2 : 2 ≤ n) (hn : n ≤ 20) (ok : okj n j) (hp : p < n) : bc (rK n (nI j) p) = bc (roF n (nI j) 10) := by
  rw [bc_cnt, bc_cnt, cnt_32 (n := n) (by omega) (fun b hb => rK_lt h2 hn hb), cnt_32 (n := n) (by omega) (fun b hb => roF_lt hn ok hb), cnt_sm, cnt_sm]
  congr 1
  rw [← sm_rot (f := fun i => if tb (roF n (nI j) 10) i = true then 1 else 0) (s := n - p) (by omega) (by omega)]
  refine sm_cong fun b hb => ?_
  rw [rK_tb h2 hn ok hp hb]
theorem rK_gr {n j : Nat} {K : Nat → Int32} (h2 : 2 ≤ n) (hn : n ≤ 20) (ok : okj n j) (hg : ∀ p b, n ≤ p → tb (K p) b = false) : Gr n (upto n (rK n (nI j)) K) := by
  intro p b h
  unfold upto at h
  split at h
  next hp =>
    have hb := rK_lt h2 hn h
    obtain ⟨k, -, k2, h3⟩ := (tb_rrF (by omega) hn).mp h
    obtain ⟨o1, o2⟩ := okj_tb hn ok k2
    have m1 := md (x := p + (k + 1)) (n := n) (by omega)
    have m2 := md (x := p + n - (k + 1)) (n := n) (by omega)
    refine ⟨hp, hb, ?_, ?_⟩
    · rcases h3 with h3 | h3 <;> rcases m1 with ⟨_, m1⟩ | ⟨_, m1⟩ <;> rcases m2 with ⟨_, m2⟩ | ⟨_, m2⟩ <;> first | (rw [m1] at h3; omega) | (rw [m2] at h3; omega)
    · unfold upto
      rw [if_pos hb]
      refine (tb_rrF (by omega) hn).mpr ⟨k, by unfold rM; omega, k2, ?_⟩
      have m3 := md (x := b + (k + 1)) (n := n) (by omega)
      have m4 := md (x := b + n - (k + 1)) (n := n) (by omega)
      rcases h3 with h3 | h3 <;> rcases m1 with ⟨_, m1⟩ | ⟨_, m1⟩ <;> rcases m2 with ⟨_, m2⟩ | ⟨_, m2⟩ <;> rcases m3 with ⟨_, m3⟩ | ⟨_, m3⟩ <;> rcases m4 with ⟨_, m4⟩ | ⟨_, m4⟩ <;> rw [m3, m4] <;> (first | rw [m1] at h3 | rw [m2] at h3) <;> omega
  next hp =>
    rw [hg p b (by omega)] at h
    cases h
theorem Gr.out {n : Nat} {K : Nat → Int32} (hg : Gr n K) (p b : Nat) (hp : n ≤ p) : tb (K p) b = false := by
  cases hq : tb (K p) b with
  | false => rfl
  | true =>
    have := (hg p b hq).1
    omega
theorem arnd_cong {K K' : Nat → Int32} {s : Int32} : ∀ {n : Nat}, (∀ i, i < n → K i = K' i) → arnd K s n = arnd K' s n
  | 0, _ => rfl
  | n + 1, h => by
    unfold arnd
    rw [arnd_cong (n := n) (fun i hi => h i (by omega)), h n (by omega)]
theorem bl_cong {K K' : Nat → Int32} {n : Nat} {m f : Int32} (h : ∀ i, i < n → K i = K' i) : ∀ k, bl K n m f k = bl K' n m f k
  | 0 => rfl
  | k + 1 => by
    show bl K n m f k ||| (arnd K (bl K n m f k) n &&& m) = bl K' n m f k ||| (arnd K' (bl K' n m f k) n &&& m)
    rw [bl_cong h k, arnd_cong h]
theorem dst_cong {K K' : Nat → Int32} {n : Nat} {m : Int32} (h : ∀ i, i < n → K i = K' i) (a b : Nat) : dst K n m a b = dst K' n m a b := by
  unfold dst
  congr 1
  funext k
  rw [bl_cong h]
theorem sumD_cong {K K' : Nat → Int32} {n : Nat} {m c : Int32} {a : Nat} (h : ∀ i, i < n → K i = K' i) : sumD K n m c a = sumD K' n m c a := by
  unfold sumD dstN
  refine sm_cong fun b _ => ?_
  rw [dst_cong h]
theorem sumD_all {K : Nat → Int32} {n a : Nat} (hK : KB K n) (hn : n ≤ 20) : sm (fun b => dstN K n (-1) a b) n = sumD K n (full n) (full n) a := by
  unfold sumD
  refine sm_cong fun b hb => ?_
  rw [tb_full (by omega)]
  simp only [hb, decide_true, if_true]
  unfold dstN
  rw [dst_mask hK (fun j hj => tb_m1f (n := n) (by omega) hj)]
def rsum (n j : Nat) : Nat := sumD (rK n (nI j)) n (full n) (full n) 0

/-! ways of k steps at most -/
section WLK
variable {K : Nat → Int32} {n : Nat} {m : Int32}
theorem bt_eq {a j : Nat} (ha : a < 32) (h : tb (bt a) j = true) : a = j := by
  rw [tb_bt ha] at h
  simpa using h
theorem bt_only {a n : Nat} (ha : a < n) (hn : n ≤ 20) (j : Nat) (h : tb (bt a) j = true) : j < n := by
  have := bt_eq (by omega) h
  omega
/-- b is come to from a in k steps at most, over those of m -/
def Wk (K : Nat → Int32) (n : Nat) (m : Int32) (k a b : Nat) : Prop := tb (bl K n m (bt a) k) b = true
theorem W_0 {a b : Nat} (ha : a < 32) : Wk K n m 0 a b ↔ a = b := by
  show tb (bt a) b = true ↔ _
  rw [tb_bt ha]
  simp
theorem W_succ {k a b : Nat} : Wk K n m (k + 1) a b ↔ Wk K n m k a b ∨ (tb m b = true ∧ ∃ i, i < n ∧ Wk K n m k a i ∧ tb (K i) b = true) := tb_bl_succ
theorem W_self {k a : Nat} (ha : a < 32) : Wk K n m k a a := bl_mono (Nat.zero_le k) ((W_0 (K := K) (n := n) (m := m) ha).mpr rfl)
theorem W_mono {j k a b : Nat} (h : j ≤ k) (w : Wk K n m j a b) : Wk K n m k a b := bl_mono h w
theorem W_lt (hK : KB K n) {k a b : Nat} (ha : a < n) (hn : n ≤ 20) (w : Wk K n m k a b) : b < n :=
  bl_in hK (bt_only ha hn) k b w
theorem W_in {k a b : Nat} (ha : a < 32) (w : Wk K n m k a b) : b = a ∨ tb m b = true := by
  induction k with
  | zero => exact Or.inl ((W_0 ha).mp w).symm
  | succ k ih =>
    rcases W_succ.mp w with h | h
    · exact ih h
    · exact Or.inr h.1
theorem W_cons {a i : Nat} (ha : a < n) (hn : n ≤ 20) (h1 : tb (K a) i = true) (h2 : tb m i = true) : ∀ {k b : Nat}, i < 32 → Wk K n m k i b → Wk K n m (k + 1) a b := by
  intro k
  induction k with
  | zero =>
    intro b hi w
    have := (W_0 hi).mp w
    subst this
    exact W_succ.mpr (Or.inr ⟨h2, a, ha, W_self (by omega), h1⟩)
  | succ k ih =>
    intro b hi w
    rcases W_succ.mp w with h | ⟨h3, i', h4, h5, h6⟩
    · exact W_mono (Nat.le_succ _) (ih hi h)
    · exact W_succ.mpr (Or.inr ⟨h3, i', h4, ih hi h5, h6⟩)
theorem W_sym (hg : Gr n K) (hn : n ≤ 20) {a : Nat} (ha : a < n) (hm : tb m a = true) : ∀ {k b : Nat}, Wk K n m k a b → Wk K n m k b a := by
  intro k
  induction k with
  | zero =>
    intro b w
    have := (W_0 (by omega)).mp w
    subst this
    exact w
  | succ k ih =>
    intro b w
    rcases W_succ.mp w with h | ⟨h3, i, h4, h5, h6⟩
    · exact W_mono (Nat.le_succ _) (ih h)
    · obtain ⟨e1, e2, e3, e4⟩ := hg i b h6
      have hmi : tb m i = true := by
        rcases W_in (by omega) h5 with z | z
        · rw [z]
          exact hm
        · exact z
      exact W_cons e2 hn e4 hmi (by omega) (ih h5)
theorem W_trans {j a i : Nat} (w : Wk K n m j a i) : ∀ {k c : Nat}, i < 32 → Wk K n m k i c → Wk K n m (j + k) a c := by
  intro k
  induction k with
  | zero =>
    intro c hi w2
    have := (W_0 hi).mp w2
    subst this
    exact w
  | succ k ih =>
    intro c hi w2
    rcases W_succ.mp w2 with h | ⟨h3, i', h4, h5, h6⟩
    · exact W_mono (by omega) (ih hi h)
    · exact W_succ.mpr (Or.inr ⟨h3, i', h4, ih hi h5, h6⟩)
theorem W_split {j a : Nat} : ∀ {k c : Nat}, c < 32 → (∀ i, Wk K n m j a i → i < 32) → Wk K n m (j + k) a c → ∃ i, Wk K n m j a i ∧ Wk K n m k i c := by
  intro k
  induction k with
  | zero =>
    intro c hc _ w
    exact ⟨c, w, W_self hc⟩
  | succ k ih =>
    intro c hc hi w
    rcases W_succ.mp w with h | ⟨h3, i', h4, h5, h6⟩
    · obtain ⟨i, h1, h2⟩ := ih hc hi h
      exact ⟨i, h1, W_mono (Nat.le_succ _) h2⟩
    · have h32 : i' < 32 := by
        rcases Nat.lt_or_ge i' 32 with q | q
        · exact q
        · have h5 : tb _ i' = true := h5
          rw [tb_32 q] at h5
          cases h5
      obtain ⟨i, h1, h2⟩ := ih h32 hi h5
      exact ⟨i, h1, W_succ.mpr (Or.inr ⟨h3, i', h4, h2, h6⟩)⟩
theorem W_32 {k a b : Nat} (w : Wk K n m k a b) : b < 32 := by
  rcases Nat.lt_or_ge b 32 with q | q
  · exact q
  · have w : tb _ b = true := w
    rw [tb_32 q] at w
    cases w
theorem dst_iff {a b k : Nat} : dst K n m a b = some k ↔ k < n ∧ Wk K n m k a b ∧ ∀ j, j < k → ¬ Wk K n m j a b := by
  constructor
  · intro h
    obtain ⟨-, h2, h3, h4⟩ := fstp_spec h
    refine ⟨by omega, h3, fun j hj w => ?_⟩
    have := h4 j (Nat.zero_le _) hj
    rw [show tb (bl K n m (bt a) j) b = true from w] at this
    cases this
  · rintro ⟨h1, h2, h3⟩
    refine fstp_some (Nat.zero_le _) (by omega) h2 fun j _ hj => ?_
    cases hq : tb (bl K n m (bt a) j) b with
    | false => rfl
    | true => exact absurd hq (h3 j hj)
theorem dst_non {a b : Nat} : dst K n m a b = none ↔ ∀ j, j < n → ¬ Wk K n m j a b := by
  constructor
  · intro h j hj w
    have := fstp_spec0 h j (Nat.zero_le _) (by omega)
    rw [show tb (bl K n m (bt a) j) b = true from w] at this
    cases this
  · intro h
    refine fstp_none fun j _ hj => ?_
    cases hq : tb (bl K n m (bt a) j) b with
    | false => rfl
    | true => exact absurd hq (h j (by omega))
theorem dst_sym (hg : Gr n K) (hn : n ≤ 20) {a b : Nat} (ha : a < n) (hb : b < n) (hma : tb m a = true) (hmb : tb m b = true) : dst K n m a b = dst K n m b a := by
  unfold dst
  congr 1
  funext k
  rw [Bool.eq_iff_iff]
  exact ⟨fun w => W_sym hg hn ha hma w, fun w => W_sym hg hn hb hmb w⟩
/-- all that are come to from a -/
def rc (K : Nat → Int32) (n : Nat) (m : Int32) (a : Nat) : Int32 := bl K n m (bt a) (n - 1)
theorem rc_iff (hK : KB K n) (hn : n ≤ 20) {a b : Nat} (ha : a < n) : tb (rc K n m a) b = true ↔ ∃ k, Wk K n m k a b := by
  constructor
  · intro h
    exact ⟨_, h⟩
  · rintro ⟨k, w⟩
    rcases Nat.lt_or_ge k (n - 1) with c | c
    · exact W_mono (by omega) w
    · have e := bl_all (m := m) (f := bt a) hK (bt_only ha hn) c
      have w : tb (bl K n m (bt a) k) b = true := w
      rw [e] at w
      exact w
theorem rc_trans (hK : KB K n) (hn : n ≤ 20) {a b c : Nat} (ha : a < n) (hb : b < n) (h1 : tb (rc K n m a) b = true) (h2 : tb (rc K n m b) c = true) : tb (rc K n m a) c = true := by
  obtain ⟨j, w1⟩ := (rc_iff hK hn ha).mp h1
  obtain ⟨k, w2⟩ := (rc_iff hK hn hb).mp h2
  exact (rc_iff hK hn ha).mpr ⟨j + k, W_trans w1 (by omega) w2⟩
theorem rc_sym (hg : Gr n K) (hn : n ≤ 20) {a b : Nat} (ha : a < n) (hb : b < n) (hm : tb m a = true) (h : tb (rc K n m a) b = true) : tb (rc K n m b) a = true := by
  obtain ⟨k, w⟩ := (rc_iff hg.kb hn ha).mp h
  exact (rc_iff hg.kb hn hb).mpr ⟨k, W_sym hg hn ha hm w⟩
theorem rc_lt (hK : KB K n) (hn : n ≤ 20) {a b : Nat} (ha : a < n) (h : tb (rc K n m a) b = true) : b < n := W_lt hK ha hn h
theorem rc_self {a : Nat} (ha : a < 32) : tb (rc K n m a) a = true := W_self (K := K) (n := n) (m := m) (k := n - 1) ha
/-- the same part, seen from another of it -/
theorem rc_same (hg : Gr n K) (hn : n ≤ 20) {a b : Nat} (ha : a < n) (hb : b < n) (hma : tb m a = true) (hmb : tb m b = true) (h : tb (rc K n m a) b = true) : rc K n m a = rc K n m b := by
  apply tb_ext
  intro c _
  rw [Bool.eq_iff_iff]
  exact ⟨fun q => rc_trans hg.kb hn hb ha (rc_sym hg hn ha hb hma h) q, fun q => rc_trans hg.kb hn ha hb h q⟩
/-- less of m, fewer ways -/
theorem W_sub {m' : Int32} (hm : ∀ j, tb m' j = true → tb m j = true) {a : Nat} : ∀ {k b : Nat}, Wk K n m' k a b → Wk K n m k a b := by
  intro k
  induction k with
  | zero => intro b w; exact w
  | succ k ih =>
    intro b w
    rcases W_succ.mp w with h | ⟨h1, i, h2, h3, h4⟩
    · exact W_mono (Nat.le_succ _) (ih h)
    · exact W_succ.mpr (Or.inr ⟨hm b h1, i, h2, ih h3, h4⟩)
/-- one who isn't come to may be left out -/
theorem W_without {p a : Nat} {m' : Int32} (hm : ∀ j, tb m j = true → j ≠ p → tb m' j = true) : ∀ {k b : Nat}, ¬ Wk K n m k a p → Wk K n m k a b → Wk K n m' k a b := by
  intro k
  induction k with
  | zero => intro b _ w; exact w
  | succ k ih =>
    intro b hp w
    have hp0 : ¬ Wk K n m k a p := fun z => hp (W_mono (Nat.le_succ _) z)
    rcases W_succ.mp w with h | ⟨h1, i, h2, h3, h4⟩
    · exact W_mono (Nat.le_succ _) (ih hp0 h)
    · refine W_succ.mpr (Or.inr ⟨hm b h1 (fun e => hp ?_), i, h2, ih hp0 h3, h4⟩)
      rw [← e]
      exact w
end WLK

/-! how many shortest ways -/
section PTH
variable {K : Nat → Int32} {n : Nat}
/-- walks of just k steps -/
def Wn (K : Nat → Int32) (n a : Nat) : Nat → Nat → Nat
  | 0, b => if a = b then 1 else 0
  | k + 1, b => sm (fun c => if tb (K b) c = true then Wn K n a k c else 0) n
theorem sm_pos {f : Nat → Nat} : ∀ {n : Nat}, 0 < sm f n → ∃ i, i < n ∧ 0 < f i
  | 0, h => by cases h
  | n + 1, h => by
    have h : 0 < sm f n + f n := h
    by_cases c : 0 < f n
    · exact ⟨n, by omega, c⟩
    · obtain ⟨i, h1, h2⟩ := sm_pos (f := f) (n := n) (by omega)
      exact ⟨i, by omega, h2⟩
theorem sm_ge {f : Nat → Nat} {i : Nat} : ∀ {n : Nat}, i < n → f i ≤ sm f n
  | 0, h => by omega
  | n + 1, h => by
    show f i ≤ sm f n + f n
    by_cases e : i = n
    · rw [e]
      omega
    · have := sm_ge (f := f) (n := n) (i := i) (by omega)
      omega
theorem Wn_pos (hg : Gr n K) (hn : n ≤ 20) {a : Nat} (ha : a < n) : ∀ {k b : Nat}, b < n → (0 < Wn K n a k b → Wk K n (full n) k a b)
  | 0, b, hb, h => by
    unfold Wn at h
    split at h
    next e => exact (W_0 (by omega)).mpr e
    next => omega
  | k + 1, b, hb, h => by
    obtain ⟨c, h1, h2⟩ := sm_pos h
    split at h2
    next e =>
      have := Wn_pos hg hn ha h1 h2
      exact W_succ.mpr (Or.inr ⟨(tb_fulln hn).mpr hb, c, h1, this, (hg b c e).2.2.2⟩)
    next => omega
/-- one that isn't nearer has a walk of just so many steps -/
theorem Wn_of (hg : Gr n K) (hn : n ≤ 20) {a : Nat} (ha : a < n) : ∀ {k b : Nat}, Wk K n (full n) k a b → (∀ j, j < k → ¬ Wk K n (full n) j a b) → 0 < Wn K n a k b
  | 0, b, h, _ => by
    have := (W_0 (by omega)).mp h
    subst this
    show 0 < if a = a then 1 else 0
    rw [if_pos rfl]
    decide
  | k + 1, b, h, hno => by
    rcases W_succ.mp h with h | ⟨-, c, h1, h2, h3⟩
    · exact absurd h (hno k (by omega))
    · have hb := (hg c b h3).2.1
      have := Wn_of hg hn ha h2 fun j hj w => hno (j + 1) (by omega) (W_succ.mpr (Or.inr ⟨(tb_fulln hn).mpr hb, c, h1, w, h3⟩))
      have h4 := sm_ge (f := fun c => if tb (K b) c = true then Wn K n a k c else 0) h1
      rw [if_pos (hg c b h3).2.2.2] at h4
      exact Nat.lt_of_lt_of_le this h4
theorem dst_Wn (hg : Gr n K) (hn : n ≤ 20) {a b k : Nat} (ha : a < n) (h : dst K n (full n) a b = some k) : 0 < Wn K n a k b := by
  obtain ⟨h1, h2, h3⟩ := dst_iff.mp h
  exact Wn_of hg hn ha h2 h3
/-- the way in, level by level -/
theorem Wn_level (hg : Gr n K) (hn : n ≤ 20) {a b k : Nat} (ha : a < n) (hb : b < n) (h : dst K n (full n) a b = some (k + 1)) : Wn K n a (k + 1) b = sm (fun c => if dst K n (full n) a c = some k ∧ tb (K b) c = true then Wn K n a k c else 0) n := by
  obtain ⟨h1, h2, h3⟩ := dst_iff.mp h
  refine sm_cong fun c hc => ?_
  by_cases e : tb (K b) c = true
  · rw [if_pos e]
    by_cases e2 : dst K n (full n) a c = some k
    · rw [if_pos ⟨e2, e⟩]
    · rw [if_neg (fun z => e2 z.1)]
      refine Classical.byContradiction fun z => e2 (dst_iff.mpr ⟨by omega, Wn_pos hg hn ha hc (by omega), fun j hj w => h3 (j + 1) (by omega) ?_⟩)
      exact W_succ.mpr (Or.inr ⟨(tb_fulln hn).mpr hb, c, hc, w, (hg b c e).2.2.2⟩)
  · rw [if_neg e, if_neg (fun z => e z.2)]
theorem sm_if_mul {P : Prop} [Decidable P] {f : Nat → Nat} {x m : Nat} : (if P then sm f m else 0) * x = sm (fun k => if P then f k * x else 0) m := by
  by_cases c : P
  · simp only [c, if_true]
    rw [Nat.mul_comm, ← sm_mul]
    exact sm_cong fun i _ => Nat.mul_comm _ _
  · simp only [c, if_false, Nat.zero_mul]
    exact (sm_zero fun _ _ => rfl).symm
theorem sm_one {f : Nat → Nat} {i n : Nat} (hi : i < n) (h : ∀ j, j < n → j ≠ i → f j = 0) : sm f n = f i := by
  have : sm f n = sm (fun j => if j = i then f i else 0) n := sm_cong fun j hj => by
    by_cases e : j = i
    · rw [e, if_pos rfl]
    · rw [if_neg e, h j hj e]
  rw [this]
  clear this h
  induction n with
  | zero => omega
  | succ n ih =>
    show sm (fun j => if j = i then f i else 0) n + (if n = i then f i else 0) = f i
    by_cases e : n = i
    · subst e
      rw [if_pos rfl, sm_zero (fun j hj => if_neg (by omega)), Nat.zero_add]
    · rw [if_neg e, ih (by omega), Nat.add_zero]
/-- by way of the one at step j -/
theorem Wn_add (hn : n ≤ 20) {a : Nat} (ha : a < n) {j : Nat} : ∀ {k b : Nat}, b < n → Wn K n a (j + k) b = sm (fun c => Wn K n a j c * Wn K n c k b) n
  | 0, b, hb => by
    rw [sm_one hb (fun c _ e => by show _ * (if c = b then 1 else 0) = 0; rw [if_neg e, Nat.mul_zero])]
    show Wn K n a j b = Wn K n a j b * (if b = b then 1 else 0)
    rw [if_pos rfl, Nat.mul_one]
  | k + 1, b, hb => by
    show sm (fun e => if tb (K b) e = true then Wn K n a (j + k) e else 0) n = _
    have e1 : sm (fun e => if tb (K b) e = true then Wn K n a (j + k) e else 0) n = sm (fun e => sm (fun c => if tb (K b) e = true then Wn K n a j c * Wn K n c k e else 0) n) n := sm_cong fun e he => by
      rw [Wn_add hn ha he, sm_if]
    rw [e1, sm_comm]
    refine sm_cong fun c _ => ?_
    show _ = Wn K n a j c * sm (fun e => if tb (K b) e = true then Wn K n c k e else 0) n
    rw [← sm_mul]
    refine sm_cong fun e _ => ?_
    split
    · rfl
    · rw [Nat.mul_zero]
theorem Wn_one {a b : Nat} (ha : a < n) : Wn K n a 1 b = if tb (K b) a = true then 1 else 0 := by
  show sm (fun c => if tb (K b) c = true then (if a = c then 1 else 0) else 0) n = _
  rw [sm_one ha (fun c _ e => by rw [if_neg (Ne.symm e)]; split <;> rfl), if_pos rfl]
theorem Wn_sym (hg : Gr n K) (hn : n ≤ 20) : ∀ {k a b : Nat}, a < n → b < n → Wn K n a k b = Wn K n b k a
  | 0, a, b, _, _ => by
    show (if a = b then 1 else 0) = (if b = a then 1 else 0)
    by_cases e : a = b
    · rw [if_pos e, if_pos e.symm]
    · rw [if_neg e, if_neg (Ne.symm e)]
  | k + 1, a, b, ha, hb => by
    have e1 : Wn K n b (1 + k) a = _ := Wn_add hn hb ha
    rw [show k + 1 = 1 + k by omega, e1]
    rw [show 1 + k = k + 1 by omega]
    show sm (fun c => if tb (K b) c = true then Wn K n a k c else 0) n = _
    refine sm_cong fun c hc => ?_
    rw [Wn_one hb, Wn_sym hg hn ha hc, tb_sym hg c b]
    split
    · rw [Nat.one_mul]
    · rw [Nat.zero_mul]
theorem Wn_le (hn : n ≤ 20) (hd : ∀ b, b < n → cnt (K b) n ≤ 9) {a : Nat} : ∀ {k b : Nat}, b < n → Wn K n a k b ≤ 9 ^ k
  | 0, b, _ => by
    show (if a = b then 1 else 0) ≤ 1
    split <;> omega
  | k + 1, b, hb => by
    have h1 : Wn K n a (k + 1) b ≤ sm (fun c => 9 ^ k * (if tb (K b) c = true then 1 else 0)) n := sm_mono fun c hc => by
      have := Wn_le hn hd (a := a) (k := k) hc
      split <;> omega
    rw [sm_mul, ← cnt_sm] at h1
    have h2 := Nat.mul_le_mul_left (9 ^ k) (hd b hb)
    rw [Nat.pow_succ]
    omega
/-- all by way of p: nobody else at p's step -/
theorem Wn_all (hg : Gr n K) (hn : n ≤ 20) {a b p j k : Nat} (ha : a < n) (hb : b < n) (hp : p < n) : Wn K n a j p * Wn K n p k b = Wn K n a (j + k) b ↔ ∀ c, c < n → c ≠ p → Wn K n a j c * Wn K n c k b = 0 := by
  rw [Wn_add hn ha hb]
  constructor
  · intro h c hc hcp
    refine Classical.byContradiction fun z => ?_
    have := sm_lt (f := fun i => if i = p then Wn K n a j p * Wn K n p k b else 0) (g := fun c => Wn K n a j c * Wn K n c k b) (j := c) (n := n) (fun i _ => by
      by_cases e : i = p
      · subst e
        rw [if_pos rfl]
        exact Nat.le_refl _
      · rw [if_neg e]
        exact Nat.zero_le _) hc (by
      rw [if_neg hcp]
      omega)
    rw [sm_one hp (fun i _ e => if_neg e), if_pos rfl] at this
    omega
  · intro h
    exact (sm_one hp (fun c hc e => h c hc e)).symm
theorem Wn_prod_le (hn : n ≤ 20) {a b p j k : Nat} (ha : a < n) (hb : b < n) (hp : p < n) : Wn K n a j p * Wn K n p k b ≤ Wn K n a (j + k) b := by
  rw [Wn_add hn ha hb]
  exact sm_ge (f := fun c => Wn K n a j c * Wn K n c k b) hp
/-- to one at that step, past p -/
theorem W_past (hn : n ≤ 20) {a p c : Nat} (hp : p < n) (ha : a < n) : ∀ {j : Nat}, (∀ i, i < j → ¬ Wk K n (full n) i a p) → c ≠ p → Wk K n (full n) j a c → Wk K n (full n &&& (bt p ^^^ (-1))) j a c
  | 0, _, _, w => w
  | j + 1, hno, hc, w => by
    have hm : ∀ i, tb (full n) i = true → i ≠ p → tb (full n &&& (bt p ^^^ (-1))) i = true := fun i h1 h2 => (tb_wo hn hp).mpr ⟨(tb_fulln hn).mp h1, h2⟩
    rcases W_succ.mp w with w | ⟨h1, i, h2, h3, h4⟩
    · exact W_mono (Nat.le_succ _) (W_without hm (hno j (by omega)) w)
    · exact W_succ.mpr (Or.inr ⟨hm c h1 hc, i, h2, W_without hm (hno j (by omega)) h3, h4⟩)
/-- p is on every shortest way: by numbers, and by distances without it -/
theorem on_all (hg : Gr n K) (hn : n ≤ 20) {a b p j k : Nat} (ha : a < n) (hb : b < n) (hp : p < n) (hpa : p ≠ a) (hpb : p ≠ b) (h1 : dst K n (full n) a p = some j) (h2 : dst K n (full n) b p = some k) (h3 : dst K n (full n) a b = some (j + k)) : Wn K n a j p * Wn K n b k p = Wn K n a (j + k) b ↔ dst K n (full n &&& (bt p ^^^ (-1))) a b ≠ some (j + k) := by
  obtain ⟨i1, i2, i3⟩ := dst_iff.mp h1
  obtain ⟨k1, k2, k3⟩ := dst_iff.mp h2
  obtain ⟨l1, l2, l3⟩ := dst_iff.mp h3
  have hmw : tb (full n &&& (bt p ^^^ (-1))) b = true := (tb_wo hn hp).mpr ⟨hb, Ne.symm hpb⟩
  rw [Wn_sym hg hn hb hp, Wn_all hg hn ha hb hp]
  constructor
  · intro h e
    obtain ⟨-, e2, -⟩ := dst_iff.mp e
    obtain ⟨c, c1, c2⟩ := W_split (by omega) (fun i w => W_32 w) e2
    have hcp : c ≠ p := by
      rcases W_in (by omega) c1 with z | z
      · rw [z]; exact Ne.symm hpa
      · exact ((tb_wo hn hp).mp z).2
    have hsub : ∀ i, tb (full n &&& (bt p ^^^ (-1))) i = true → tb (full n) i = true := fun i hi => (tb_fulln hn).mpr ((tb_wo hn hp).mp hi).1
    have f1 := W_sub hsub c1
    have f2 := W_sub hsub c2
    have hc := W_lt hg.kb ha hn f1
    have p1 : 0 < Wn K n a j c := Wn_of hg hn ha f1 fun i hi w => l3 (i + k) (by omega) (W_trans w (by omega) f2)
    have p2 : 0 < Wn K n c k b := Wn_of hg hn hc f2 fun i hi w => l3 (j + i) (by omega) (W_trans f1 (by omega) w)
    have := h c hc hcp
    have := Nat.mul_pos p1 p2
    omega
  · intro e c hc hcp
    refine Classical.byContradiction fun z => e ?_
    have z1 : 0 < Wn K n a j c := Nat.pos_of_ne_zero fun q => z (by rw [q, Nat.zero_mul])
    have z2 : 0 < Wn K n c k b := Nat.pos_of_ne_zero fun q => z (by rw [q, Nat.mul_zero])
    have w1 := W_past hn hp ha i3 hcp (Wn_pos hg hn ha hc z1)
    rw [Wn_sym hg hn hc hb] at z2
    have w2 := W_sym hg hn hb hmw (W_past hn hp hb k3 hcp (Wn_pos hg hn hb hc z2))
    refine dst_iff.mpr ⟨l1, W_trans w1 (by omega) w2, fun i hi w => l3 i hi (W_sub (fun q hq => (tb_fulln hn).mpr ((tb_wo hn hp).mp hq).1) w)⟩
/-- p on no shortest way -/
theorem on_none (hg : Gr n K) (hn : n ≤ 20) {a b p l : Nat} (ha : a < n) (hb : b < n) (hp : p < n) (h3 : dst K n (full n) a b = some l) (hno : ∀ j k, dst K n (full n) a p = some j → dst K n (full n) b p = some k → j + k ≠ l) : dst K n (full n &&& (bt p ^^^ (-1))) a b = some l := by
  obtain ⟨l1, l2, l3⟩ := dst_iff.mp h3
  have key : ∀ {k c : Nat}, Wk K n (full n) k a c → Wk K n (full n &&& (bt p ^^^ (-1))) k a c ∨ ∃ x, x ≤ k ∧ Wk K n (full n) x a p ∧ Wk K n (full n) (k - x) p c := by
    intro k
    induction k with
    | zero => intro c w; exact Or.inl w
    | succ k ih =>
      intro c w
      rcases W_succ.mp w with w1 | ⟨h1, i, h2, h3, h4⟩
      · rcases ih w1 with q | ⟨x, x1, x2, x3⟩
        · exact Or.inl (W_mono (Nat.le_succ _) q)
        · exact Or.inr ⟨x, by omega, x2, W_mono (by omega) x3⟩
      · by_cases e : c = p
        · subst e
          exact Or.inr ⟨k + 1, Nat.le_refl _, w, W_self (by omega)⟩
        · rcases ih h3 with q | ⟨x, x1, x2, x3⟩
          · exact Or.inl (W_succ.mpr (Or.inr ⟨(tb_wo hn hp).mpr ⟨(tb_fulln hn).mp h1, e⟩, i, h2, q, h4⟩))
          · refine Or.inr ⟨x, by omega, x2, ?_⟩
            rw [show k + 1 - x = (k - x) + 1 by omega]
            exact W_succ.mpr (Or.inr ⟨h1, i, h2, x3, h4⟩)
  rcases key l2 with q | ⟨x, x1, x2, x3⟩
  · exact dst_iff.mpr ⟨l1, q, fun i hi w => l3 i hi (W_sub (fun q hq => (tb_fulln hn).mpr ((tb_wo hn hp).mp hq).1) w)⟩
  · exfalso
    have x4 := W_sym hg hn hp ((tb_fulln hn).mpr hp) x3
    obtain ⟨j, j1, j2⟩ := dst_in (by omega) x2
    obtain ⟨k, k1, k2⟩ := dst_in (by omega) x4
    refine hno j k j2 k2 ?_
    obtain ⟨-, m2, -⟩ := dst_iff.mp j2
    obtain ⟨-, n2, -⟩ := dst_iff.mp k2
    have := W_trans m2 (by omega) (W_sym hg hn hb ((tb_fulln hn).mpr hb) n2)
    have : ¬ j + k < l := fun z => l3 (j + k) z this
    omega
end PTH

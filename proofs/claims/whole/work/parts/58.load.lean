/-! load: the pairs counted -/
section LOD
variable {K : Nat → Int32} {n : Nat}
theorem part_sym {a b : Nat} (ha : a < 32) (hb : b < 32) (hab : a ≠ b) : partK K b a = partK K a b := by
  funext k
  apply tb_ext
  intro c _
  rw [Bool.eq_iff_iff, tb_part hb ha (Ne.symm hab), tb_part ha hb hab]
  constructor
  · rintro ⟨h1, h2, h3⟩
    exact ⟨h1, h3, h2⟩
  · rintro ⟨h1, h2, h3⟩
    exact ⟨h1, h3, h2⟩
theorem gb_of (hg : Gr n K) (hn : n ≤ 20) {a b u v x y : Nat} (ht : tb (K a) b = true) (hu : u < n) (hv : v < n) (hD : dst K n (full n) u v = some (x + 1 + y)) (hne : dst (partK K a b) n (full n) u v ≠ some (x + 1 + y)) (w1 : Wk K n (full n) x u a) (w2 : Wk K n (full n) y b v) : gbP K n u v a b := by
  obtain ⟨ha, hb, hab, ht2⟩ := hg a b ht
  obtain ⟨l1, l2, l3⟩ := dst_iff.mp hD
  have e1 : dst K n (full n) u a = some x := dst_iff.mpr ⟨by omega, w1, fun i hi w => l3 (i + 1 + y) (by omega) (W_trans (W_succ.mpr (Or.inr ⟨(tb_fulln hn).mpr hb, a, ha, w, ht⟩)) (by omega) w2)⟩
  have e2 : dst K n (full n) b v = some y := dst_iff.mpr ⟨by omega, w2, fun i hi w => l3 (x + 1 + i) (by omega) (W_trans (W_succ.mpr (Or.inr ⟨(tb_fulln hn).mpr hb, a, ha, w1, ht⟩)) (by omega) w)⟩
  exact ⟨x, y, e1, e2, hD, (goes_all hg hn ht hu hv e1 e2 hD).mpr hne⟩
theorem ld_iff (hg : Gr n K) (hn : n ≤ 20) {a b u v D : Nat} (ht : tb (K a) b = true) (hu : u < n) (hv : v < n) (hD : dst K n (full n) u v = some D) : ¬ dst K n (full n) u v = dst (partK K a b) n (full n) u v ↔ gbP K n u v a b ∨ gbP K n u v b a := by
  obtain ⟨ha, hb, hab, ht2⟩ := hg a b ht
  have ps := part_sym (K := K) (show a < 32 by omega) (show b < 32 by omega) hab
  obtain ⟨l1, l2, l3⟩ := dst_iff.mp hD
  rw [hD]
  constructor
  · intro h
    have h : dst (partK K a b) n (full n) u v ≠ some D := fun z => h z.symm
    rcases W_edge hg hn (u := u) ha hb hab l2 with q | ⟨x, y, e, q1, q2⟩ | ⟨x, y, e, q1, q2⟩
    · exact absurd (dst_iff.mpr ⟨l1, q, fun i hi w => l3 i hi (Wk_mono (part_gr_sub hn ha hb hab) w)⟩) h
    · subst e
      exact Or.inl (gb_of hg hn ht hu hv hD h q1 q2)
    · subst e
      exact Or.inr (gb_of hg hn ht2 hu hv hD (by rw [ps]; exact h) q1 q2)
  · rintro (⟨x, y, z1, z2, z3, z4⟩ | ⟨x, y, z1, z2, z3, z4⟩)
    · rw [hD] at z3
      cases z3
      exact fun e => (goes_all hg hn ht hu hv z1 z2 hD).mp z4 e.symm
    · rw [hD] at z3
      cases z3
      have := (goes_all hg hn ht2 hu hv z1 z2 hD).mp z4
      rw [ps] at this
      exact fun e => this e.symm
theorem sm_half {f : Nat → Nat → Nat} (hs : ∀ i j, i < n → j < n → f i j = f j i) (h0 : ∀ i, i < n → f i i = 0) : sm (fun i => sm (fun j => f i j) n) n = 2 * sm (fun u => sm (fun v => f u v) u) n := by
  have e1 : sm (fun u => sm (fun v => f u v) u) n = sm (fun u => sm (fun v => if v < u then f u v else 0) n) n := sm_cong fun u hu => sm_below (Nat.le_of_lt hu)
  have e2 : sm (fun i => sm (fun j => f i j) n) n = sm (fun i => sm (fun j => if j < i then f i j else 0) n) n + sm (fun i => sm (fun j => if i < j then f i j else 0) n) n := by
    rw [← sm_add]
    refine sm_cong fun i hi => ?_
    rw [← sm_add]
    refine sm_cong fun j hj => ?_
    rcases Nat.lt_trichotomy i j with c | c | c
    · rw [if_neg (by omega), if_pos c, Nat.zero_add]
    · subst c
      rw [if_neg (by omega), h0 i hi]
    · rw [if_pos c, if_neg (by omega), Nat.add_zero]
  have e3 : sm (fun i => sm (fun j => if i < j then f i j else 0) n) n = sm (fun i => sm (fun j => if j < i then f i j else 0) n) n := by
    rw [sm_comm]
    refine sm_cong fun j hj => sm_cong fun i hi => ?_
    rw [hs i j hi hj]
  rw [e2, e3, e1]
  omega
theorem ld_half (hg : Gr n K) (hn : n ≤ 20) {a b : Nat} (ht : tb (K a) b = true) : ldN K (partK K a b) n / 2 = sm (fun u => sm (fun v => if dst K n (full n) u v = dst (partK K a b) n (full n) u v then 0 else 1) u) n := by
  obtain ⟨ha, hb, hab, -⟩ := hg a b ht
  have e : ldN K (partK K a b) n = 2 * sm (fun u => sm (fun v => if dst K n (full n) u v = dst (partK K a b) n (full n) u v then 0 else 1) u) n := sm_half (f := fun u v => if dst K n (full n) u v = dst (partK K a b) n (full n) u v then 0 else 1) (fun i j hi hj => by
    rw [dst_sym hg hn hi hj ((tb_fulln hn).mpr hi) ((tb_fulln hn).mpr hj), dst_sym (hg.part hn ha hb hab) hn hi hj ((tb_fulln hn).mpr hi) ((tb_fulln hn).mpr hj)]) (fun i hi => by
    rw [dst_self (by omega) (by omega), dst_self (by omega) (by omega), if_pos rfl])
  rw [e]
  omega
theorem dst_none_part {a b u v : Nat} (hn : n ≤ 20) (ha : a < n) (hb : b < n) (hab : a ≠ b) (h : dst K n (full n) u v = none) : dst (partK K a b) n (full n) u v = none :=
  dst_non.mpr fun j hj w => dst_non.mp h j hj (Wk_mono (part_gr_sub hn ha hb hab) w)
end LOD

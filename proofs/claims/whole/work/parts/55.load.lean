/-! a tie on all shortest ways -/
section LOD
variable {K : Nat → Int32} {n : Nat}
theorem W_noedge (hn : n ≤ 20) {a b u q : Nat} (ha : a < n) (hb : b < n) (hab : a ≠ b) (hq : q = a ∨ q = b) : ∀ {k c : Nat}, ¬ Wk K n (full n) k u q → Wk K n (full n) k u c → Wk (partK K a b) n (full n) k u c := by
  intro k
  induction k with
  | zero => intro c _ w; exact w
  | succ k ih =>
    intro c hno w
    have hno0 : ¬ Wk K n (full n) k u q := fun z => hno (W_mono (Nat.le_succ _) z)
    rcases W_succ.mp w with h | ⟨h1, i, h2, h3, h4⟩
    · exact W_mono (Nat.le_succ _) (ih hno0 h)
    · have n1 : i ≠ q := fun z => hno0 (by rw [← z]; exact h3)
      have n2 : c ≠ q := fun z => hno (by rw [← z]; exact w)
      refine W_succ.mpr (Or.inr ⟨h1, i, h2, ih hno0 h3, (tb_part (by omega) (by omega) hab).mpr ⟨h4, ?_, ?_⟩⟩)
      · rintro ⟨z1, z2⟩
        rcases hq with z | z
        · exact n1 (z1.trans z.symm)
        · exact n2 (z2.trans z.symm)
      · rintro ⟨z1, z2⟩
        rcases hq with z | z
        · exact n2 (z2.trans z.symm)
        · exact n1 (z1.trans z.symm)
/-- without the tie, or over it -/
theorem W_edge (hg : Gr n K) (hn : n ≤ 20) {a b u : Nat} (ha : a < n) (hb : b < n) (hab : a ≠ b) : ∀ {k v : Nat}, Wk K n (full n) k u v → Wk (partK K a b) n (full n) k u v ∨ (∃ x y, x + 1 + y = k ∧ Wk K n (full n) x u a ∧ Wk K n (full n) y b v) ∨ (∃ x y, x + 1 + y = k ∧ Wk K n (full n) x u b ∧ Wk K n (full n) y a v) := by
  intro k
  induction k with
  | zero => intro v w; exact Or.inl w
  | succ k ih =>
    intro v w
    rcases W_succ.mp w with h | ⟨h1, i, h2, h3, h4⟩
    · rcases ih h with q | ⟨x, y, e, q1, q2⟩ | ⟨x, y, e, q1, q2⟩
      · exact Or.inl (W_mono (Nat.le_succ _) q)
      · exact Or.inr (Or.inl ⟨x, y + 1, by omega, q1, W_mono (Nat.le_succ _) q2⟩)
      · exact Or.inr (Or.inr ⟨x, y + 1, by omega, q1, W_mono (Nat.le_succ _) q2⟩)
    · rcases ih h3 with q | ⟨x, y, e, q1, q2⟩ | ⟨x, y, e, q1, q2⟩
      · by_cases e1 : i = a ∧ v = b
        · exact Or.inr (Or.inl ⟨k, 0, by omega, by rw [← e1.1]; exact h3, by rw [e1.2]; exact W_self (by omega)⟩)
        · by_cases e2 : i = b ∧ v = a
          · exact Or.inr (Or.inr ⟨k, 0, by omega, by rw [← e2.1]; exact h3, by rw [e2.2]; exact W_self (by omega)⟩)
          · exact Or.inl (W_succ.mpr (Or.inr ⟨h1, i, h2, q, (tb_part (by omega) (by omega) hab).mpr ⟨h4, e1, e2⟩⟩))
      · exact Or.inr (Or.inl ⟨x, y + 1, by omega, q1, W_succ.mpr (Or.inr ⟨h1, i, h2, q2, h4⟩)⟩)
      · exact Or.inr (Or.inr ⟨x, y + 1, by omega, q1, W_succ.mpr (Or.inr ⟨h1, i, h2, q2, h4⟩)⟩)
theorem part_gr_sub {a b : Nat} (hn : n ≤ 20) (ha : a < n) (hb : b < n) (hab : a ≠ b) (k c : Nat) (h : tb (partK K a b k) c = true) : tb (K k) c = true := part_sub (by omega) (by omega) hab k c h
/-- all shortest ways from u to v go from a to b: by numbers, and by distances without the tie -/
theorem goes_all (hg : Gr n K) (hn : n ≤ 20) {a b u v x y : Nat} (ht : tb (K a) b = true) (hu : u < n) (hv : v < n) (h1 : dst K n (full n) u a = some x) (h2 : dst K n (full n) b v = some y) (h3 : dst K n (full n) u v = some (x + 1 + y)) : Wn K n u x a * Wn K n b y v = Wn K n u (x + 1 + y) v ↔ dst (partK K a b) n (full n) u v ≠ some (x + 1 + y) := by
  obtain ⟨ha, hb, hab, ht2⟩ := hg a b ht
  obtain ⟨l1, l2, l3⟩ := dst_iff.mp h3
  obtain ⟨-, i2, -⟩ := dst_iff.mp h1
  obtain ⟨-, k2, -⟩ := dst_iff.mp h2
  have fu := (tb_fulln hn).mpr hu
  have fv := (tb_fulln hn).mpr hv
  have nub : ¬ Wk K n (full n) x u b := fun w => l3 (x + y) (by omega) (W_trans w (by omega) k2)
  have nva : ¬ Wk K n (full n) y v a := fun w => l3 (x + y) (by omega) (W_trans i2 (by omega) (W_sym hg hn hv fv w))
  have hgp := hg.part hn ha hb hab
  have pb : 0 < Wn K n b y v := dst_Wn hg hn hb h2
  have pa : 0 < Wn K n u x a := dst_Wn hg hn hu h1
  have tot := Wn_all hg hn (a := u) (b := v) (p := b) (j := x + 1) (k := y) hu hv hb
  have step : Wn K n u (x + 1) b = sm (fun c => if tb (K b) c = true then Wn K n u x c else 0) n := rfl
  have le1 : Wn K n u x a ≤ Wn K n u (x + 1) b := by
    have := sm_ge (f := fun c => if tb (K b) c = true then Wn K n u x c else 0) ha
    rw [if_pos ht2] at this
    exact this
  have le2 : Wn K n u (x + 1) b * Wn K n b y v ≤ Wn K n u (x + 1 + y) v := Wn_prod_le hn hu hv hb
  -- a walk past the tie gives one without it
  have mk : ∀ c e, c < n → e < n → ¬ (c = a ∧ e = b) → 0 < Wn K n u x c → tb (K c) e = true → 0 < Wn K n e y v → dst (partK K a b) n (full n) u v = some (x + 1 + y) := by
    intro c e hc he hne p1 hce p2
    have w1 := W_noedge hn ha hb hab (Or.inr rfl) nub (Wn_pos hg hn hu hc p1)
    have p2 := p2
    rw [Wn_sym hg hn he hv] at p2
    have w2 := W_noedge hn ha hb hab (Or.inl rfl) nva (Wn_pos hg hn hv he p2)
    have w2 := W_sym hgp hn hv fv w2
    have cb : c ≠ b := fun z => nub (by rw [← z]; exact Wn_pos hg hn hu hc p1)
    have w3 : Wk (partK K a b) n (full n) (x + 1) u e := W_succ.mpr (Or.inr ⟨(tb_fulln hn).mpr he, c, hc, w1, (tb_part (by omega) (by omega) hab).mpr ⟨hce, hne, fun z => cb z.1⟩⟩)
    exact dst_iff.mpr ⟨l1, W_trans w3 (by omega) w2, fun i hi w => l3 i hi (Wk_mono (part_gr_sub hn ha hb hab) w)⟩
  constructor
  · intro h e
    obtain ⟨-, e2, -⟩ := dst_iff.mp e
    have ge : Wn K n u (x + 1) b * Wn K n b y v = Wn K n u (x + 1 + y) v := by
      have := Nat.mul_le_mul_right (Wn K n b y v) le1
      omega
    have eq1 : Wn K n u x a = Wn K n u (x + 1) b := Nat.eq_of_mul_eq_mul_right pb (h.trans ge.symm)
    have zero := tot.mp ge
    obtain ⟨f, f1, f2⟩ := W_split (by omega) (fun i w => W_32 w) e2
    have f1' := Wk_mono (part_gr_sub hn ha hb hab) f1
    have f2' := Wk_mono (part_gr_sub hn ha hb hab) f2
    have hf := W_lt hg.kb hu hn f1'
    have pf : 0 < Wn K n f y v := Wn_of hg hn hf f2' fun i hi w => l3 (x + 1 + i) (by omega) (W_trans f1' (by omega) w)
    have pf1 : 0 < Wn K n u (x + 1) f := Wn_of hg hn hu f1' fun i hi w => l3 (i + y) (by omega) (W_trans w (by omega) f2')
    by_cases ef : f = b
    · subst ef
      rcases W_succ.mp f1 with q | ⟨-, c, c1, c2, c3⟩
      · exact nub (Wk_mono (part_gr_sub hn ha hb hab) q)
      · obtain ⟨c4, c5, -⟩ := (tb_part (by omega) (by omega) hab).mp c3
        have hca : c ≠ a := fun z => c5 ⟨z, rfl⟩
        have c2' := Wk_mono (part_gr_sub hn ha hb hab) c2
        have pc : 0 < Wn K n u x c := Wn_of hg hn hu c2' fun i hi w => l3 (i + 1 + y) (by omega) (W_trans (W_succ.mpr (Or.inr ⟨(tb_fulln hn).mpr hb, c, c1, w, c4⟩)) (by omega) k2)
        have := sm_lt (f := fun i => if i = a then Wn K n u x a else 0) (g := fun c => if tb (K f) c = true then Wn K n u x c else 0) (j := c) (n := n) (fun i _ => by
          by_cases e : i = a
          · subst e
            rw [if_pos rfl, if_pos ht2]
            exact Nat.le_refl _
          · rw [if_neg e]
            exact Nat.zero_le _) c1 (by
          rw [if_neg hca, if_pos (hg c f c4).2.2.2]
          exact pc)
        rw [sm_one ha (fun i _ e => if_neg e), if_pos rfl] at this
        rw [step] at eq1
        omega
    · have := zero f hf ef
      have := Nat.mul_pos pf1 pf
      omega
  · intro h
    have ge : Wn K n u (x + 1) b * Wn K n b y v = Wn K n u (x + 1 + y) v := by
      rw [tot]
      intro e he hne
      refine Classical.byContradiction fun z => ?_
      have z1 : 0 < Wn K n u (x + 1) e := Nat.pos_of_ne_zero fun q => z (by rw [q, Nat.zero_mul])
      have z2 : 0 < Wn K n e y v := Nat.pos_of_ne_zero fun q => z (by rw [q, Nat.mul_zero])
      obtain ⟨c, c1, c2⟩ := sm_pos z1
      split at c2
      next q => exact h (mk c e c1 he (fun w => hne w.2) c2 (hg e c q).2.2.2 z2)
      next => omega
    have eq1 : Wn K n u (x + 1) b = Wn K n u x a := by
      rw [step]
      have := sm_one (f := fun c => if tb (K b) c = true then Wn K n u x c else 0) ha (fun c hc hne => by
        by_cases q : tb (K b) c = true
        · rw [if_pos q]
          refine Classical.byContradiction fun z => h (mk c b hc hb (fun w => hne w.1) (Nat.pos_of_ne_zero z) (hg b c q).2.2.2 pb)
        · exact if_neg q)
      rw [this, if_pos ht2]
    rw [← eq1]
    exact ge
end LOD

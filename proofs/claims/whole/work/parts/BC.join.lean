/-! both sides' calls joined: those that change -/
section J
variable {X : CX} {nx sz n : Nat} {h g : AH}
/-- nothing but the text, and scratch, has changed -/
def FT (h g : AH) : Prop := (∀ c j, Scr c j = false → ¬ (c = 23 ∧ j = 1) → c ≠ 24 → ¬ (c = 68 ∧ j = 7) → c ≠ 69 → g.1 c j = h.1 c j) ∧ ∀ k j, ¬ (k = 68 ∧ j = 6) → g.2.2 k j = h.2.2 k j
theorem FT.row {h g : AH} (f : FT h g) {c : Nat} (hs : ∀ j, Scr c j = false) (h1 : c ≠ 23) (h2 : c ≠ 24) (h3 : c ≠ 68) (h4 : c ≠ 69) : g.1 c = h.1 c := funext fun j => f.1 c j (hs j) (fun z => h1 z.1) h2 (fun z => h3 z.1) h4
theorem Inv.ft (i : Inv h n) (f : FT h g) (t : InvT g) : Inv g n := by
  obtain ⟨hF, hP, hG, hT, hN, hI, hR⟩ := i
  have r : ∀ c, (∀ j, Scr c j = false) → c ≠ 23 → c ≠ 24 → c ≠ 68 → c ≠ 69 → g.1 c = h.1 c := fun c a h1 h2 h3 h4 => f.row a h1 h2 h3 h4
  have a1 : ∀ a, IsNet a → g.1 a 0 = h.1 a 0 ∧ g.1 a 1 = h.1 a 1 := fun a ha => by
    rcases ha with rfl | rfl | rfl
    · exact ⟨f.1 1 0 rfl (by omega) (by omega) (by omega) (by omega), f.1 1 1 rfl (by omega) (by omega) (by omega) (by omega)⟩
    · exact ⟨f.1 5 0 rfl (by omega) (by omega) (by omega) (by omega), f.1 5 1 rfl (by omega) (by omega) (by omega) (by omega)⟩
    · exact ⟨f.1 9 0 rfl (by omega) (by omega) (by omega) (by omega), f.1 9 1 rfl (by omega) (by omega) (by omega) (by omega)⟩
  have r2 := r 2 (fun j => rfl) (by omega) (by omega) (by omega) (by omega)
  have r3 := r 3 (fun j => rfl) (by omega) (by omega) (by omega) (by omega)
  have r4 := r 4 (fun j => rfl) (by omega) (by omega) (by omega) (by omega)
  have r73 := r 73 (fun j => rfl) (by omega) (by omega) (by omega) (by omega)
  have r75 := r 75 (fun j => rfl) (by omega) (by omega) (by omega) (by omega)
  have r76 := r 76 (fun j => rfl) (by omega) (by omega) (by omega) (by omega)
  refine ⟨fun k j q hq => ?_, hP.cg a1 (f.1 0 0 rfl (by omega) (by omega) (by omega) (by omega)) (f.1 68 1 rfl (by omega) (by omega) (by omega) (by omega)), ?_, t, hN.cg (fun a ha => r _ (scr_need a ha).1 (by omega) (by omega) (by omega) (by omega)) (r 83 (fun j => rfl) (by omega) (by omega) (by omega) (by omega)) (r 62 (fun j => rfl) (by omega) (by omega) (by omega) (by omega)) (f.1 68 30 rfl (by omega) (by omega) (by omega) (by omega)) (f.1 40 3 rfl (by omega) (by omega) (by omega) (by omega)) (f.1 68 31 rfl (by omega) (by omega) (by omega) (by omega)) (f.1 40 4 rfl (by omega) (by omega) (by omega) (by omega)), hI.cg (f.1 68 46 rfl (by omega) (by omega) (by omega) (by omega)) (f.1 0 14 rfl (by omega) (by omega) (by omega) (by omega)) (fun p _ => ⟨congrFun r2 p, congrFun r3 p, congrFun r4 p⟩) (r 6 (fun j => rfl) (by omega) (by omega) (by omega) (by omega)) (r 7 (fun j => rfl) (by omega) (by omega) (by omega) (by omega)) (r 8 (fun j => rfl) (by omega) (by omega) (by omega) (by omega)) (r 87 (fun j => rfl) (by omega) (by omega) (by omega) (by omega)) (r 88 (fun j => rfl) (by omega) (by omega) (by omega) (by omega)) (r 89 (fun j => rfl) (by omega) (by omega) (by omega) (by omega)), hR.cg (f.1 29 4 rfl (by omega) (by omega) (by omega) (by omega)) (f.1 68 8 rfl (by omega) (by omega) (by omega) (by omega)) (r 37 (fun j => rfl) (by omega) (by omega) (by omega) (by omega)) (fun q hq => r _ (scr_code q hq).1 (by omega) (by omega) (by omega) (by omega)) (r 70 (fun j => rfl) (by omega) (by omega) (by omega) (by omega)) (r 71 (fun j => rfl) (by omega) (by omega) (by omega) (by omega))⟩
  · rw [f.2 k j (fun z => by rw [z.1, z.2] at hq; cases hq)]
    exact hF k j q hq
  · unfold InvG
    rw [r2, r3, r4, r73, r75, r76]
    exact hG
theorem j_end {x : Int32} (hA0 : 91 ≤ nx) (i : Inv h n) : Jn X m_X11_end [.ref 0, .int x] m_X12_end [.ref 68, .int x] h n nx sz := by
  obtain ⟨s, t1, t2⟩ := i.T
  have e7 : h.1 68 7 = h.1 23 1 := t2.2.1.trans t1.2.1.symm
  have se := s_end (X := X) (d := 60) (nx := nx) (sz := sz) (h := h) (x := x) hA0 i.F
  by_cases c : ¬ x < 0 ∧ x ≤ h.1 23 1
  · rw [if_pos c, if_pos c] at se
    refine ⟨_, se, fun y g q => ?_⟩
    obtain ⟨rfl, rfl⟩ := q
    have te := t_end (X := X) (d := 60) (nx := nx) (sz := sz) (h := setI h 23 1 x) (x := x) hA0
    have e7' : (setI h 23 1 x).1 68 7 = h.1 23 1 := e7
    rw [e7', if_pos c, if_pos c] at te
    obtain ⟨k, hk, rfl⟩ := in_rng (len := s.1) (by have := t1.1; omega) c.1 (by rw [← t1.2.1]; exact Int32.not_lt.mpr c.2)
    refine te.ri (fun y g q => ⟨q.1, ?_⟩)
    obtain ⟨-, rfl⟩ := q
    refine i.ft ⟨fun c j h1 h2 h3 h4 h5 => ?_, fun _ _ _ => rfl⟩ ⟨k, by have := t1.1; omega, rfl, rfl, fun j hj => ?_⟩
    · show (if c = 68 ∧ j = 7 then _ else if c = 68 ∧ j = 0 then _ else if c = 23 ∧ j = 1 then _ else h.1 c j) = _
      rw [if_neg h4, if_neg (fun z => by rw [z.1, z.2] at h1; cases h1), if_neg h2]
    · exact ⟨s.2 j, (t1.2.2.1 j (by omega)).1, (t1.2.2.1 j (by omega)).2, t1.2.2.2 j (by omega), t2.2.2.2 j (by omega)⟩
  · rw [if_neg c, if_neg c] at se
    refine Jn.rd i (sc0 se) (fun g s ig => ?_)
    have te := t_end (X := X) (d := 60) (nx := nx) (sz := sz) (h := g) (x := x) hA0
    have e7' : g.1 68 7 = h.1 23 1 := (s.1 68 7 rfl).trans e7
    rw [e7', if_neg c, if_neg c] at te
    exact sc1 te
theorem j_feed {a b c e f : Int32} (hA0 : 91 ≤ nx) (i : Inv h n) : Jn X m_X11_feed [.ref 0, .int a, .int b, .int c, .int e, .int f] m_X12_feed [.ref 68, .int a, .int b, .int c, .int e, .int f] h n nx sz := by
  obtain ⟨s, t1, t2⟩ := i.T
  refine ⟨_, s_feed (d := 59) hA0 i.F t1, fun y g q => ?_⟩
  obtain ⟨rfl, fs, tx⟩ := q
  have t2' : MxH g s := ⟨t2.1, (fs.2 68 7 (by omega) (by omega)).trans t2.2.1, t2.2.2.1, fun j hj => (fs.2 69 j (by omega) (by omega)).trans (t2.2.2.2 j hj)⟩
  refine (t_feed (d := 59) hA0 (i.F.of fs.1) t2').ri (fun y g' q => ⟨q.1, ?_⟩)
  obtain ⟨-, ft, mx⟩ := q
  refine i.ft ⟨fun c j h1 h2 h3 h4 h5 => ?_, fun k j _ => by rw [ft.1]; show g.2.2 k j = _; rw [fs.1]⟩ (InvT.of (s := _) ?_ mx)
  · rw [ft.2 c j h4 h5]
    show (if c = 68 ∧ j = 0 then 0 else g.1 c j) = _
    rw [if_neg (fun z => by rw [z.1, z.2] at h1; cases h1), fs.2 c j h2 h3]
  · obtain ⟨x1, x2, x3, x4⟩ := tx
    exact ⟨x1, (ft.2 23 1 (by omega) (by omega)).trans x2, x3, fun j hj => (ft.2 24 j (by omega) (by omega)).trans (x4 j hj)⟩
theorem InvP.A {a : Nat} {K : Nat → Int32} (i : InvP h n) (ha : a = 2 ∨ a = 3 ∨ a = 4) : InvP (setA h a K) n := i.cg (fun b hb => by
  rcases ha with rfl | rfl | rfl <;> rcases hb with rfl | rfl | rfl <;> exact ⟨rfl, rfl⟩) (by rcases ha with rfl | rfl | rfl <;> rfl) (by rcases ha with rfl | rfl | rfl <;> rfl)
theorem j_most {x v : Int32} (hA0 : 91 ≤ nx) (i : Inv h n) : Jn X m_X11_most [.ref 0, .int x, .int v] m_X12_most [.ref 68, .int x, .int v] h n nx sz := by
  have h20 := i.n20
  have se := s_most (X := X) (d := 58) (nx := nx) (sz := sz) (x := x) (v := v) hA0 i.F i.P (Classical.propDecidable _)
  by_cases c : mostOk n (h.1 2) x v
  · rw [if_pos c, if_pos c] at se
    refine ⟨_, se, fun y g q => ?_⟩
    obtain ⟨rfl, rfl⟩ := q
    obtain ⟨c1, c2, c3, c4⟩ := id c
    obtain ⟨p, hp, rfl⟩ := (hasI_1 (by omega)).mp c1
    have tp : (nI p).toNatClampNeg = p := tN (by omega)
    rw [tp] at c4 ⊢
    obtain ⟨l, hl, rfl⟩ := in_rng (len := 9) (by decide) c2 c3
    have te := t_most (X := X) (d := 58) (nx := nx) (sz := sz) (h := setI h 3 p (nI l)) (n := n) (x := nI p) (v := nI l) hA0 (i.F.of rfl) (by rw [setI_A]; exact i.P.A (Or.inr (Or.inl rfl))) (Classical.propDecidable _)
    have e73 : (setI h 3 p (nI l)).1 73 = h.1 2 := i.G.1
    rw [e73, if_pos c, if_pos c, tp] at te
    refine te.ri (fun y g q => ⟨q.1, ?_⟩)
    obtain ⟨-, rfl⟩ := q
    have k2 : (setI (setI (setI h 3 p (nI l)) 68 0 0) 75 p (nI l)).1 2 = h.1 2 := rfl
    have k3 : (setI (setI (setI h 3 p (nI l)) 68 0 0) 75 p (nI l)).1 3 = fun k => if k = p then nI l else h.1 3 k := by
      funext k
      show (if 3 = 3 ∧ k = p then nI l else h.1 3 k) = _
      by_cases q : k = p
      · rw [if_pos q, if_pos ⟨rfl, q⟩]
      · rw [if_neg q, if_neg (fun z => q z.2)]
    refine i.nc (nc_I ((nc_I (Nc.of Sc.rfl) rfl).trans (Nc.of (Sc.rfl.setI rfl))) rfl) i.G.1 ?_ i.G.2.2.1 (by rw [k2]; exact i.gs) ?_ (fun q hq => ⟨?_, rfl⟩)
    · rw [k3]
      funext k
      show (if 75 = 75 ∧ k = p then nI l else h.1 75 k) = _
      rw [i.G.2.1]
      by_cases q : k = p
      · rw [if_pos q, if_pos ⟨rfl, q⟩]
      · rw [if_neg q, if_neg (fun z => q z.2)]
    · rw [k2, k3]
      intro q hq
      by_cases e : q = p
      · subst e
        refine ⟨l, hl, if_pos rfl, ?_⟩
        rw [i.gs.cnt h20, le_nI (by have := cnt_le (x := h.1 2 q) (n := n); omega) (by omega)] at c4
        exact c4
      · obtain ⟨l', l1, l2, l3⟩ := i.ls q hq
        exact ⟨l', l1, (if_neg e).trans l2, l3⟩
    · rw [k3]
      exact if_neg (by omega)
  · rw [if_neg c, if_neg c] at se
    refine Jn.rd i (sc0 se) (fun g s ig => ?_)
    have te := t_most (X := X) (d := 58) (nx := nx) (sz := sz) (x := x) (v := v) hA0 ig.F ig.P (Classical.propDecidable _)
    rw [if_neg (by rw [i.k73 s]; exact c), if_neg (by rw [i.k73 s]; exact c)] at te
    exact sc1 te
/-- a new net on both sides -/
theorem Inv.net2 {K : Nat → Int32} {g0 g1 : AH} (i : Inv h n) (s0 : Sc h g0) (s1 : Sc (setA g0 2 K) g1) (hg : Gr n K) (hL : Lm n K (h.1 3)) : Inv (setA g1 73 K) n := by
  have k2 : (setA g1 73 K).1 2 = K := ((setA_get_ne (by decide)).trans (s1.row (fun j => rfl))).trans setA_self
  have k3 : (setA g1 73 K).1 3 = h.1 3 := ((setA_get_ne (by decide)).trans (s1.row (a := 3) (fun j => rfl))).trans ((setA_get_ne (by decide)).trans (s0.row (fun j => rfl)))
  have k4 : (setA g1 73 K).1 4 = h.1 4 := ((setA_get_ne (by decide)).trans (s1.row (a := 4) (fun j => rfl))).trans ((setA_get_ne (by decide)).trans (s0.row (fun j => rfl)))
  have k75 : (setA g1 73 K).1 75 = h.1 75 := ((setA_get_ne (by decide)).trans (s1.row (a := 75) (fun j => rfl))).trans ((setA_get_ne (by decide)).trans (s0.row (fun j => rfl)))
  have k76 : (setA g1 73 K).1 76 = h.1 76 := ((setA_get_ne (by decide)).trans (s1.row (a := 76) (fun j => rfl))).trans ((setA_get_ne (by decide)).trans (s0.row (fun j => rfl)))
  refine i.nc (nc_A ((nc_A (Nc.of s0) rfl).trans (Nc.of s1)) rfl) ?_ ?_ ?_ ?_ ?_ (fun p hp => ⟨by rw [k3], by rw [k4]⟩)
  · rw [k2, setA_self]
  · rw [k75, k3, i.G.2.1]
  · rw [k76, k4, i.G.2.2.1]
  · rw [k2]
    exact hg
  · rw [k2, k3]
    exact hL
theorem j_tie {x y : Int32} (hA0 : 91 ≤ nx) (i : Inv h n) : Jn X m_X11_tie [.ref 0, .int x, .int y] m_X12_tie [.ref 68, .int x, .int y] h n nx sz := by
  have h20 := i.n20
  by_cases c : twoI n x y = 0
  · exact Jn.rd i (sc0 (s_tie_bad (d := 58) hA0 i.F i.P c)) (fun g s ig => sc1 (t_tie_bad (d := 58) hA0 ig.F ig.P c))
  · obtain ⟨a, b, ha, hb, hab, rfl, rfl⟩ := twoI_ne (by omega) c
    have se := s_tie (X := X) (d := 57) (nx := nx) (sz := sz) hA0 i.F i.P ha hb hab (Classical.propDecidable _)
    by_cases ok : okT (h.1 2) (h.1 3) a b
    · rw [if_pos ok, if_pos ok] at se
      refine ⟨_, se, fun y g q => ?_⟩
      obtain ⟨rfl, rfl⟩ := q
      have te := t_tie (X := X) (d := 57) (nx := nx) (sz := sz) (h := setA h 2 (joinK (h.1 2) a b)) (n := n) hA0 (i.F.of rfl) (i.P.A (Or.inl rfl)) i.gt i.lt ha hb hab (Classical.propDecidable _)
      have e73 : (setA h 2 (joinK (h.1 2) a b)).1 73 = h.1 2 := i.G.1
      have e75 : (setA h 2 (joinK (h.1 2) a b)).1 75 = h.1 3 := i.G.2.1
      rw [e73, e75, if_pos ok, if_pos ok] at te
      refine te.ri (fun y g q => ⟨q.1, ?_⟩)
      obtain ⟨-, rfl⟩ := q
      exact i.net2 Sc.rfl (Sc.rfl.setI rfl) (i.gs.join h20 ha hb hab) (mk_lm (o := none) (p := none) i.gs i.ls h20 ha hb (cbB_iff.mpr ⟨hab, ok.1, decide_eq_true ok.2.1, decide_eq_true ok.2.2⟩))
    · rw [if_neg ok, if_neg ok] at se
      refine Jn.rd i (sc0 se) (fun g s ig => ?_)
      have te := t_tie (X := X) (d := 57) (nx := nx) (sz := sz) hA0 ig.F ig.P ig.gt ig.lt ha hb hab (Classical.propDecidable _)
      rw [if_neg (by rw [i.k73 s, i.k75 s]; exact ok), if_neg (by rw [i.k73 s, i.k75 s]; exact ok)] at te
      exact sc1 te
theorem j_drop {x y : Int32} (hA0 : 91 ≤ nx) (i : Inv h n) : Jn X m_X11_drop [.ref 0, .int x, .int y] m_X12_drop [.ref 68, .int x, .int y] h n nx sz := by
  have h20 := i.n20
  rcases tie01 (K := h.1 2) (x := x) (y := y) h20 with c | ⟨a, b, ha, hb, ht, rfl, rfl⟩
  · exact Jn.rd i (sc0 (s_drop_bad (d := 58) hA0 i.F i.P c)) (fun g s ig => sc1 (t_drop_bad (d := 58) hA0 ig.F ig.P ig.gt (by rw [i.k73 s]; exact c)))
  · refine ⟨_, s_drop (d := 58) hA0 i.F i.P ha hb ht, fun y g q => ?_⟩
    obtain ⟨rfl, rfl⟩ := q
    have hab := (i.gs a b ht).2.2.1
    have e73 : (setA h 2 (partK (h.1 2) a b)).1 73 = h.1 2 := i.G.1
    have te := t_drop (X := X) (d := 58) (nx := nx) (sz := sz) (h := setA h 2 (partK (h.1 2) a b)) (n := n) hA0 (i.F.of rfl) (i.P.A (Or.inl rfl)) i.gt ha hb (by rw [e73]; exact ht)
    rw [e73] at te
    refine te.ri (fun y g q => ⟨q.1, ?_⟩)
    obtain ⟨-, rfl⟩ := q
    exact i.net2 Sc.rfl (Sc.rfl.setI rfl) (i.gs.part h20 ha hb hab) (i.ls.sub fun k j z => ((tb_part (by omega) (by omega) hab).mp z).1)
theorem j_cost {x : Int32} (hA0 : 91 ≤ nx) (i : Inv h n) : Jn X m_X11_cost [.ref 0, .int x] m_X12_cost [.ref 68, .int x] h n nx sz := by
  have se := s_cost (X := X) (d := 60) (nx := nx) (sz := sz) (h := h) (x := x) hA0 i.F
  by_cases c : ¬ x < 0 ∧ ¬ 99 < x
  · rw [if_pos c, if_pos c] at se
    refine ⟨_, se, fun y g q => ?_⟩
    obtain ⟨rfl, rfl⟩ := q
    have te := t_cost (X := X) (d := 59) (nx := nx) (sz := sz) (h := setI h 40 4 x) (x := x) hA0
    rw [if_pos c, if_pos c] at te
    obtain ⟨k, hk, rfl⟩ := in_rng (len := 99) (by decide) c.1 c.2
    refine te.ri (fun y g q => ⟨q.1, ?_⟩)
    obtain ⟨-, rfl⟩ := q
    obtain ⟨hF, hP, hG, hT, hN, hI, hR⟩ := i
    refine ⟨hF, hP.cg (fun a ha => ?_) rfl rfl, hG, hT.cg rfl rfl rfl rfl, ⟨fun a b ha hb => ?_, hN.2.1, hN.2.2.1, hN.2.2.2.1, rfl, k, hk, rfl⟩, hI, hR.cg rfl rfl rfl (fun r hr => ?_) rfl rfl⟩
    · rcases ha with rfl | rfl | rfl <;> exact ⟨rfl, rfl⟩
    · have e : (setI (setI (setI h 40 4 (nI k)) 68 0 0) 68 31 (nI k)).1 (42 + a) b = h.1 (42 + a) b := (setI_b (by omega)).trans ((setI_b (by omega)).trans (setI_b (by omega)))
      rw [e]
      exact hN.1 a b ha hb
    · exact funext fun j => (setI_b (by omega)).trans ((setI_b (by omega)).trans (setI_b (by omega)))
  · rw [if_neg c, if_neg c] at se
    refine Jn.rd i (sc0 se) (fun g s ig => ?_)
    have te := t_cost (X := X) (d := 59) (nx := nx) (sz := sz) (h := g) (x := x) hA0
    rw [if_neg c, if_neg c] at te
    exact sc1 te
theorem CT.A2 {K L K' : Nat → Int32} {M : Nat → Nat → Nat} {c : Nat} (m : CT h n K L M c) : CT (setA h 2 K') n K L M c := by
  obtain ⟨m1, m2, m3, m4, m5, m6, m7, m8, m9⟩ := m
  exact ⟨m1, m2.A (Or.inl rfl), m3, m4, m5, m6, m7, m8, m9⟩
theorem j_change {x1 x2 x3 x4 : Int32} (hA0 : 91 ≤ nx) (i : Inv h n) : Jn X m_X11_change [.ref 0, .int x1, .int x2, .int x3, .int x4] m_X12_change [.ref 68, .int x1, .int x2, .int x3, .int x4] h n nx sz := by
  have h20 := i.n20
  obtain ⟨M, c, cm, ct⟩ := i.M
  by_cases b : bd4 n x1 x2 x3 x4
  · exact Jn.rd i (sc0 (s_change_bad (d := 55) hA0 cm b)) (fun g s ig => sc1 (t_change_bad (d := 56) hA0 (ct g s) b))
  · obtain ⟨a, b', o, p, ha, hb, hab, ho, hp, rfl, rfl, rfl, rfl⟩ := nbd4 (n := n) (by omega) b
    by_cases w : wnB (h.1 2) (h.1 3) n M c a o b' p = true
    · refine ⟨_, s_change (d := 55) hA0 cm ha hb hab ho hp w, fun y g q => ?_⟩
      obtain ⟨rfl, rfl⟩ := q
      refine (t_change (d := 54) hA0 (ct h Sc.rfl).A2 ha hb ho hp).ri (fun y g q => ⟨q.1.trans (if_pos w), ?_⟩)
      obtain ⟨g0, s0, rfl⟩ := q.2.1 w
      have cb : cbB (h.1 2) (h.1 3) a o b' p = true := by
        unfold wnB at w
        rw [Bool.and_eq_true] at w
        exact w.1
      obtain ⟨k1, k2, k3, k4⟩ := cbB_iff.mp cb
      exact i.net2 Sc.rfl s0 (mk_gr i.gs h20 ha hb k1 k2 (mdB_kn k3) (mdB_kn k4)) (mk_lm i.gs i.ls h20 ha hb cb)
    · exact Jn.rd i (sc0 (s_change_no (d := 55) hA0 cm ha hb hab ho hp w)) (fun g s ig => (t_change (d := 54) hA0 (ct g s) ha hb ho hp).ri (fun y g' q => ⟨q.1.trans (if_neg w), q.2.2 w⟩))
end J

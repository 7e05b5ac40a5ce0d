/-! both sides' calls joined: need, text -/
section J
variable {X : CX} {nx sz n : Nat} {h g : AH}
theorem j_need {x y z : Int32} (hA0 : 91 ≤ nx) (i : Inv h n) : Jn X m_X11_need [.ref 0, .int x, .int y, .int z] m_X12_need [.ref 68, .int x, .int y, .int z] h n nx sz := by
  have h20 := i.n20
  by_cases b : twoI n x y = 0 ∨ z < 0 ∨ ¬ z ≤ 99
  · exact Jn.rd i (sc0 (s_need_bad (d := 58) hA0 i.F i.P b)) (fun g s ig => sc1 (t_need_bad (d := 58) hA0 ig.F ig.P b))
  obtain ⟨a, c, ha, hc, hac, rfl, rfl⟩ := twoI_ne (n := n) (by omega) (fun w => b (Or.inl w))
  obtain ⟨v, hv, rfl⟩ := in_rng (len := 99) (x := z) (by decide) (fun w => b (Or.inr (Or.inl w))) (Int32.not_lt.mpr (Decidable.not_not.mp (fun w => b (Or.inr (Or.inr w)))))
  obtain ⟨n1, n2, n3, ⟨cn, c1, c2, c3⟩, n5, n6⟩ := i.N
  obtain ⟨m, m1, m2, m3, m4, m5⟩ := n1 a c (by omega) (by omega)
  have lt60 : h.1 40 3 < 60 ↔ cn < 60 := by
    rw [c3]
    exact nI_ltI (b := 60) (by omega) (by decide)
  by_cases ok : 0 < m ∨ v = 0 ∨ cn < 60
  · refine ⟨_, s_need (d := 58) hA0 i.F i.P ha hc hac hv rfl (fun d => s_put (d := d) hA0 i.F (by omega) (by omega) hv m1 m2 (by rw [lt60]; exact ok)), fun y g q => ?_⟩
    obtain ⟨rfl, rfl⟩ := q
    have r0 : ∀ b, b ≠ 40 → b ≠ 42 + a → b ≠ 62 → (putH h a c v m).1 b = h.1 b := fun b b1 b2 b3 => by
      unfold putH
      rw [setI_row b3, setI_row b2, setI_row b1]
    have P : InvP (putH h a c v m) n := i.P.cg (fun b hb => by
      rw [r0 b (by rcases hb with rfl | rfl | rfl <;> decide) (by rcases hb with rfl | rfl | rfl <;> omega) (by rcases hb with rfl | rfl | rfl <;> decide)]
      exact ⟨rfl, rfl⟩) (by rw [r0 0 (by decide) (by omega) (by decide)]) (by rw [r0 68 (by decide) (by omega) (by decide)])
    refine (t_need (d := 58) (h := putH h a c v m) (n := n) hA0 (i.F.of rfl) P ha hc hac hv m1 (by rw [r0 83 (by decide) (by omega) (by decide)]; exact m3) ?_).ri (fun y g q => ⟨q.1, ?_⟩)
    · rw [r0 68 (by decide) (by omega) (by decide), n3, c3]
      rcases ok with w | w | w
      · exact Or.inl w
      · exact Or.inr (Or.inl w)
      · exact Or.inr (Or.inr (fun z => by
          have := (nI_eq (b := 60) (by omega) (by decide)).mp z
          omega))
    · obtain ⟨-, e⟩ := q
      have r : ∀ b, b ≠ 40 → b ≠ 42 + a → b ≠ 62 → b ≠ 68 → b ≠ 83 → g.1 b = h.1 b := fun b b1 b2 b3 b4 b5 => by
        rw [← e]
        unfold putT
        rw [setI_row b5, setI_row b4, setI_row b4, r0 b b1 b2 b3]
      have r68 : ∀ j, j ≠ 0 → j ≠ 30 → g.1 68 j = h.1 68 j := fun j j0 j30 => by
        rw [← e]
        unfold putT
        rw [setI_row (by decide)]
        show (if 68 = 68 ∧ j = 30 then _ else if 68 = 68 ∧ j = 0 then _ else (putH h a c v m).1 68 j) = _
        rw [if_neg (fun z => j30 z.2), if_neg (fun z => j0 z.2), r0 68 (by decide) (by omega) (by decide)]
      have g30 : g.1 68 30 = h.1 40 3 + ((if 0 < v then 1 else 0) - (if 0 < m then 1 else 0)) := by
        rw [← e]
        unfold putT
        rw [setI_row (by decide)]
        show (setI (putH h a c v m) 68 0 0).1 68 30 + ((if 0 < v then 1 else 0) - (if 0 < m then 1 else 0)) = _
        rw [show (setI (putH h a c v m) 68 0 0).1 68 30 = (putH h a c v m).1 68 30 from rfl, r0 68 (by decide) (by omega) (by decide), n3]
      have e83 : ∀ k, g.1 83 k = if k = 20 * a + c then nI v else h.1 83 k := fun k => by
        rw [← e]
        unfold putT
        show (if 83 = 83 ∧ k = 20 * a + c then nI v else (setI (setI (putH h a c v m) 68 0 0) 68 30 _).1 83 k) = _
        rw [setI_row (by decide), setI_row (by decide), r0 83 (by decide) (by omega) (by decide)]
        by_cases q : k = 20 * a + c
        · rw [if_pos q, if_pos ⟨rfl, q⟩]
        · rw [if_neg q, if_neg (fun z => q z.2)]
      have gp : ∀ b, b ≠ 68 → b ≠ 83 → g.1 b = (putH h a c v m).1 b := fun b b4 b5 => by
        rw [← e]
        unfold putT
        rw [setI_row b5, setI_row b4, setI_row b4]
      have e40 : g.1 40 3 = h.1 40 3 + ((if 0 < v then 1 else 0) - (if 0 < m then 1 else 0)) := by
        rw [gp 40 (by decide) (by decide)]
        unfold putH
        rw [setI_row (by decide), setI_row (by omega)]
        rfl
      have e404 : g.1 40 4 = h.1 40 4 := by
        rw [gp 40 (by decide) (by decide)]
        unfold putH
        rw [setI_row (by decide), setI_row (by omega)]
        rfl
      have e42 : ∀ q j, q < 20 → g.1 (42 + q) j = if q = a ∧ j = c then nI v else h.1 (42 + q) j := fun q j hq => by
        rw [gp (42 + q) (by omega) (by omega)]
        unfold putH
        rw [setI_row (by omega)]
        show (if 42 + q = 42 + a ∧ j = c then nI v else (setI h 40 3 _).1 (42 + q) j) = _
        rw [setI_row (by omega)]
        by_cases w : q = a ∧ j = c
        · rw [if_pos w, if_pos ⟨by omega, w.2⟩]
        · rw [if_neg w, if_neg (fun z => w ⟨by omega, z.2⟩)]
      have e62 : ∀ q, g.1 62 q = if q = a then (if 0 < v then h.1 62 a ||| bt c else h.1 62 a &&& (bt c ^^^ (-1))) else h.1 62 q := fun q => by
        rw [gp 62 (by decide) (by decide)]
        unfold putH
        show (if 62 = 62 ∧ q = a then _ else (setI (setI h 40 3 _) (42 + a) c (nI v)).1 62 q) = _
        rw [setI_row (by omega), setI_row (by decide)]
        by_cases w : q = a
        · rw [if_pos w, if_pos ⟨rfl, w⟩]
        · rw [if_neg w, if_neg (fun z => w z.2)]
      have t62 : ∀ j, j < 32 → tb (g.1 62 a) j = if j = c then decide (0 < v) else tb (h.1 62 a) j := fun j hj => by
        rw [e62, if_pos rfl]
        by_cases w : 0 < v
        · rw [if_pos w, tb_or, tb_bt (by omega), decide_eq_true w]
          by_cases z : j = c
          · subst z
            rw [if_pos rfl, decide_eq_true rfl, Bool.or_true]
          · rw [if_neg z, decide_eq_false (fun y => z y.symm), Bool.or_false]
        · rw [if_neg w, tb_and, tb_not hj, tb_bt (by omega), decide_eq_false w]
          by_cases z : j = c
          · subst z
            rw [if_pos rfl, decide_eq_true rfl]
            exact Bool.and_false _
          · rw [if_neg z, decide_eq_false (fun y => z y.symm)]
            exact Bool.and_true _
      obtain ⟨hF, hP, hG, hT, hN, hI, hR⟩ := i
      refine ⟨hF.of (by rw [← e]; rfl), hP.cg (fun b hb => ?_) ?_ (r68 1 (by decide) (by decide)), ?_, hT.cg (by rw [r 23 (by decide) (by omega) (by decide) (by decide) (by decide)]) (r68 7 (by decide) (by decide)) (r 24 (by decide) (by omega) (by decide) (by decide) (by decide)) (r 69 (by decide) (by omega) (by decide) (by decide) (by decide)), ⟨fun p q hp hq => ?_, fun p hp q hq => ?_, by rw [g30, e40], ?_, by rw [r68 31 (by decide) (by decide), e404]; exact n5, by rw [e404]; exact n6⟩, hI.cg (r68 46 (by decide) (by decide)) (by rw [r 0 (by decide) (by omega) (by decide) (by decide) (by decide)]) (fun p _ => ?_) (r 6 (by decide) (by omega) (by decide) (by decide) (by decide)) (r 7 (by decide) (by omega) (by decide) (by decide) (by decide)) (r 8 (by decide) (by omega) (by decide) (by decide) (by decide)) (r 87 (by decide) (by omega) (by decide) (by decide) (by decide)) (r 88 (by decide) (by omega) (by decide) (by decide) (by decide)) (r 89 (by decide) (by omega) (by decide) (by decide) (by decide)), hR.cg (by rw [r 29 (by decide) (by omega) (by decide) (by decide) (by decide)]) (r68 8 (by decide) (by decide)) (r 37 (by decide) (by omega) (by decide) (by decide) (by decide)) (fun q hq => r _ (by omega) (by omega) (by omega) (by omega) (by omega)) (r 70 (by decide) (by omega) (by decide) (by decide) (by decide)) (r 71 (by decide) (by omega) (by decide) (by decide) (by decide))⟩
      · rw [r b (by rcases hb with rfl | rfl | rfl <;> decide) (by rcases hb with rfl | rfl | rfl <;> omega) (by rcases hb with rfl | rfl | rfl <;> decide) (by rcases hb with rfl | rfl | rfl <;> decide) (by rcases hb with rfl | rfl | rfl <;> decide)]
        exact ⟨rfl, rfl⟩
      · rw [r 0 (by decide) (by omega) (by decide) (by decide) (by decide)]
      · unfold InvG
        rw [r 2 (by decide) (by omega) (by decide) (by decide) (by decide), r 3 (by decide) (by omega) (by decide) (by decide) (by decide), r 4 (by decide) (by omega) (by decide) (by decide) (by decide), r 73 (by decide) (by omega) (by decide) (by decide) (by decide), r 75 (by decide) (by omega) (by decide) (by decide) (by decide), r 76 (by decide) (by omega) (by decide) (by decide) (by decide)]
        exact hG
      · by_cases w : p = a ∧ q = c
        · obtain ⟨rfl, rfl⟩ := w
          refine ⟨v, hv, by rw [e42 p q hp, if_pos ⟨rfl, rfl⟩], by rw [e83, if_pos rfl], by rw [t62 q (by omega), if_pos rfl], fun _ => ⟨ha, hc, hac⟩⟩
        · obtain ⟨k, k1, k2, k3, k4, k5⟩ := n1 p q hp hq
          refine ⟨k, k1, by rw [e42 p q hp, if_neg w]; exact k2, by rw [e83, if_neg (fun z => w (by omega))]; exact k3, ?_, k5⟩
          by_cases w2 : p = a
          · subst w2
            rw [t62 q (by omega), if_neg (fun z => w ⟨rfl, z⟩)]
            exact k4
          · rw [e62, if_neg w2]
            exact k4
      · by_cases w2 : p = a
        · subst w2
          have q32 : q < 32 := Decidable.byContradiction fun z => by
            rw [tb_32 (by omega)] at hq
            cases hq
          rw [t62 q q32] at hq
          by_cases w : q = c
          · rw [w]
            exact hc
          · rw [if_neg w] at hq
            exact n2 p hp q hq
        · rw [e62, if_neg w2] at hq
          exact n2 p hp q hq
      · have u := sm_upd (f := fun k => if g.1 83 k = 0 then 0 else 1) (g := fun k => if h.1 83 k = 0 then 0 else 1) (a := 20 * a + c) (n := 400) (by omega) (fun k hk => by rw [e83, if_neg hk])
        have z0 : ∀ k, k ≤ 99 → (nI k = 0 ↔ k = 0) := fun k hk => nI_eq (b := 0) (by omega) (by decide)
        have u : sm (fun k => if g.1 83 k = 0 then 0 else 1) 400 + (if h.1 83 (20 * a + c) = 0 then 0 else 1) = sm (fun k => if h.1 83 k = 0 then 0 else 1) 400 + (if g.1 83 (20 * a + c) = 0 then 0 else 1) := u
        rw [← c1, m3, e83, if_pos rfl] at u
        refine ⟨_, rfl, ?_⟩
        rw [e40, c3]
        generalize sm (fun k => if g.1 83 k = 0 then 0 else 1) 400 = S at u ⊢
        by_cases v0 : v = 0
        · subst v0
          rw [if_pos ((z0 0 (by omega)).mpr rfl)] at u
          by_cases w0 : m = 0
          · subst w0
            rw [if_pos ((z0 0 (by omega)).mpr rfl)] at u
            refine ⟨by omega, ?_⟩
            rw [if_neg (by omega), show ((0 : Int32) - 0) = 0 from rfl, Int32.add_zero]
            congr 1
            omega
          · rw [if_neg (fun z => w0 ((z0 m m1).mp z))] at u
            refine ⟨by omega, ?_⟩
            rw [if_neg (by omega), if_pos (by omega), show cn = S + 1 by omega, show ((0 : Int32) - 1) = -1 from rfl, nI_dec]
        · rw [if_neg (fun z => v0 ((z0 v hv).mp z))] at u
          by_cases w0 : m = 0
          · subst w0
            rw [if_pos ((z0 0 (by omega)).mpr rfl)] at u
            refine ⟨by omega, ?_⟩
            rw [if_pos (by omega), if_neg (by omega), show ((1 : Int32) - 0) = 1 from rfl, nI_1]
            congr 1
            omega
          · rw [if_neg (fun z => w0 ((z0 m m1).mp z))] at u
            refine ⟨by omega, ?_⟩
            rw [if_pos (by omega), if_pos (by omega), show ((1 : Int32) - 1) = 0 from rfl, Int32.add_zero]
            congr 1
            omega
      · rw [r 2 (by decide) (by omega) (by decide) (by decide) (by decide), r 3 (by decide) (by omega) (by decide) (by decide) (by decide), r 4 (by decide) (by omega) (by decide) (by decide) (by decide)]
        exact ⟨rfl, rfl, rfl⟩
  · have m0 : m = 0 := by omega
    subst m0
    refine Jn.rd i (sc0 (s_need (d := 58) hA0 i.F i.P ha hc hac hv rfl (fun d => s_put_no (d := d) hA0 i.F (by omega) (by omega) hv m2 (by omega) (by rw [lt60]; omega)))) (fun g s ig => ?_)
    refine sc1 (t_need_no (d := 58) hA0 ig.F ig.P ha hc hac hv ((s.1 83 _ rfl).trans m3) (by omega) ?_)
    rw [s.1 68 30 rfl, n3, c3]
    exact (nI_eq (b := 60) (by omega) (by decide)).mpr (by omega)
end J

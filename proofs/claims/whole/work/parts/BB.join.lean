/-! both sides' calls joined: market, post -/
section J
variable {X : CX} {nx sz n : Nat} {h g : AH}
/-- needs, as both sides keep them -/
theorem Inv.M (i : Inv h n) : ∃ (M : Nat → Nat → Nat) (c : Nat), CM h n (h.1 2) (h.1 3) M c ∧ ∀ g, Sc h g → CT g n (h.1 2) (h.1 3) M c := by
  obtain ⟨n1, n2, -, -, n5, c, c9, hc⟩ := i.N
  have h20 := i.n20
  have key : ∀ a b, a < 20 → b < 20 → (h.1 (42 + a) b).toNatClampNeg ≤ 99 ∧ h.1 (42 + a) b = nI (h.1 (42 + a) b).toNatClampNeg ∧ h.1 83 (20 * a + b) = nI (h.1 (42 + a) b).toNatClampNeg ∧ tb (h.1 62 a) b = decide (0 < (h.1 (42 + a) b).toNatClampNeg) ∧ (0 < (h.1 (42 + a) b).toNatClampNeg → a ≠ b) := fun a b ha hb => by
    obtain ⟨m, m1, m2, m3, m4, m5⟩ := n1 a b ha hb
    rw [m2, tN (by omega)]
    exact ⟨m1, rfl, m3, m4, fun z => (m5 z).2.2⟩
  refine ⟨fun a b => (h.1 (42 + a) b).toNatClampNeg, c, ⟨i.F, i.P, rfl, rfl, i.gs, i.ls, fun p hp => ⟨fun b hb => ?_, n2 p (by omega)⟩, hc, c9⟩, fun g s => ?_⟩
  · obtain ⟨k1, k2, k3, k4, k5⟩ := key p b (by omega) (by omega)
    exact ⟨k1, k2, k4, k5⟩
  · have ig := i.sc s
    have e1 := ig.gt
    have e2 := ig.lt
    rw [i.k73 s] at e1 e2
    rw [i.k75 s] at e2
    refine ⟨ig.F, ig.P, i.k73 s, i.k75 s, e1, e2, fun p hp b hb => ?_, (s.1 68 31 rfl).trans (n5.trans hc), c9⟩
    obtain ⟨k1, k2, k3, k4, k5⟩ := key p b (by omega) (by omega)
    exact ⟨k1, (s.1 83 _ rfl).trans k3, k5⟩
theorem j_value {x : Int32} (hA0 : 91 ≤ nx) (i : Inv h n) : Jn X m_X11_value [.ref 0, .int x] m_X12_value [.ref 68, .int x] h n nx sz := by
  have h20 := i.n20
  rcases has01 (n := n) (x := x) with c | c
  · exact Jn.rd i (sc0 (s_value_bad (d := 58) hA0 i.F i.P c)) (fun g s ig => sc1 (t_value_bad (d := 58) hA0 ig.P c))
  · obtain ⟨a, ha, rfl⟩ := (hasI_1 (by omega)).mp c
    obtain ⟨M, c, cm, ct⟩ := i.M
    refine Jn.rd i (sc0 (s_value (d := 58) hA0 i.F i.P ha (cm.2.2.2.2.2.2.1 a ha))) (fun g s ig => ?_)
    have t := sc1 (t_value (X := X) (d := 56) (nx := nx) (sz := sz) hA0 ig.F ig.P ig.kb ha ((ct g s).2.2.2.2.2.2.1 a ha))
    rw [i.k73 s] at t
    exact t
theorem j_gain {x1 x2 x3 x4 x5 : Int32} (hA0 : 91 ≤ nx) (i : Inv h n) : Jn X m_X11_gain [.ref 0, .int x1, .int x2, .int x3, .int x4, .int x5] m_X12_gain [.ref 68, .int x1, .int x2, .int x3, .int x4, .int x5] h n nx sz := by
  have h20 := i.n20
  obtain ⟨M, c, cm, ct⟩ := i.M
  by_cases b : bdG n x1 x2 x3 x4 x5
  · exact Jn.rd i (sc0 (s_gain_bad (d := 55) hA0 cm b)) (fun g s ig => sc1 (t_gain_bad (d := 57) hA0 (ct g s) b))
  · obtain ⟨a, b', o, p, ha, hb, hab, ho, hp, rfl, rfl, rfl, rfl⟩ := nbd4 (n := n) (by omega) (fun z => b (Or.inr (Or.inr z)))
    rcases c_rng 1 (by decide) x5 with ⟨w, hw, rfl⟩ | z | z
    · exact Jn.rd i (sc0 (s_gain (d := 55) hA0 cm ha hb hab ho hp hw)) (fun g s ig => t_gain (d := 55) hA0 (ct g s) ha hb hab ho hp hw)
    · exact absurd (Or.inl z) b
    · exact absurd (Or.inr (Or.inl (Int32.not_le.mp z))) b
theorem j_best {x y : Int32} (hA0 : 91 ≤ nx) (i : Inv h n) : Jn X m_X11_best [.ref 0, .int x, .int y] m_X12_best [.ref 68, .int x, .int y] h n nx sz := by
  have h20 := i.n20
  by_cases b : hasI n x = 0 ∨ y < 0 ∨ 3 < y
  · exact Jn.rd i (sc0 (s_best_bad (d := 59) hA0 i.F i.P b)) (fun g s ig => sc1 (t_best_bad (d := 59) hA0 ig.P b))
  · obtain ⟨M, c, cm, ct⟩ := i.M
    obtain ⟨a, ha, rfl⟩ := hasI_ne (n := n) (by omega) (fun z => b (Or.inl z))
    exact Jn.rd i (s_best (d := 53) hA0 cm ha (fun z => b (Or.inr (Or.inl z))) (fun z => b (Or.inr (Or.inr z)))) (fun g s ig => t_best (d := 53) hA0 (ct g s) ha (fun z => b (Or.inr (Or.inl z))) (fun z => b (Or.inr (Or.inr z))))
theorem j_stable (hA0 : 91 ≤ nx) (i : Inv h n) : Jn X m_X11_stable [.ref 0] m_X12_stable [.ref 68] h n nx sz := by
  obtain ⟨M, c, cm, ct⟩ := i.M
  exact Jn.rd i (s_stable (d := 53) hA0 cm) (fun g s ig => t_stable (d := 53) hA0 (ct g s))
theorem j_send {x1 x2 x3 x4 : Int32} (hA0 : 91 ≤ nx) (i : Inv h n) : Jn X m_X11_send [.ref 0, .int x1, .int x2, .int x3, .int x4] m_X12_send [.ref 68, .int x1, .int x2, .int x3, .int x4] h n nx sz := by
  obtain ⟨m, C, T, ln, hm, r1, r2, r3, r4⟩ := i.R
  refine Jn.rd i (s_send (d := 54) (C := C) hA0 i.F i.P i.gs.kb hm r1 r3) (fun g s ig => ?_)
  have t := t_send (X := X) (D := 25) (nx := nx) (sz := sz) (C := C) (x1 := x1) (x2 := x2) (x3 := x3) (x4 := x4) hA0 ig.F ig.P hm ((s.1 68 8 rfl).trans r2) (fun r hr => (r4 r hr).sc s)
  rw [i.k73 s] at t
  exact t
theorem j_comes {x1 x2 : Int32} (hA0 : 91 ≤ nx) (i : Inv h n) : Jn X m_X11_comes [.ref 0, .int x1, .int x2] m_X12_comes [.ref 68, .int x1, .int x2] h n nx sz := by
  obtain ⟨m, C, T, ln, hm, r1, r2, r3, r4⟩ := i.R
  refine Jn.rd i (s_comes (d := 53) (C := C) hA0 i.F i.P i.gs.kb hm r1 r3) (fun g s ig => ?_)
  have t := t_comes (X := X) (D := 25) (nx := nx) (sz := sz) (C := C) (x1 := x1) (x2 := x2) hA0 ig.F ig.P hm ((s.1 68 8 rfl).trans r2) (fun r hr => (r4 r hr).sc s)
  rw [i.k73 s] at t
  exact t
-- what is kept, part by part
theorem InvP.cg (i : InvP h n) (e1 : ∀ a, IsNet a → g.1 a 0 = h.1 a 0 ∧ g.1 a 1 = h.1 a 1) (e2 : g.1 0 0 = h.1 0 0) (e3 : g.1 68 1 = h.1 68 1) : InvP g n :=
  ⟨i.1, i.2.1, e2.trans i.2.2.1, fun a ha => ⟨(e1 a ha).1.trans (i.2.2.2.1 a ha).1, (e1 a ha).2.trans (i.2.2.2.1 a ha).2⟩, e3.trans i.2.2.2.2⟩
theorem InvT.cg (i : InvT h) (e1 : g.1 23 1 = h.1 23 1) (e2 : g.1 68 7 = h.1 68 7) (e3 : g.1 24 = h.1 24) (e4 : g.1 69 = h.1 69) : InvT g := by
  unfold InvT
  rw [e1, e2, e3, e4]
  exact i
theorem InvN.cg (i : InvN h n) (e1 : ∀ a, a < 20 → g.1 (42 + a) = h.1 (42 + a)) (e2 : g.1 83 = h.1 83) (e3 : g.1 62 = h.1 62) (e4 : g.1 68 30 = h.1 68 30) (e5 : g.1 40 3 = h.1 40 3) (e6 : g.1 68 31 = h.1 68 31) (e7 : g.1 40 4 = h.1 40 4) : InvN g n := by
  unfold InvN
  rw [e2, e3, e4, e5, e6, e7]
  refine ⟨fun a b ha hb => ?_, i.2⟩
  rw [e1 a ha]
  exact i.1 a b ha hb
theorem InvR.cg (i : InvR h) (e1 : g.1 29 4 = h.1 29 4) (e2 : g.1 68 8 = h.1 68 8) (e3 : g.1 37 = h.1 37) (e4 : ∀ r, r < 6 → g.1 (31 + r) = h.1 (31 + r)) (e5 : g.1 70 = h.1 70) (e6 : g.1 71 = h.1 71) : InvR g := by
  obtain ⟨m, C, T, ln, hm, r1, r2, r3, r4⟩ := i
  refine ⟨m, C, T, ln, hm, e1.trans r1, e2.trans r2, fun r hr => ?_, fun r hr => ?_⟩
  · have := r3 r hr
    unfold CodA
    rw [e3, e4 r (by omega)]
    exact this
  · have := r4 r hr
    unfold RulA
    rw [e5, e6]
    exact this
theorem InvI.cg (i : InvI h n) (e1 : g.1 68 46 = h.1 68 46) (e2 : g.1 0 14 = h.1 0 14) (e3 : ∀ p, n ≤ p → g.1 2 p = h.1 2 p ∧ g.1 3 p = h.1 3 p ∧ g.1 4 p = h.1 4 p) (e6 : g.1 6 = h.1 6) (e7 : g.1 7 = h.1 7) (e8 : g.1 8 = h.1 8) (f6 : g.1 87 = h.1 87) (f7 : g.1 88 = h.1 88) (f8 : g.1 89 = h.1 89) : InvI g n := by
  obtain ⟨i1, i2, i3, i4⟩ := i
  unfold InvI
  rw [e1, e2, e6, e7, e8, f6, f7, f8]
  refine ⟨i1, i2, fun p hp => ?_, i4⟩
  obtain ⟨a, b, c⟩ := e3 p hp
  rw [a, b, c]
  exact i3 p hp
/-- nothing but the nets' rows, and scratch, has changed -/
def Nc (h g : AH) : Prop := (∀ a j, Scr a j = false → [2, 3, 4, 73, 75, 76].contains a = false → g.1 a j = h.1 a j) ∧ ∀ k j, ¬ (k = 68 ∧ j = 6) → g.2.2 k j = h.2.2 k j
theorem Nc.of {h g : AH} (s : Sc h g) : Nc h g := ⟨fun a j q _ => s.1 a j q, s.2.1⟩
theorem Nc.trans {a b c : AH} (s : Nc a b) (t : Nc b c) : Nc a c := ⟨fun x j p q => (t.1 x j p q).trans (s.1 x j p q), fun k j q => (t.2 k j q).trans (s.2 k j q)⟩
theorem nc_A {h g : AH} {a : Nat} {F : Nat → Int32} (s : Nc h g) (ha : [2, 3, 4, 73, 75, 76].contains a = true) : Nc h (setA g a F) := ⟨fun b j p q => by
  have e : b ≠ a := fun z => by rw [z, ha] at q; cases q
  rw [setA_get_ne e]
  exact s.1 b j p q, s.2⟩
theorem nc_I {h g : AH} {a k : Nat} {x : Int32} (s : Nc h g) (ha : [2, 3, 4, 73, 75, 76].contains a = true) : Nc h (setI g a k x) := by
  rw [setI_A]
  exact nc_A s ha
theorem Nc.row {h g : AH} (s : Nc h g) {a : Nat} (h1 : ∀ j, Scr a j = false) (h2 : [2, 3, 4, 73, 75, 76].contains a = false) : g.1 a = h.1 a := funext fun j => s.1 a j (h1 j) h2
theorem scr_need : ∀ a, a < 20 → (∀ j, Scr (42 + a) j = false) ∧ [2, 3, 4, 73, 75, 76].contains (42 + a) = false := fun a ha => by
  have h1 : ∀ a, a < 20 → (scrA.contains (42 + a) || scrF.any (fun q => q.1 == 42 + a)) = false := by decide
  have h2 : ∀ a, a < 20 → [2, 3, 4, 73, 75, 76].contains (42 + a) = false := by decide
  refine ⟨fun j => ?_, h2 a ha⟩
  have h1 := h1 a ha
  rw [Bool.or_eq_false_iff] at h1
  unfold Scr
  rw [h1.1, Bool.false_or]
  cases hq : scrF.contains (42 + a, j) with
  | false => rfl
  | true =>
    rw [List.contains_iff_mem] at hq
    have h2 := List.any_eq_false.mp h1.2 _ hq
    simp at h2
theorem scr_code : ∀ r, r < 6 → (∀ j, Scr (31 + r) j = false) ∧ [2, 3, 4, 73, 75, 76].contains (31 + r) = false := fun a ha => by
  have h1 : ∀ a, a < 6 → (scrA.contains (31 + a) || scrF.any (fun q => q.1 == 31 + a)) = false := by decide
  have h2 : ∀ a, a < 6 → [2, 3, 4, 73, 75, 76].contains (31 + a) = false := by decide
  refine ⟨fun j => ?_, h2 a ha⟩
  have h1 := h1 a ha
  rw [Bool.or_eq_false_iff] at h1
  unfold Scr
  rw [h1.1, Bool.false_or]
  cases hq : scrF.contains (31 + a, j) with
  | false => rfl
  | true =>
    rw [List.contains_iff_mem] at hq
    have h2 := List.any_eq_false.mp h1.2 _ hq
    simp at h2
theorem Nc.fx {h g : AH} (hF : Fx h) (s : Nc h g) : Fx g := fun k j r hr => by
  rw [s.2 k j (fun z => by rw [z.1, z.2] at hr; cases hr)]
  exact hF k j r hr
/-- a new net, with the same on both sides, keeps all -/
theorem Inv.nc (i : Inv h n) (c : Nc h g) (e73 : g.1 73 = g.1 2) (e75 : g.1 75 = g.1 3) (e76 : g.1 76 = g.1 4) (hg : Gr n (g.1 2)) (hL : Lm n (g.1 2) (g.1 3)) (ob : ∀ p, n ≤ p → g.1 3 p = h.1 3 p ∧ g.1 4 p = h.1 4 p) : Inv g n := by
  obtain ⟨hF, hP, hG, hT, hN, hI, hR⟩ := i
  have out : ∀ (K : Nat → Int32), Gr n K → ∀ p, n ≤ p → K p = 0 := fun K k p hp => tb_ext fun b hb => by rw [k.out p b hp, tb_0]
  refine ⟨c.fx hF, hP.cg (fun a ha => ?_) (c.1 0 0 rfl rfl) (c.1 68 1 rfl rfl), ⟨e73, e75, e76, hg, hL⟩, hT.cg (c.1 23 1 rfl rfl) (c.1 68 7 rfl rfl) (c.row (fun j => rfl) rfl) (c.row (fun j => rfl) rfl), hN.cg (fun a ha => c.row (scr_need a ha).1 (scr_need a ha).2) (c.row (fun j => rfl) rfl) (c.row (fun j => rfl) rfl) (c.1 68 30 rfl rfl) (c.1 40 3 rfl rfl) (c.1 68 31 rfl rfl) (c.1 40 4 rfl rfl), hI.cg (c.1 68 46 rfl rfl) (c.1 0 14 rfl rfl) (fun p hp => ⟨?_, ob p hp⟩) (c.row (fun j => rfl) rfl) (c.row (fun j => rfl) rfl) (c.row (fun j => rfl) rfl) (c.row (fun j => rfl) rfl) (c.row (fun j => rfl) rfl) (c.row (fun j => rfl) rfl), hR.cg (c.1 29 4 rfl rfl) (c.1 68 8 rfl rfl) (c.row (fun j => rfl) rfl) (fun r hr => c.row (scr_code r hr).1 (scr_code r hr).2) (c.row (fun j => rfl) rfl) (c.row (fun j => rfl) rfl)⟩
  · rcases ha with rfl | rfl | rfl
    · exact ⟨c.1 1 0 rfl rfl, c.1 1 1 rfl rfl⟩
    · exact ⟨c.1 5 0 rfl rfl, c.1 5 1 rfl rfl⟩
    · exact ⟨c.1 9 0 rfl rfl, c.1 9 1 rfl rfl⟩
  · rw [out _ hg p hp, out _ hG.2.2.2.1 p hp]
end J

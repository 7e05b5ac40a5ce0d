/-! both sides' calls joined: turn, years, ring, image, back -/
section J
variable {X : CX} {nx sz n : Nat} {h g : AH}
theorem j_turn (hA0 : 91 ≤ nx) (i : Inv h n) : Jn X m_X11_turn [.ref 0] m_X12_turn [.ref 68] h n nx sz := by
  obtain ⟨M, c, cm, ct⟩ := i.M
  refine ⟨_, s_turn (d := 52) hA0 cm, fun y g q => ?_⟩
  cases e : tnF (h.1 3) n M c 41 (h.1 2, 0) with
  | none =>
    simp only [e] at q
    obtain ⟨rfl, s⟩ := q
    refine (t_turn (d := 53) hA0 (ct g s)).ri (fun y g' q => ?_)
    simp only [e] at q
    exact ⟨q.1, (i.sc s).sc q.2⟩
  | some t =>
    simp only [e] at q
    obtain ⟨rfl, to, g0, s0, rfl⟩ := q
    refine (t_turn (d := 53) hA0 (ct g0 s0).A2).ri (fun y g q => ?_)
    simp only [e] at q
    obtain ⟨rfl, -, g1, s1, rfl⟩ := q
    exact ⟨rfl, i.net2 s0 s1 to.1 to.2.1⟩
theorem dyA_out {e : Nat} {x : Int64} {A : Nat → Int32} : ∀ (k p : Nat), k ≤ p → dyA e x A k p = A p
  | 0, _, _ => rfl
  | k + 1, p, hp => by
    show (if p = k then _ else dyA e x A k p) = _
    rw [if_neg (by omega)]
    exact dyA_out k p (by omega)
theorem yrN_out {c : List Nat} {L : Nat → Int32} {n e : Nat} {pr : Int32} {s : YS} : ∀ (k p : Nat), n ≤ p → (yrN c L n pr e s k).2.1 p = s.2.1 p
  | 0, _, _ => rfl
  | k + 1, p, hp => by
    show dyA e (yrN c L n pr e s k).2.2 (yrN c L n pr e s k).2.1 n p = _
    rw [dyA_out n p hp]
    exact yrN_out k p hp
theorem nc_two {a b : Nat} {K A : Nat → Int32} {g : AH} (ha : [2, 3, 4, 73, 75, 76].contains a = true) (hb : [2, 3, 4, 73, 75, 76].contains b = true) : Nc g (S2 a b g K A) := nc_A (nc_A (Nc.of Sc.rfl) ha) hb
theorem InvP.nc (i : InvP h n) (c : Nc h g) : InvP g n := i.cg (fun a ha => by
  rcases ha with rfl | rfl | rfl
  · exact ⟨c.1 1 0 rfl rfl, c.1 1 1 rfl rfl⟩
  · exact ⟨c.1 5 0 rfl rfl, c.1 5 1 rfl rfl⟩
  · exact ⟨c.1 9 0 rfl rfl, c.1 9 1 rfl rfl⟩) (c.1 0 0 rfl rfl) (c.1 68 1 rfl rfl)
theorem RulA.nc {r ln : Nat} {T : Nat → Nat} {c : List Nat} (R : RulA h r T ln c) (s : Nc h g) : RulA g r T ln c := by
  unfold RulA
  rw [s.row (a := 70) (fun j => rfl) rfl, s.row (a := 71) (fun j => rfl) rfl]
  exact R
theorem j_years {x1 x2 x3 : Int32} {j4 : Int64} (hA0 : 91 ≤ nx) (i : Inv h n) : Jn X m_X11_years [.ref 0, .int x1, .int x2, .int x3, .long j4] m_X12_years [.ref 68, .int x1, .int x2, .int x3, .long j4] h n nx sz := by
  obtain ⟨m, C, T, ln, hm, r1, r2, r3, r4⟩ := i.R
  have sy := s_years (X := X) (d := 52) (nx := nx) (sz := sz) (C := C) (x1 := x1) (x2 := x2) (x3 := x3) (j4 := j4) hA0 i.F i.P i.gs i.ls hm r1 r3
  by_cases ok : yrOK m x1 x2 x3
  · obtain ⟨r, e, Y, hr, he, hY1, hY, rfl, rfl, rfl, mk⟩ := sy.1 ok
    refine ⟨_, mk, fun y g q => ?_⟩
    obtain ⟨rfl, s⟩ := q
    obtain ⟨S, hS⟩ : ∃ S, S = yrN (C r) (h.1 3) n (h.1 40 4) e (h.1 2, h.1 4, j4) Y := ⟨_, rfl⟩
    rw [← hS] at s
    have nc : Nc h g := (nc_two rfl rfl).trans (Nc.of s)
    have e73 : g.1 73 = h.1 2 := (s.row (fun j => rfl)).trans i.G.1
    have e75 : g.1 75 = h.1 3 := (s.row (fun j => rfl)).trans i.G.2.1
    have e76 : g.1 76 = h.1 4 := (s.row (fun j => rfl)).trans i.G.2.2.1
    have e31 : g.1 68 31 = h.1 40 4 := (nc.1 68 31 rfl rfl).trans i.N.2.2.2.2.1
    have t := t_years (X := X) (x1 := 0) (x2 := 0) (x3 := 0) (D := 25) (nx := nx) (sz := sz) (C := C) (T := T) (ln := ln) (j4 := j4) (h := g) (n := n) hA0 (nc.fx i.F) (i.P.nc nc) (by rw [e73]; exact i.gs) (by rw [e73, e75]; exact i.ls) hm ((nc.1 68 8 rfl rfl).trans r2) (fun r hr => (r4 r hr).nc nc) hr he hY1 hY
    rw [e73, e75, e76, e31, ← hS] at t
    refine t.ri (fun y g' q => ⟨q.1, ?_⟩)
    obtain ⟨-, s'⟩ := q
    obtain ⟨gS, lS⟩ := yrN_ok (c := C r) (L := h.1 3) (pr := h.1 40 4) (e := e) (s := (h.1 2, h.1 4, j4)) i.n20 i.gs i.ls Y
    rw [← hS] at gS lS
    have k2 : g'.1 2 = S.1 := (s'.row (fun j => rfl)).trans ((S2_o (by decide) (by decide)).trans ((s.row (fun j => rfl)).trans (S2_a (by decide))))
    have k3 : g'.1 3 = h.1 3 := (s'.row (fun j => rfl)).trans ((S2_o (by decide) (by decide)).trans ((s.row (fun j => rfl)).trans (S2_o (by decide) (by decide))))
    have k4 : g'.1 4 = S.2.1 := (s'.row (fun j => rfl)).trans ((S2_o (by decide) (by decide)).trans ((s.row (fun j => rfl)).trans S2_b))
    have k73 : g'.1 73 = S.1 := (s'.row (fun j => rfl)).trans (S2_a (by decide))
    have k75 : g'.1 75 = h.1 3 := (s'.row (fun j => rfl)).trans ((S2_o (by decide) (by decide)).trans e75)
    have k76 : g'.1 76 = S.2.1 := (s'.row (fun j => rfl)).trans S2_b
    refine i.nc (nc.trans ((nc_two rfl rfl).trans (Nc.of s'))) (k73.trans k2.symm) (k75.trans k3.symm) (k76.trans k4.symm) (by rw [k2]; exact gS) (by rw [k2, k3]; exact lS) (fun p hp => ⟨by rw [k3], ?_⟩)
    rw [k4, hS]
    exact yrN_out Y p hp
  · exact Jn.rd i (sc0 (sy.2 ok)) (fun g s ig => sc1 (t_years_bad (D := 59) hA0 ((s.1 68 8 rfl).trans r2) ok))
theorem j_ring {x : Int32} (hA0 : 91 ≤ nx) (i : Inv h n) : Jn X m_X11_ring [.ref 0, .int x] m_X12_ring [.ref 68, .int x] h n nx sz := by
  have h20 := i.n20
  by_cases c : okx n x
  · obtain ⟨j, rfl, ok⟩ := c
    have se := s_ring (X := X) (d := 57) (nx := nx) (sz := sz) hA0 i.F i.P ok (Classical.propDecidable _)
    by_cases r : rOk n (h.1 3) j
    · rw [if_pos r, if_pos r] at se
      refine ⟨_, se, fun y g q => ?_⟩
      obtain ⟨rfl, rfl⟩ := q
      have te := t_ring (X := X) (d := 57) (nx := nx) (sz := sz) (h := setA h 2 (upto n (rK n (nI j)) (h.1 2))) (n := n) hA0 (i.F.of rfl) (i.P.A (Or.inl rfl)) ok (Classical.propDecidable _)
      have e73 : (setA h 2 (upto n (rK n (nI j)) (h.1 2))).1 73 = h.1 2 := i.G.1
      have e75 : (setA h 2 (upto n (rK n (nI j)) (h.1 2))).1 75 = h.1 3 := i.G.2.1
      rw [e73, e75, if_pos r, if_pos r] at te
      refine te.ri (fun y g q => ⟨q.1, ?_⟩)
      obtain ⟨-, rfl⟩ := q
      have gr := rK_gr (K := h.1 2) i.P.1 h20 ok (fun p b hp => i.gs.out p b hp)
      refine i.net2 Sc.rfl (Sc.rfl.setI rfl) gr (fun p hp => ?_)
      obtain ⟨l, l1, l2, l3⟩ := i.ls p hp
      refine ⟨l, l1, l2, ?_⟩
      have rp := r p hp
      have eu : upto n (rK n (nI j)) (h.1 2) p = rK n (nI j) p := upto_lt hp
      rw [← eu, gr.cnt h20 p, l2, le_nI (by have := cnt_le (x := upto n (rK n (nI j)) (h.1 2) p) (n := n); omega) (by omega)] at rp
      exact rp
    · rw [if_neg r, if_neg r] at se
      refine Jn.rd i (sc0 se) (fun g s ig => ?_)
      have te := t_ring (X := X) (d := 57) (nx := nx) (sz := sz) hA0 ig.F ig.P ok (Classical.propDecidable _)
      rw [if_neg (by rw [i.k75 s]; exact r), if_neg (by rw [i.k75 s]; exact r)] at te
      exact sc1 te
  · exact Jn.rd i (sc0 (s_ring_bad (d := 59) hA0 i.P c)) (fun g s ig => sc1 (t_ring_bad (d := 58) hA0 ig.P c))
theorem cp_eq {f g : Nat → Int32} (h : ∀ p, 20 ≤ p → g p = f p) : cp f g = f := funext fun k => by
  unfold cp
  rw [cpy_at]
  by_cases q : k < 20
  · rw [if_pos q]
  · rw [if_neg q]
    exact h k (by omega)
theorem setI_row {a b k : Nat} {x : Int32} (e : b ≠ a) : (setI h a k x).1 b = h.1 b := funext fun j => setI_b e
theorem Inv.I (i : Inv h n) : InvI h n := i.2.2.2.2.2.1
theorem j_image (hA0 : 91 ≤ nx) (i : Inv h n) : Jn X m_X11_image [.ref 0] m_X12_image [.ref 68] h n nx sz := by
  have h20 := i.n20
  obtain ⟨i1, i2, i3, i4⟩ := i.I
  have se := s_image (X := X) (d := 57) (nx := nx) (sz := sz) hA0 i.F i.P
  rw [cp_eq (fun p hp => (i3 p (by omega)).1), cp_eq (fun p hp => (i3 p (by omega)).2.1), cp_eq (fun p hp => (i3 p (by omega)).2.2)] at se
  refine ⟨_, se, fun y g q => ?_⟩
  obtain ⟨rfl, rfl⟩ := q
  have te := t_image (X := X) (d := 58) (nx := nx) (sz := sz) (h := setI (setA (setA (setA h 6 (h.1 2)) 7 (h.1 3)) 8 (h.1 4)) 0 14 1) (n := n) hA0 (i.F.of rfl) (i.P.cg (fun a ha => by rcases ha with rfl | rfl | rfl <;> exact ⟨rfl, rfl⟩) rfl rfl)
  have e73 : (setI (setA (setA (setA h 6 (h.1 2)) 7 (h.1 3)) 8 (h.1 4)) 0 14 1).1 73 = h.1 2 := i.G.1
  have e75 : (setI (setA (setA (setA h 6 (h.1 2)) 7 (h.1 3)) 8 (h.1 4)) 0 14 1).1 75 = h.1 3 := i.G.2.1
  have e76 : (setI (setA (setA (setA h 6 (h.1 2)) 7 (h.1 3)) 8 (h.1 4)) 0 14 1).1 76 = h.1 4 := i.G.2.2.1
  rw [e73, e75, e76] at te
  refine te.ri (fun y g q => ⟨q.1, ?_⟩)
  obtain ⟨-, e⟩ := q
  obtain ⟨hF, hP, hG, hT, hN, hI, hR⟩ := i
  have r : ∀ b, b ≠ 0 → b ≠ 6 → b ≠ 7 → b ≠ 8 → b ≠ 68 → b ≠ 87 → b ≠ 88 → b ≠ 89 → g.1 b = h.1 b := fun b b0 b6 b7 b8 b68 b87 b88 b89 => by
    rw [← e, setI_row b68, setA_get_ne b89, setA_get_ne b88, setA_get_ne b87, setI_row b68, setI_row b0, setA_get_ne b8, setA_get_ne b7, setA_get_ne b6]
  have u : ∀ (f F : Nat → Int32) (p : Nat), p < n → upto n f F p = f p := fun f F p hp => upto_lt hp
  refine ⟨by rw [← e]; exact hF, hP.cg (fun a ha => ?_) (by rw [← e]; rfl) (by rw [← e]; rfl), by rw [← e]; exact hG, hT.cg (by rw [← e]; rfl) (by rw [← e]; rfl) (by rw [← e]; rfl) (by rw [← e]; rfl), hN.cg (fun a ha => r _ (by omega) (by omega) (by omega) (by omega) (by omega) (by omega) (by omega) (by omega)) (by rw [← e]; rfl) (by rw [← e]; rfl) (by rw [← e]; rfl) (by rw [← e]; rfl) (by rw [← e]; rfl) (by rw [← e]; rfl), ?_, hR.cg (by rw [← e]; rfl) (by rw [← e]; rfl) (by rw [← e]; rfl) (fun q hq => r _ (by omega) (by omega) (by omega) (by omega) (by omega) (by omega) (by omega) (by omega)) (by rw [← e]; rfl) (by rw [← e]; rfl)⟩
  · rw [← e]
    rcases ha with rfl | rfl | rfl <;> exact ⟨rfl, rfl⟩
  · rw [← e]
    exact ⟨rfl, Or.inr rfl, fun p hp => ⟨rfl, rfl, rfl⟩, fun _ => ⟨fun p hp => ⟨u (h.1 2) _ p hp, u (h.1 3) _ p hp, u (h.1 4) _ p hp⟩, hG.2.2.2.1, hG.2.2.2.2⟩⟩
theorem j_back (hA0 : 91 ≤ nx) (i : Inv h n) : Jn X m_X11_back [.ref 0] m_X12_back [.ref 68] h n nx sz := by
  have h20 := i.n20
  obtain ⟨i1, i2, i3, i4⟩ := i.I
  rcases i2 with c | c
  · exact Jn.rd i (sc0 (s_back_bad (d := 57) hA0 i.F c)) (fun g s ig => sc1 (t_back_bad (d := 58) hA0 ((s.1 68 46 rfl).trans (i1.trans c))))
  · obtain ⟨i5, i6, i7⟩ := i4 c
    have se := s_back (X := X) (d := 57) (nx := nx) (sz := sz) hA0 i.F i.P c
    rw [cp_eq (fun p hp => (i3 p (by omega)).1.symm), cp_eq (fun p hp => (i3 p (by omega)).2.1.symm), cp_eq (fun p hp => (i3 p (by omega)).2.2.symm)] at se
    refine ⟨_, se, fun y g q => ?_⟩
    obtain ⟨rfl, rfl⟩ := q
    have te := t_back (X := X) (d := 58) (nx := nx) (sz := sz) (h := setA (setA (setA h 2 (h.1 6)) 3 (h.1 7)) 4 (h.1 8)) (n := n) hA0 (i.F.of rfl) (i.P.cg (fun a ha => by rcases ha with rfl | rfl | rfl <;> exact ⟨rfl, rfl⟩) rfl rfl) (i1.trans c)
    have e73 : upto n ((setA (setA (setA h 2 (h.1 6)) 3 (h.1 7)) 4 (h.1 8)).1 87) ((setA (setA (setA h 2 (h.1 6)) 3 (h.1 7)) 4 (h.1 8)).1 73) = h.1 6 := by
      funext k
      show upto n (h.1 87) (h.1 73) k = _
      unfold upto
      by_cases q : k < n
      · rw [if_pos q]
        exact (i5 k q).1
      · rw [if_neg q, i.G.1]
        exact (i3 k (by omega)).1.symm
    have e75 : upto n ((setA (setA (setA h 2 (h.1 6)) 3 (h.1 7)) 4 (h.1 8)).1 88) ((setA (setA (setA h 2 (h.1 6)) 3 (h.1 7)) 4 (h.1 8)).1 75) = h.1 7 := by
      funext k
      show upto n (h.1 88) (h.1 75) k = _
      unfold upto
      by_cases q : k < n
      · rw [if_pos q]
        exact (i5 k q).2.1
      · rw [if_neg q, i.G.2.1]
        exact (i3 k (by omega)).2.1.symm
    have e76 : upto n ((setA (setA (setA h 2 (h.1 6)) 3 (h.1 7)) 4 (h.1 8)).1 89) ((setA (setA (setA h 2 (h.1 6)) 3 (h.1 7)) 4 (h.1 8)).1 76) = h.1 8 := by
      funext k
      show upto n (h.1 89) (h.1 76) k = _
      unfold upto
      by_cases q : k < n
      · rw [if_pos q]
        exact (i5 k q).2.2
      · rw [if_neg q, i.G.2.2.1]
        exact (i3 k (by omega)).2.2.symm
    rw [e73, e75, e76] at te
    refine te.ri (fun y g q => ⟨q.1, ?_⟩)
    obtain ⟨-, rfl⟩ := q
    exact i.nc (nc_A (nc_A (nc_A ((nc_A (nc_A (nc_A (Nc.of Sc.rfl) rfl) rfl) rfl).trans (Nc.of (Sc.rfl.setI rfl))) rfl) rfl) rfl) rfl rfl rfl i6 i7 (fun p hp => ⟨(i3 p hp).2.1, (i3 p hp).2.2⟩)
end J

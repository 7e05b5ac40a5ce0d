/-! years: the class -/
section PO
/-- what years answers, and what it leaves -/
def yrOK (m : Nat) (x1 x2 x3 : Int32) : Prop := hasI m x1 ≠ 0 ∧ ¬ x2 < 0 ∧ ¬ 100 < x2 ∧ ¬ x3 < 1 ∧ x3 ≤ 30
def yrV (c : List Nat) (L : Nat → Int32) (n : Nat) (pr : Int32) (e Y : Nat) (s : YS) : Int32 := smI (yrD c L n pr e s) Y
end PO
section OPS
variable {X : CX} {d D nx sz : Nat} {g h h0 : AH} {n m : Nat} {c : List Nat} {K A L K' A' : Nat → Int32} {x y v : Int64} {C : Nat → List Nat}
def YI (h : AH) (s : YS) (g : AH) : Prop := Sc (S2 2 4 h s.1 s.2.1) g ∧ Z14 g ∧ g.2.1 66 4 = s.2.2
theorem CodA.two {r : Nat} (C : CodA h r c) (hr : r < 6) : CodA (S2 2 4 h K A) r c := by
  obtain ⟨c1, c2, c3, c4⟩ := C
  refine ⟨c1, ?_, fun i hi => ?_, c4⟩
  · rw [S2_o (by decide) (by decide)]
    exact c2
  · rw [S2_o (by omega) (by omega)]
    exact c3 i hi
theorem YI.cal {r : Nat} {s : YS} (i : YI h s g) (hF : Fx h) (hP : NP h 1 n) (hr : r < 6) (C : CodA h r c) : Fx g ∧ NP g 1 n ∧ CodA g r c ∧ g.1 2 = s.1 ∧ g.1 4 = s.2.1 ∧ g.1 3 = h.1 3 ∧ g.1 40 4 = h.1 40 4 := by
  obtain ⟨s1, s2, s3⟩ := i
  have hP2 : NP (S2 2 4 h s.1 s.2.1) 1 n := hP
  refine ⟨Fx.sc (h := S2 2 4 h s.1 s.2.1) hF s1, hP2.sc s1, (C.two hr).sc hr s1, (s1.row (fun j => rfl)).trans (S2_a (by decide)), (s1.row (fun j => rfl)).trans S2_b, (s1.row (a := 3) (fun j => rfl)).trans (S2_o (by decide) (by decide)), (s1.1 40 4 rfl).trans rfl⟩
theorem s_pass {r e Y : Nat} {j4 : Int64} (hA0 : 91 ≤ nx) (hF : Fx h) (hP : NP h 1 n) (hg : Gr n (h.1 2)) (hL : Lm n (h.1 2) (h.1 3)) (he : e ≤ 100) (hY : Y ≤ 30) (hr : r < 6) (C : CodA h r c) : Mk X (d + 7) m_X0_pass [.ref 66, .int (nI r), .int (nI e), .int (nI Y), .long j4] h nx sz (RI fun y g => y = yrV c (h.1 3) n (h.1 40 4) e Y (h.1 2, h.1 4, j4) ∧ Sc (S2 2 4 h (yrN c (h.1 3) n (h.1 40 4) e (h.1 2, h.1 4, j4) Y).1 (yrN c (h.1 3) n (h.1 40 4) e (h.1 2, h.1 4, j4) Y).2.1) g) := by
  obtain ⟨hn, n0, n1, n2, n20⟩ := id hP
  refine e_X0_pass (c_X0_pass_0 hA0 hF RO_rm hcs0 (e_X8_forgetLetters (c_X8_forgetLetters_0 hA0 hF RO_rm hcs0 (s_fill (d := d + 5) (r := 39) (N := 9) (v := 0) rfl (by omega) (by decide)) (fun g pg => c_X8_forgetLetters_8 (Q := RV fun g => g.2 = h.2 ∧ (∀ b, b ≠ 39 → g.1 b = h.1 b) ∧ ∀ i, i < 9 → g.1 39 i = 0) ⟨rfl, pg.1, pg.2.1, pg.2.2.1⟩))) ?_)
  rintro g1 ⟨a2, a1, a0⟩
  refine c_X0_pass_7 hA0 ?_
  obtain ⟨Q, hQ⟩ : ∃ Q, Q = (RI fun y g => y = yrV c (h.1 3) n (h.1 40 4) e Y (h.1 2, h.1 4, j4) ∧ Sc (S2 2 4 h (yrN c (h.1 3) n (h.1 40 4) e (h.1 2, h.1 4, j4) Y).1 (yrN c (h.1 3) n (h.1 40 4) e (h.1 2, h.1 4, j4) Y).2.1) g) := ⟨_, rfl⟩
  rw [← hQ]
  obtain ⟨S, hS⟩ : ∃ S : YS, S = (h.1 2, h.1 4, j4) := ⟨_, rfl⟩
  rw [← hS] at hQ
  have hgS : Gr n S.1 := by rw [hS]; exact hg
  have hLS : Lm n S.1 (h.1 3) := by rw [hS]; exact hL
  have y0 : YI h S (setL g1 66 4 j4) := by
    rw [hS]
    refine ⟨?_, ⟨a0 0 (by decide), a0 1 (by decide), a0 4 (by decide), a0 5 (by decide)⟩, sL_at⟩
    show Sc (S2 2 4 h (h.1 2) (h.1 4)) _
    rw [S2_id]
    exact Sc.setL ⟨fun a j hj => congrFun (a1 a (fun z => by subst z; cases hj)) j, fun k j _ => by rw [a2], fun z => by unfold TXT; rw [a2]; exact z⟩
  have key : ∀ (k i : Nat) (g : AH), i + k = Y → YI h (yrN c (h.1 3) n (h.1 40 4) e S i) g → VM X m_X0_pass (d + 7) nx sz Q 19 [some (.ref 66), some (.int (nI r)), some (.int (nI e)), some (.int (nI Y)), none, none, some (.int (smI (yrD c (h.1 3) n (h.1 40 4) e S) i)), some (.int (nI i)), none] [] g := by
    intro k
    induction k with
    | zero =>
      intro i g hi y
      have hi : i = Y := by omega
      subst hi
      refine c_X0_pass_19 (d := d + 6) (P29 := fun _ _ => False) hA0 RO_rm hcs0 (fun _ => ?_) (fun z => absurd (Int32.le_refl _) z) (fun z => absurd (Int32.le_refl _) z)
      rw [hQ]
      exact ⟨_, rfl, rfl, y.1⟩
    | succ k ih =>
      intro i g hi y
      obtain ⟨s, hs⟩ : ∃ s, s = yrN c (h.1 3) n (h.1 40 4) e S i := ⟨_, rfl⟩
      obtain ⟨gi, li⟩ := yrN_ok (c := c) (L := h.1 3) (pr := h.1 40 4) (e := e) (s := S) n20 hgS hLS i
      rw [← hs] at y gi li
      obtain ⟨hFg, hPg, Cg, r2, r4, r3, r40⟩ := y.cal hF hP hr C
      have no : ¬ nI Y ≤ nI i := fun z => by
        rw [le_nI (by omega) (by omega)] at z
        omega
      refine c_X0_pass_19 hA0 RO_rm hcs0 (fun z => absurd z no) (fun _ => s_dyings (d := d + 4) (L := h.1 3) (n := n) hA0 hFg hPg (by rw [r2]; exact gi) (by rw [r2]; exact li) he) ?_
      rintro _ _ _ ⟨rfl, rfl⟩
      rw [r2, r4, y.2.2]
      refine c_X0_pass_32 ?_
      have e1 : smI (yrD c (h.1 3) n (h.1 40 4) e S) i + smI (dcF e s.2.2) n = smI (yrD c (h.1 3) n (h.1 40 4) e S) (i + 1) := by
        show _ = smI (yrD c (h.1 3) n (h.1 40 4) e S) i + smI (dcF e (yrN c (h.1 3) n (h.1 40 4) e S i).2.2) n
        rw [← hs]
      rw [e1]
      have y1 : YI h (lkN c (h.1 3) n (h.1 40 4) (dyA e s.2.2 s.2.1 n) (dyK n e s.2.2 s.1 n) 0, dyA e s.2.2 s.2.1 n, xN s.2.2 n) (setL (S2 2 4 g (dyK n e s.2.2 s.1 n) (dyA e s.2.2 s.2.1 n)) 66 4 (xN s.2.2 n)) := ⟨(sc_two (by decide) y.1).setL, y.2.1, sL_at⟩
      have inn : ∀ (k p : Nat) (g : AH), p + k = n → YI h (lkN c (h.1 3) n (h.1 40 4) (dyA e s.2.2 s.2.1 n) (dyK n e s.2.2 s.1 n) p, dyA e s.2.2 s.2.1 n, xN s.2.2 n) g → VM X m_X0_pass (d + 7) nx sz Q 38 [some (.ref 66), some (.int (nI r)), some (.int (nI e)), some (.int (nI Y)), none, none, some (.int (smI (yrD c (h.1 3) n (h.1 40 4) e S) (i + 1))), some (.int (nI i)), some (.int (nI p))] [] g := by
        intro k
        induction k with
        | zero =>
          intro p g hp y
          have hp : p = n := by omega
          subst hp
          obtain ⟨hFg, hPg, -⟩ := y.cal hF hP hr C
          have yes : g.1 1 0 ≤ nI p := by
            rw [hPg.2.1]
            exact Int32.le_refl _
          refine c_X0_pass_38 (d := d + 6) (P54 := fun _ => False) hA0 hFg RO_rm hcs0 (fun _ => ?_) (fun z => absurd yes z) (fun z => absurd yes z)
          rw [nI_1]
          refine ih (i + 1) g (by omega) ?_
          show YI h (yr1 c (h.1 3) p (h.1 40 4) e (yrN c (h.1 3) p (h.1 40 4) e S i)) g
          rw [← hs]
          exact y
        | succ k ih2 =>
          intro p g hp y
          obtain ⟨hFg, hPg, Cg, r2, r4, r3, r40⟩ := y.cal hF hP hr C
          have no : ¬ g.1 1 0 ≤ nI p := fun z => by
            rw [hPg.2.1, le_nI (by omega) (by omega)] at z
            omega
          refine c_X0_pass_38 hA0 hFg RO_rm hcs0 (fun z => absurd z no) (fun _ => s_look (d := d) hA0 hFg hPg (by omega) hr Cg y.2.1) ?_
          rintro _ g' ⟨f, z'⟩
          rw [r2, r3, r4, r40] at f
          refine c_X0_pass_57 ?_
          rw [nI_1]
          refine ih2 (p + 1) g' (by omega) ⟨?_, z', ?_⟩
          · have := sc_AA y.1 (a := 2) (f := lkK c (h.1 3) n (h.1 40 4) (dyA e s.2.2 s.2.1 n) (lkN c (h.1 3) n (h.1 40 4) (dyA e s.2.2 s.2.1 n) (dyK n e s.2.2 s.1 n) p) p)
            rw [S2K (by decide)] at this
            exact this.trans f.sc
          · rw [f.1]
            exact y.2.2
      exact inn n 0 _ (by omega) y1
  have := key Y 0 _ (by omega) y0
  exact this
theorem s_years {x1 x2 x3 : Int32} {j4 : Int64} (hA0 : 91 ≤ nx) (hF : Fx h) (hP : InvP h n) (hg : Gr n (h.1 2)) (hL : Lm n (h.1 2) (h.1 3)) (hm : m ≤ 6) (h29 : h.1 29 4 = nI m) (hC : ∀ r, r < m → CodA h r (C r)) :
    (yrOK m x1 x2 x3 → ∃ r e Y, r < m ∧ e ≤ 100 ∧ 1 ≤ Y ∧ Y ≤ 30 ∧ x1 = nI r ∧ x2 = nI e ∧ x3 = nI Y ∧ Mk X (d + 8) m_X11_years [.ref 0, .int x1, .int x2, .int x3, .long j4] h nx sz (RI fun y g => y = yrV (C r) (h.1 3) n (h.1 40 4) e Y (h.1 2, h.1 4, j4) ∧ Sc (S2 2 4 h (yrN (C r) (h.1 3) n (h.1 40 4) e (h.1 2, h.1 4, j4) Y).1 (yrN (C r) (h.1 3) n (h.1 40 4) e (h.1 2, h.1 4, j4) Y).2.1) g)) ∧ (¬ yrOK m x1 x2 x3 → Mk X (d + 8) m_X11_years [.ref 0, .int x1, .int x2, .int x3, .long j4] h nx sz (RE (-1) h)) := by
  refine ⟨fun ok => ?_, fun no => ?_⟩
  · obtain ⟨o1, o2, o3, o4, o5⟩ := ok
    obtain ⟨r, hr, rfl⟩ := hasI_ne (by omega) o1
    obtain ⟨e, he, rfl⟩ := in_rng (len := 100) (by decide) o2 o3
    obtain ⟨Y, hY, rfl⟩ := in_rng (len := 30) (x := x3) (by decide) (fun z => o4 (Int32.lt_trans z (by decide))) (Int32.not_lt.mpr o5)
    have hY1 : 1 ≤ Y := Decidable.byContradiction fun z => o4 (by
      have : Y = 0 := by omega
      subst this
      decide)
    refine ⟨r, e, Y, hr, he, hY1, hY, rfl, rfl, rfl, e_X11_years (c_X11_years_0 hA0 hF RO_rm hcs0 (s_ruleHas (d := d + 7) hA0 h29) ?_)⟩
    rintro _ _ ⟨rfl, rfl⟩
    refine c_X11_years_8 hA0 hF RO_rm hcs0 (fun z => absurd z o1) (fun _ z => absurd z o2) (fun _ _ z => absurd z o3) (fun _ _ _ z => absurd z o4) (fun _ _ _ _ _ => s_pass (d := d) hA0 hF (hP.np net1) hg hL he hY (by omega) (hC r hr)) ?_ (fun _ _ _ _ z => absurd o5 z)
    rintro _ _ _ _ _ _ g ⟨rfl, s⟩
    exact c_X11_years_46 ⟨_, rfl, rfl, s⟩
  · refine Mk.re fun Q hq => e_X11_years (c_X11_years_0 hA0 hF RO_rm hcs0 (s_ruleHas (d := d + 7) hA0 h29) ?_)
    rintro _ _ ⟨rfl, rfl⟩
    exact c_X11_years_8 (d := d + 7) (P43 := fun _ _ => False) hA0 hF RO_rm hcs0 (fun _ => hq) (fun _ _ => hq) (fun _ _ _ => hq) (fun _ _ _ _ => hq) (fun a b c d e => absurd ⟨a, b, c, d, e⟩ no) (fun a b c d e => absurd ⟨a, b, c, d, e⟩ no) (fun _ _ _ _ _ => hq)
end OPS

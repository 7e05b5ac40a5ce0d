/-! years: the other side -/
section OPS
variable {X : CX} {d D nx sz : Nat} {g h h0 : AH} {n m : Nat} {c : List Nat} {K A L K' A' : Nat → Int32} {x y v : Int64} {C : Nat → List Nat} {T : Nat → Nat → Nat} {ln : Nat → Nat}
theorem t_draw (hA0 : 91 ≤ nx) : Mk X d m_X12_draw [.ref 68] h nx sz (RE (nI (dwN (DRW (h.2.1 68 42)))) (setL h 68 42 (DRW (h.2.1 68 42)))) := by
  refine Mk.re fun Q hq => e_X12_draw (c_X12_draw_0 hA0 ?_)
  rw [← lN_i, ← dw_rem] at hq
  exact hq
def YT (h : AH) (s : YS) (g : AH) : Prop := Sc (S2 73 76 h s.1 s.2.1) g ∧ g.2.1 68 42 = s.2.2
theorem RulA.two {r ln : Nat} {T : Nat → Nat} (R : RulA h r T ln c) : RulA (S2 73 76 h K A) r T ln c := by
  obtain ⟨r1, r2, r3, r4, r5⟩ := R
  refine ⟨r1, ?_, r3, fun i hi => ?_, r5⟩
  · rw [S2_o (by decide) (by decide)]
    exact r2
  · rw [S2_o (by decide) (by decide)]
    exact r4 i hi
theorem YT.cal {r ln : Nat} {T : Nat → Nat} {s : YS} (i : YT h s g) (hF : Fx h) (hP : MP h n) (R : RulA h r T ln c) : Fx g ∧ MP g n ∧ RulA g r T ln c ∧ g.1 73 = s.1 ∧ g.1 76 = s.2.1 ∧ g.1 75 = h.1 75 ∧ g.1 68 31 = h.1 68 31 := by
  obtain ⟨s1, s3⟩ := i
  have hP2 : MP (S2 73 76 h s.1 s.2.1) n := hP
  refine ⟨Fx.sc (h := S2 73 76 h s.1 s.2.1) hF s1, hP2.sc s1, R.two.sc s1, (s1.row (fun j => rfl)).trans (S2_a (by decide)), (s1.row (fun j => rfl)).trans S2_b, (s1.row (a := 75) (fun j => rfl)).trans (S2_o (by decide) (by decide)), (s1.1 68 31 rfl).trans rfl⟩
theorem t_years {x1 x2 x3 : Int32} {j4 : Int64} {r e Y : Nat} (hA0 : 91 ≤ nx) (hF : Fx h) (hP : InvP h n) (hg : Gr n (h.1 73)) (hL : Lm n (h.1 73) (h.1 75)) (hm : m ≤ 6) (h68 : h.1 68 8 = nI m) (hC : ∀ r, r < m → RulA h r (T r) (ln r) (C r)) (hr : r < m) (he : e ≤ 100) (hY1 : 1 ≤ Y) (hY : Y ≤ 30) : Mk X (D + 35) m_X12_years [.ref 68, .int (nI r), .int (nI e), .int (nI Y), .long j4] h nx sz (RI fun y g => y = yrV (C r) (h.1 75) n (h.1 68 31) e Y (h.1 73, h.1 76, j4) ∧ Sc (S2 73 76 h (yrN (C r) (h.1 75) n (h.1 68 31) e (h.1 73, h.1 76, j4) Y).1 (yrN (C r) (h.1 75) n (h.1 68 31) e (h.1 73, h.1 76, j4) Y).2.1) g) := by
  obtain ⟨n0, n2, n20⟩ := id hP.mp
  have R := hC r hr
  have hs : Sc h (setI h 68 0 0) := Sc.rfl.setI rfl
  refine e_X12_years (c_X12_years_0 hA0 RO_rm hcs0 (t_isRule (d := D + 34) hA0 h68) ?_)
  rintro _ g ⟨rfl, rfl⟩
  have a : ¬ hasI m (nI r) = 0 := by rw [hasI_nI (by omega) hr]; decide
  refine c_X12_years_10 RO_rm hcs0 (fun z => absurd z a) (fun _ => t_isIn (d := D + 34)) ?_
  rintro _ _ g ⟨rfl, rfl⟩
  have b : ¬ nI e < 0 ∧ ¬ (100 : Int32) < nI e := ⟨nI_pos (by omega), fun z => by
    have z : nI 100 < nI e := z
    rw [nI_ltI (by decide) (by omega)] at z
    omega⟩
  rw [if_pos b]
  refine c_X12_years_20 RO_rm hcs0 (fun z => by cases z) (fun _ => t_isIn (d := D + 34)) ?_
  rintro _ _ g ⟨rfl, rfl⟩
  have b3 : ¬ nI Y < 1 ∧ ¬ (30 : Int32) < nI Y := ⟨fun z => by
    have z : nI Y < nI 1 := z
    rw [nI_ltI (by omega) (by decide)] at z
    omega, fun z => by
    have z : nI 30 < nI Y := z
    rw [nI_ltI (by decide) (by omega)] at z
    omega⟩
  rw [if_pos b3]
  refine c_X12_years_30 hA0 (fun _ => ?_) (fun z => by cases z)
  obtain ⟨Q, hQ⟩ : ∃ Q, Q = (RI fun y g => y = yrV (C r) (h.1 75) n (h.1 68 31) e Y (h.1 73, h.1 76, j4) ∧ Sc (S2 73 76 h (yrN (C r) (h.1 75) n (h.1 68 31) e (h.1 73, h.1 76, j4) Y).1 (yrN (C r) (h.1 75) n (h.1 68 31) e (h.1 73, h.1 76, j4) Y).2.1) g) := ⟨_, rfl⟩
  rw [← hQ]
  obtain ⟨S, hS⟩ : ∃ S : YS, S = (h.1 73, h.1 76, j4) := ⟨_, rfl⟩
  rw [← hS] at hQ
  have hgS : Gr n S.1 := by rw [hS]; exact hg
  have hLS : Lm n S.1 (h.1 75) := by rw [hS]; exact hL
  have y0 : YT h S (setL (setI h 68 0 0) 68 42 j4) := by
    rw [hS]
    refine ⟨?_, sL_at⟩
    show Sc (S2 73 76 h (h.1 73) (h.1 76)) _
    rw [S2_id]
    exact hs.setL
  generalize C r = c at *
  have key : ∀ (k i : Nat) (g : AH), i + k = Y → YT h (yrN c (h.1 75) n (h.1 68 31) e S i) g → VM X m_X12_years (D + 35) nx sz Q 47 [some (.ref 68), some (.int (nI r)), some (.int (nI e)), some (.int (nI Y)), none, none, some (.int (smI (yrD c (h.1 75) n (h.1 68 31) e S) i)), some (.int (nI i)), none, none] [] g := by
    intro k
    induction k with
    | zero =>
      intro i g hi y
      have hi : i = Y := by omega
      subst hi
      refine c_X12_years_47 (fun _ => ?_) (fun z => absurd (Int32.le_refl _) z)
      rw [hQ]
      exact ⟨_, rfl, rfl, y.1⟩
    | succ k ih =>
      intro i g hi y
      obtain ⟨s, hs⟩ : ∃ s, s = yrN c (h.1 75) n (h.1 68 31) e S i := ⟨_, rfl⟩
      obtain ⟨gi, li⟩ := yrN_ok (c := c) (L := h.1 75) (pr := h.1 68 31) (e := e) (s := S) n20 hgS hLS i
      rw [← hs] at y gi li
      obtain ⟨hFg, hPg, Rg, r2, r4, r3, r40⟩ := y.cal hF hP.mp R
      have no : ¬ nI Y ≤ nI i := fun z => by
        rw [le_nI (by omega) (by omega)] at z
        omega
      refine c_X12_years_47 (fun z => absurd z no) (fun _ => ?_)
      -- looks
      have lk : ∀ (k p : Nat) (g : AH), p + k = n → YT h (lkN c (h.1 75) n (h.1 68 31) (dyA e s.2.2 s.2.1 n) (dyK n e s.2.2 s.1 n) p, dyA e s.2.2 s.2.1 n, xN s.2.2 n) g → VM X m_X12_years (D + 35) nx sz Q 148 [some (.ref 68), some (.int (nI r)), some (.int (nI e)), some (.int (nI Y)), none, none, some (.int (smI (yrD c (h.1 75) n (h.1 68 31) e S) (i + 1))), some (.int (nI i)), some (.int (nI p)), none] [] g := by
        intro k
        induction k with
        | zero =>
          intro p g hp y
          have hp : p = n := by omega
          subst hp
          obtain ⟨hFg, hPg, -⟩ := y.cal hF hP.mp R
          have yes : g.1 68 1 ≤ nI p := by
            rw [hPg.1]
            exact Int32.le_refl _
          refine c_X12_years_148 (d := D + 34) (P161 := fun _ => False) hA0 RO_rm hcs0 (fun _ => ?_) (fun z => absurd yes z) (fun z => absurd yes z)
          rw [nI_1]
          refine ih (i + 1) g (by omega) ?_
          show YT h (yr1 c (h.1 75) p (h.1 68 31) e (yrN c (h.1 75) p (h.1 68 31) e S i)) g
          rw [← hs]
          exact y
        | succ k ih2 =>
          intro p g hp y
          obtain ⟨hFg, hPg, Rg, r2, r4, r3, r40⟩ := y.cal hF hP.mp R
          obtain ⟨gd, ld⟩ := dyK_ok (e := e) (x := s.2.2) n20 gi li n
          obtain ⟨gp, lp⟩ := lkN_ok (c := c) (A := dyA e s.2.2 s.2.1 n) (pr := h.1 68 31) n20 gd ld p (by omega)
          have no : ¬ g.1 68 1 ≤ nI p := fun z => by
            rw [hPg.1, le_nI (by omega) (by omega)] at z
            omega
          refine c_X12_years_148 hA0 RO_rm hcs0 (fun z => absurd z no) (fun _ => t_looks (D := D) hA0 hFg hPg (by rw [r2]; exact gp.kb) (by omega) (by omega) Rg) ?_
          rintro _ g' f
          rw [r2, r3, r4, r40] at f
          refine c_X12_years_164 ?_
          rw [nI_1]
          refine ih2 (p + 1) g' (by omega) ⟨?_, ?_⟩
          · have := sc_AA y.1 (a := 73) (f := lkK c (h.1 75) n (h.1 68 31) (dyA e s.2.2 s.2.1 n) (lkN c (h.1 75) n (h.1 68 31) (dyA e s.2.2 s.2.1 n) (dyK n e s.2.2 s.1 n) p) p)
            rw [S2K (by decide)] at this
            exact this.trans f.1
          · rw [f.2]
            exact y.2
      have y1 : YT h (lkN c (h.1 75) n (h.1 68 31) (dyA e s.2.2 s.2.1 n) (dyK n e s.2.2 s.1 n) 0, dyA e s.2.2 s.2.1 n, xN s.2.2 n) (setL (S2 73 76 g (dyK n e s.2.2 s.1 n) (dyA e s.2.2 s.2.1 n)) 68 42 (xN s.2.2 n)) := ⟨(sc_two (by decide) y.1).setL, sL_at⟩
      have e1 : smI (yrD c (h.1 75) n (h.1 68 31) e S) i + smI (dcF e s.2.2) n = smI (yrD c (h.1 75) n (h.1 68 31) e S) (i + 1) := by
        show _ = smI (yrD c (h.1 75) n (h.1 68 31) e S) i + smI (dcF e (yrN c (h.1 75) n (h.1 68 31) e S i).2.2) n
        rw [← hs]
      have end1 := lk n 0 _ (by omega) y1
      rw [← e1] at end1
      generalize smI (yrD c (h.1 75) n (h.1 68 31) e S) i = Z at *
      generalize hx : s.2.2 = x at *
      have start : setL (S2 73 76 g (dyK n e x s.1 0) (dyA e x s.2.1 0)) 68 42 (xN x 0) = g := by
        show setL (S2 73 76 g s.1 s.2.1) 68 42 x = g
        rw [← r2, ← r4, S2_id, ← (y.2.trans hx), setL_id]
      -- deaths
      have dy : VM X m_X12_years (D + 35) nx sz Q 56 [some (.ref 68), some (.int (nI r)), some (.int (nI e)), some (.int (nI Y)), none, none, some (.int (Z + smI (dcF e x) 0)), some (.int (nI i)), some (.int (nI 0)), none] [] (setL (S2 73 76 g (dyK n e x s.1 0) (dyA e x s.2.1 0)) 68 42 (xN x 0)) := by
        refine down_ind (N := n) (P := fun p => VM X m_X12_years (D + 35) nx sz Q 56 [some (.ref 68), some (.int (nI r)), some (.int (nI e)), some (.int (nI Y)), none, none, some (.int (Z + smI (dcF e x) p)), some (.int (nI i)), some (.int (nI p)), none] [] (setL (S2 73 76 g (dyK n e x s.1 p) (dyA e x s.2.1 p)) 68 42 (xN x p))) ?_ (fun p hp q => ?_)
        · have yes : (setL (S2 73 76 g (dyK n e x s.1 n) (dyA e x s.2.1 n)) 68 42 (xN x n)).1 68 1 ≤ nI n := by
            show g.1 68 1 ≤ nI n
            rw [hPg.1]
            exact Int32.le_refl _
          exact c_X12_years_56 (d := D + 34) (P66 := fun _ _ => False) hA0 RO_rm hcs0 (fun _ => end1) (fun z => absurd yes z) (fun z => absurd yes z)
        · obtain ⟨H, hH⟩ : ∃ H, H = setL (S2 73 76 g (dyK n e x s.1 p) (dyA e x s.2.1 p)) 68 42 (xN x p) := ⟨_, rfl⟩
          have h1 : H.1 = (S2 73 76 g (dyK n e x s.1 p) (dyA e x s.2.1 p)).1 := by rw [hH]; rfl
          have h42 : H.2.1 68 42 = xN x p := by rw [hH]; exact sL_at
          have no : ¬ H.1 68 1 ≤ nI p := fun z => by
            rw [h1] at z
            have z : g.1 68 1 ≤ nI p := z
            rw [hPg.1, le_nI (by omega) (by omega)] at z
            omega
          have tp : (nI p).toNatClampNeg = p := tN (by omega)
          obtain ⟨gp, lp⟩ := dyK_ok (e := e) (x := x) n20 gi li p
          rw [← hH]
          refine c_X12_years_56 hA0 RO_rm hcs0 (fun z => absurd z no) (fun _ => t_draw (d := D + 34) hA0) ?_
          rintro _ _ _ ⟨rfl, rfl⟩
          rw [h42, show DRW (xN x p) = xN x (p + 1) from rfl]
          have lt : nI (dwN (xN x (p + 1))) < nI e ↔ dwN (xN x (p + 1)) < e := nI_ltI (by have := dwN_lt (j := xN x (p + 1)); omega) (by omega)
          have hFH : Fx (setL H 68 42 (xN x (p + 1))) := by rw [hH]; exact hFg
          by_cases nd : dwN (xN x (p + 1)) < e
          · have eK : dyK n e x s.1 (p + 1) = leK (dyK n e x s.1 p) p n := if_pos nd
            have eA : dyA e x s.2.1 (p + 1) = fun j => if j = p then 0 else dyA e x s.2.1 p j := by
              funext j
              show (if j = p then (if dwN (xN x (p + 1)) < e then 0 else dyA e x s.2.1 p p + 1) else _) = _
              rw [if_pos nd]
            have eD : smI (dcF e x) (p + 1) = smI (dcF e x) p + 1 := by
              show _ + dcF e x p = _
              unfold dcF
              rw [if_pos nd]
            rw [eK, eA, eD, ← Int32.add_assoc] at q
            refine c_X12_years_69 hA0 hFH (fun _ => vin (by omega) (by decide)) (fun _ => ?_) (fun z => absurd (lt.mpr nd) z) (fun z => absurd (lt.mpr nd) z) (fun z => absurd (lt.mpr nd) z)
            rw [tp, hH, dy_age (by decide)]
            obtain ⟨G, hG⟩ : ∃ G, G = setL (S2 73 76 g (dyK n e x s.1 p) (fun j => if j = p then 0 else dyA e x s.2.1 p j)) 68 42 (xN x (p + 1)) := ⟨_, rfl⟩
            have hFG : Fx G := by rw [hG]; exact hFg
            have g73 : G.1 73 = dyK n e x s.1 p := by
              rw [hG]
              show (S2 73 76 g (dyK n e x s.1 p) (fun j => if j = p then 0 else dyA e x s.2.1 p j)).1 73 = _
              rw [S2_a (by decide)]
            have g681 : G.1 68 1 = nI n := by rw [hG]; exact hPg.1
            have lv : VM X m_X12_years (D + 35) nx sz Q 101 [some (.ref 68), some (.int (nI r)), some (.int (nI e)), some (.int (nI Y)), none, none, some (.int (Z + smI (dcF e x) p + 1)), some (.int (nI i)), some (.int (nI p)), some (.int (nI 0))] [] (setA G 73 (leK (dyK n e x s.1 p) p 0)) := by
              refine down_ind (N := n) (P := fun o => VM X m_X12_years (D + 35) nx sz Q 101 [some (.ref 68), some (.int (nI r)), some (.int (nI e)), some (.int (nI Y)), none, none, some (.int (Z + smI (dcF e x) p + 1)), some (.int (nI i)), some (.int (nI p)), some (.int (nI o))] [] (setA G 73 (leK (dyK n e x s.1 p) p o))) ?_ (fun o ho w => ?_)
              · have yes : (setA G 73 (leK (dyK n e x s.1 p) p n)).1 68 1 ≤ nI n := by
                  show G.1 68 1 ≤ nI n
                  rw [g681]
                  exact Int32.le_refl _
                refine c_X12_years_101 (d := D + 34) (P119 := fun _ _ => False) hA0 (hFG.of rfl) RO_rm hcs0 (fun _ => ?_) (fun z => absurd yes z) (fun z => absurd yes z) (fun z => absurd yes z)
                rw [nI_1, hG, setL_A, S2K (by decide)]
                exact q
              · have no : ¬ (setA G 73 (leK (dyK n e x s.1 p) p o)).1 68 1 ≤ nI o := fun z => by
                  have z : G.1 68 1 ≤ nI o := z
                  rw [g681, le_nI (by omega) (by omega)] at z
                  omega
                refine c_X12_years_101 hA0 (hFG.of rfl) RO_rm hcs0 (fun z => absurd z no) (fun _ => vin (by omega) (by decide)) (fun _ => t_has (d := D + 34) (by omega)) ?_
                rintro _ _ _ ⟨rfl, rfl⟩
                rw [tp, setA_self]
                have un : leK (dyK n e x s.1 p) p (o + 1) = if tb (leK (dyK n e x s.1 p) p o p) o = true then partK (leK (dyK n e x s.1 p) p o) p o else leK (dyK n e x s.1 p) p o := rfl
                by_cases t : tb (leK (dyK n e x s.1 p) p o p) o = true
                · rw [un, if_pos t] at w
                  refine c_X12_years_122 hA0 RO_rm hcs0 (fun z => absurd t (bt3 z)) (fun _ => t_part (d := D + 34) hA0 (hFG.of rfl) (by omega) (by omega)) ?_
                  rintro _ _ rfl
                  refine c_X12_years_133 ?_
                  rw [nI_1, setA_self, setA_A]
                  exact w
                · rw [un, if_neg t] at w
                  refine c_X12_years_122 (d := D + 34) (P130 := fun _ => False) hA0 RO_rm hcs0 (fun _ => c_X12_years_133 ?_) (fun z => absurd (bt4 z) t) (fun z => absurd (bt4 z) t)
                  rw [nI_1]
                  exact w
            rw [show leK (dyK n e x s.1 p) p 0 = G.1 73 from g73.symm, setA_id, hG] at lv
            exact lv
          · have eK : dyK n e x s.1 (p + 1) = dyK n e x s.1 p := if_neg nd
            have eA : dyA e x s.2.1 (p + 1) = fun j => if j = p then dyA e x s.2.1 p p + 1 else dyA e x s.2.1 p j := by
              funext j
              show (if j = p then (if dwN (xN x (p + 1)) < e then 0 else dyA e x s.2.1 p p + 1) else _) = _
              rw [if_neg nd]
            have eD : smI (dcF e x) (p + 1) = smI (dcF e x) p := by
              show _ + dcF e x p = _
              unfold dcF
              rw [if_neg nd, Int32.add_zero]
            rw [eK, eA, eD] at q
            have eH : (setL H 68 42 (xN x (p + 1))).1 76 p = dyA e x s.2.1 p p := by
              show H.1 76 p = _
              rw [h1, S2_b]
            refine c_X12_years_69 hA0 hFH (fun z => absurd (lt.mp z) nd) (fun z => absurd (lt.mp z) nd) (fun _ => vin (by omega) (by decide)) (fun _ => vin (by omega) (by decide)) (fun _ => ?_)
            rw [nI_1, tp, eH, hH, dy_age (by decide)]
            exact q
      rw [start, show Z + smI (dcF e x) 0 = Z from Int32.add_zero _] at dy
      exact dy
  exact key Y 0 _ (by omega) y0
theorem t_years_bad {x1 x2 x3 : Int32} {j4 : Int64} (hA0 : 91 ≤ nx) (h68 : h.1 68 8 = nI m) (no : ¬ yrOK m x1 x2 x3) : Mk X (D + 1) m_X12_years [.ref 68, .int x1, .int x2, .int x3, .long j4] h nx sz (RE (-1) (setI h 68 0 0)) := by
  refine Mk.re fun Q hq => e_X12_years (c_X12_years_0 hA0 RO_rm hcs0 (t_isRule (d := D) hA0 h68) ?_)
  rintro _ g ⟨rfl, rfl⟩
  refine c_X12_years_10 RO_rm hcs0 (fun _ => hq) (fun _ => t_isIn (d := D)) ?_
  rintro a _ g ⟨rfl, rfl⟩
  refine c_X12_years_20 RO_rm hcs0 (fun _ => hq) (fun _ => t_isIn (d := D)) ?_
  rintro b _ g ⟨rfl, rfl⟩
  refine c_X12_years_30 hA0 (fun z => absurd ⟨a, (bt4 b).1, (bt4 b).2, (bt4 z).1, Int32.not_lt.mp (bt4 z).2⟩ no) (fun _ => hq)
end OPS

/-! post: comes, both sides -/
section OPS
variable {X : CX} {d D nx sz : Nat} {h h0 : AH} {p : Nat → Int32} {n m : Nat} {T : Nat → Nat → Nat} {ln : Nat → Nat} {C : Nat → List Nat}
theorem s_carryAll {r : Nat} {w : Bool} {c : List Nat} (hA0 : 91 ≤ nx) (hF : Fx h) (hP : NP h 1 n) (hK : KB (h.1 2) n) (hr : r < 6) (Cr : CodA h r c) : Mk X (d + 6) m_X6_carryAll [.ref 63, .int (nI r), .int (if w = true then 1 else 0)] h nx sz (RI fun y g => y = cmV c (h.1 2) n w ∧ Sc h g) := by
  obtain ⟨hn, n0, n1, n2, n20⟩ := id hP
  refine e_X6_carryAll (c_X6_carryAll_0 ?_)
  obtain ⟨Q, hQ⟩ : ∃ Q, Q = (RI fun y g => y = cmV c (h.1 2) n w ∧ Sc h g) := ⟨_, rfl⟩
  rw [← hQ]
  have key : ∀ (k a : Nat) (g : AH), a + k = n → Sc h g → VM X m_X6_carryAll (d + 6) nx sz Q 5 [some (.ref 63), some (.int (nI r)), some (.int (if w = true then 1 else 0)), some (.int (smI (fun a => smI (cmF c (h.1 2) n w a) n) a)), some (.int (nI a)), none] [] g := by
    intro k
    induction k with
    | zero =>
      intro a g ha s
      have ha : a = n := by omega
      subst ha
      have yes : g.1 1 0 ≤ nI a := by
        rw [s.1 1 0 rfl, n0]
        exact Int32.le_refl _
      refine c_X6_carryAll_5 hA0 (hF.sc s) (fun _ => ?_) (fun z => absurd yes z)
      rw [hQ]
      exact ⟨_, rfl, rfl, s⟩
    | succ k ih =>
      intro a g ha s
      have no : ¬ g.1 1 0 ≤ nI a := fun z => by
        rw [s.1 1 0 rfl, n0, le_nI (by omega) (by omega)] at z
        omega
      refine c_X6_carryAll_5 hA0 (hF.sc s) (fun z => absurd z no) (fun _ => ?_)
      have inn : ∀ (k b : Nat) (g : AH), b + k = n → Sc h g → VM X m_X6_carryAll (d + 6) nx sz Q 20 [some (.ref 63), some (.int (nI r)), some (.int (if w = true then 1 else 0)), some (.int (smI (fun a => smI (cmF c (h.1 2) n w a) n) a + smI (cmF c (h.1 2) n w a) b)), some (.int (nI a)), some (.int (nI b))] [] g := by
        intro k
        induction k with
        | zero =>
          intro b g hb s
          have hb : b = n := by omega
          subst hb
          have yes : g.1 1 0 ≤ nI b := by
            rw [s.1 1 0 rfl, n0]
            exact Int32.le_refl _
          refine c_X6_carryAll_20 (d := d + 5) (P45 := fun _ _ => False) hA0 (hF.sc s) RO_rm hcs0 (fun _ => ?_) (fun z => absurd yes z) (fun z => absurd yes z) (fun z => absurd yes z)
          rw [nI_1]
          exact ih (a + 1) g (by omega) s
        | succ k ih2 =>
          intro b g hb s
          have no : ¬ g.1 1 0 ≤ nI b := fun z => by
            rw [s.1 1 0 rfl, n0, le_nI (by omega) (by omega)] at z
            omega
          have eq : nI a = nI b ↔ a = b := nI_eq (by omega) (by omega)
          have r2 : g.1 2 = h.1 2 := s.row (fun j => rfl)
          by_cases ab : a = b
          · have e0 : cmF c (h.1 2) n w a b = 0 := if_pos ab
            have nxt := ih2 (b + 1) g (by omega) s
            have e1 : smI (cmF c (h.1 2) n w a) (b + 1) = smI (cmF c (h.1 2) n w a) b := by
              show _ + cmF c (h.1 2) n w a b = _
              rw [e0, Int32.add_zero]
            rw [e1, ← nI_1] at nxt
            exact c_X6_carryAll_20 (d := d + 5) (P45 := fun _ _ => False) hA0 (hF.sc s) RO_rm hcs0 (fun z => absurd z no) (fun _ _ => nxt) (fun _ z => absurd (eq.mpr ab) z) (fun _ z => absurd (eq.mpr ab) z)
          · refine c_X6_carryAll_20 hA0 (hF.sc s) RO_rm hcs0 (fun z => absurd z no) (fun _ z => absurd (eq.mp z) ab) (fun _ _ => s_carry (d := d) hA0 (hF.sc s) (hP.sc s) (by rw [r2]; exact hK) (by omega) (by omega) hr (Cr.sc hr s)) ?_
            rintro _ _ _ g' ⟨s', rfl, e63, -, -⟩
            rw [r2] at e63 ⊢
            have s2 := s.trans s'
            have e63 : g'.1 63 4 = nI (gol c (h.1 2) n b a).2.length := e63
            show VM X m_X6_carryAll (d + 6) nx sz Q 48 [some (.ref 63), some (.int (nI r)), some (.int (if w = true then 1 else 0)), some (.int (smI (fun a => smI (cmF c (h.1 2) n w a) n) a + smI (cmF c (h.1 2) n w a) b)), some (.int (nI a)), some (.int (nI b))] [.int (if (gol c (h.1 2) n b a).1 = true then 1 else 0)] g'
            have nxt := ih2 (b + 1) g' (by omega) s2
            have e1 : smI (cmF c (h.1 2) n w a) (b + 1) = smI (cmF c (h.1 2) n w a) b + cmF c (h.1 2) n w a b := rfl
            have e2 : cmF c (h.1 2) n w a b = if (gol c (h.1 2) n b a).1 = true then (if w = true then nI (gol c (h.1 2) n b a).2.length else 1) else 0 := if_neg ab
            rw [e1, e2, ← Int32.add_assoc, ← nI_1] at nxt
            refine c_X6_carryAll_48 hA0 (fun z => ?_) (fun z z2 => ?_) (fun z z2 => ?_)
            · rw [if_neg (bt3 z), Int32.add_zero] at nxt
              exact nxt
            · rw [if_pos (bt4 z), show (if w = true then nI (gol c (h.1 2) n b a).2.length else 1) = 1 from if_neg (bt3 z2)] at nxt
              exact nxt
            · rw [if_pos (bt4 z), show (if w = true then nI (gol c (h.1 2) n b a).2.length else 1) = nI (gol c (h.1 2) n b a).2.length from if_pos (bt4 z2)] at nxt
              rw [e63]
              exact nxt
      have := inn n 0 g (by omega) s
      have e0 : smI (cmF c (h.1 2) n w a) 0 = 0 := rfl
      rw [e0, Int32.add_zero] at this
      exact this
  exact key n 0 h (by omega) Sc.rfl
theorem s_comes {x1 x2 : Int32} (hA0 : 91 ≤ nx) (hF : Fx h) (hP : InvP h n) (hK : KB (h.1 2) n) (hm : m ≤ 6) (h29 : h.1 29 4 = nI m) (hC : ∀ r, r < m → CodA h r (C r)) : Mk X (d + 7) m_X11_comes [.ref 0, .int x1, .int x2] h nx sz (RI fun y g => y = cmsV m n (h.1 2) C x1 x2 ∧ Sc h g) := by
  refine e_X11_comes (c_X11_comes_0 hA0 hF RO_rm hcs0 (s_ruleHas (d := d + 6) hA0 h29) ?_)
  rintro _ g ⟨rfl, rfl⟩
  by_cases a : hasI m x1 = 0
  · refine c_X11_comes_8 (d := d + 6) (P37 := fun _ _ => False) (P37_1 := fun _ _ => False) hA0 hF RO_rm hcs0 (fun _ => ⟨_, rfl, ?_, Sc.rfl⟩) (fun z => absurd a z) (fun z => absurd a z) (fun z => absurd a z) (fun z => absurd a z) (fun z => absurd a z) (fun z => absurd a z)
    unfold cmsV
    rw [if_pos a]
  obtain ⟨r, hr, rfl⟩ := hasI_ne (by omega) a
  have e : cmsV m n (h.1 2) C (nI r) x2 = if x2 = 0 then cmV (C r) (h.1 2) n false else if x2 = 1 then cmV (C r) (h.1 2) n true else -1 := by
    unfold cmsV
    rw [if_neg a, tN (by omega)]
  rw [e]
  refine c_X11_comes_8 hA0 hF RO_rm hcs0 (fun z => absurd z a) (fun _ z => ⟨_, rfl, ?_, Sc.rfl⟩) (fun _ _ _ _ => s_carryAll (d := d) (w := false) hA0 hF (hP.np net1) hK (by omega) (hC r hr)) ?_ (fun _ _ _ _ => s_carryAll (d := d) (w := true) hA0 hF (hP.np net1) hK (by omega) (hC r hr)) ?_ (fun _ _ z => ⟨_, rfl, ?_, Sc.rfl⟩)
  · rw [if_neg (fun q => by rw [q] at z; exact absurd z (by decide)), if_neg (fun q => by rw [q] at z; exact absurd z (by decide))]
  · rintro _ z0 z1 z2 _ g ⟨rfl, s⟩
    refine c_X11_comes_40 ⟨_, rfl, ?_, s⟩
    rw [if_pos (x01 z1 z2 z0)]
  · rintro _ z0 z1 rfl _ g ⟨rfl, s⟩
    refine c_X11_comes_40 ⟨_, rfl, ?_, s⟩
    rw [if_neg (by decide), if_pos rfl]
  · rw [if_neg (fun q => by rw [q] at z; exact absurd (by decide) z), if_neg (fun q => by rw [q] at z; exact absurd (by decide) z)]
theorem t_comes {x1 x2 : Int32} (hA0 : 91 ≤ nx) (hF : Fx h) (hP : InvP h n) (hm : m ≤ 6) (h68 : h.1 68 8 = nI m) (hC : ∀ r, r < m → RulA h r (T r) (ln r) (C r)) : Mk X (D + 35) m_X12_comes [.ref 68, .int x1, .int x2] h nx sz (RI fun y g => y = cmsV m n (h.1 73) C x1 x2 ∧ Sc h g) := by
  have h20 := hP.2.1
  have hs : Sc h (setI h 68 0 0) := Sc.rfl.setI rfl
  refine e_X12_comes (c_X12_comes_0 hA0 RO_rm hcs0 (t_isRule (d := D + 34) hA0 h68) ?_)
  rintro _ g ⟨rfl, rfl⟩
  by_cases a : hasI m x1 = 0
  · refine c_X12_comes_10 (d := D + 34) (P16 := fun _ _ => False) RO_rm hcs0 (fun _ => ⟨_, rfl, ?_, hs⟩) (fun z => absurd a z) (fun z => absurd a z)
    unfold cmsV
    rw [if_pos a]
  obtain ⟨r, hr, rfl⟩ := hasI_ne (by omega) a
  have e : cmsV m n (h.1 73) C (nI r) x2 = if x2 = 0 then cmV (C r) (h.1 73) n false else if x2 = 1 then cmV (C r) (h.1 73) n true else -1 := by
    unfold cmsV
    rw [if_neg a, tN (by omega)]
  rw [e]
  refine c_X12_comes_10 RO_rm hcs0 (fun z => absurd z a) (fun _ => t_isIn (d := D + 34)) ?_
  rintro _ _ g ⟨rfl, rfl⟩
  refine c_X12_comes_19 (fun z => ?_) (fun z => ⟨_, rfl, ?_, hs⟩)
  · obtain ⟨w, hw⟩ : ∃ w : Bool, w = !decide (x2 = 0) := ⟨_, rfl⟩
    have ex : (if x2 = 0 then cmV (C r) (h.1 73) n false else if x2 = 1 then cmV (C r) (h.1 73) n true else -1) = cmV (C r) (h.1 73) n w := by
      rw [hw]
      by_cases q : x2 = 0
      · rw [if_pos q, decide_eq_true q]
        rfl
      · obtain ⟨z1, z2⟩ := bt4 z
        rw [if_neg q, decide_eq_false q, if_pos (Decidable.byContradiction fun q1 => q (x01 (Int32.not_lt.mp z2) q1 z1))]
        rfl
    have hw0 : x2 = 0 → w = false := fun q => by rw [hw, decide_eq_true q]; rfl
    have hw1 : ¬ x2 = 0 → w = true := fun q => by rw [hw, decide_eq_false q]; rfl
    rw [ex]
    obtain ⟨Q, hQ⟩ : ∃ Q, Q = (RI fun y g => y = cmV (C r) (h.1 73) n w ∧ Sc h g) := ⟨_, rfl⟩
    rw [← hQ]
    have key : ∀ (k a : Nat) (g : AH), a + k = n → Sc h g → VM X m_X12_comes (D + 35) nx sz Q 29 [some (.ref 68), some (.int (nI r)), some (.int x2), some (.int (smI (fun a => smI (cmF (C r) (h.1 73) n w a) n) a)), some (.int (nI a)), none] [] g := by
      intro k
      induction k with
      | zero =>
        intro a g ha s
        have ha : a = n := by omega
        subst ha
        have yes : g.1 68 1 ≤ nI a := by
          rw [s.1 68 1 rfl, hP.mp.1]
          exact Int32.le_refl _
        refine c_X12_comes_29 hA0 (fun _ => ?_) (fun z => absurd yes z)
        rw [hQ]
        exact ⟨_, rfl, rfl, s⟩
      | succ k ih =>
        intro a g ha s
        have no : ¬ g.1 68 1 ≤ nI a := fun z => by
          rw [s.1 68 1 rfl, hP.mp.1, le_nI (by omega) (by omega)] at z
          omega
        refine c_X12_comes_29 hA0 (fun z => absurd z no) (fun _ => ?_)
        have inn : ∀ (k b : Nat) (g : AH), b + k = n → Sc h g → VM X m_X12_comes (D + 35) nx sz Q 41 [some (.ref 68), some (.int (nI r)), some (.int x2), some (.int (smI (fun a => smI (cmF (C r) (h.1 73) n w a) n) a + smI (cmF (C r) (h.1 73) n w a) b)), some (.int (nI a)), some (.int (nI b))] [] g := by
          intro k
          induction k with
          | zero =>
            intro b g hb s
            have hb : b = n := by omega
            subst hb
            have yes : g.1 68 1 ≤ nI b := by
              rw [s.1 68 1 rfl, hP.mp.1]
              exact Int32.le_refl _
            refine c_X12_comes_41 (d := D + 34) (P63 := fun _ _ => False) hA0 RO_rm hcs0 (fun _ => ?_) (fun z => absurd yes z) (fun z => absurd yes z) (fun z => absurd yes z)
            rw [nI_1]
            exact ih (a + 1) g (by omega) s
          | succ k ih2 =>
            intro b g hb s
            have no : ¬ g.1 68 1 ≤ nI b := fun z => by
              rw [s.1 68 1 rfl, hP.mp.1, le_nI (by omega) (by omega)] at z
              omega
            have eq : nI a = nI b ↔ a = b := nI_eq (by omega) (by omega)
            have r2 : g.1 73 = h.1 73 := s.row (fun j => rfl)
            by_cases ab : a = b
            · have e0 : cmF (C r) (h.1 73) n w a b = 0 := if_pos ab
              have nxt := ih2 (b + 1) g (by omega) s
              have e1 : smI (cmF (C r) (h.1 73) n w a) (b + 1) = smI (cmF (C r) (h.1 73) n w a) b := by
                show _ + cmF (C r) (h.1 73) n w a b = _
                rw [e0, Int32.add_zero]
              rw [e1, ← nI_1] at nxt
              exact c_X12_comes_41 (d := D + 34) (P63 := fun _ _ => False) hA0 RO_rm hcs0 (fun z => absurd z no) (fun _ _ => nxt) (fun _ z => absurd (eq.mpr ab) z) (fun _ z => absurd (eq.mpr ab) z)
            · refine c_X12_comes_41 hA0 RO_rm hcs0 (fun z => absurd z no) (fun _ z => absurd (eq.mp z) ab) (fun _ _ => t_goes (D := D) hA0 (hF.sc s) (hP.mp.sc s) (by omega) (by omega) ab (by omega) ((hC r hr).sc s)) ?_
              rintro _ _ _ g' ⟨s', rfl, e63, -, -⟩
              rw [r2] at e63 ⊢
              have s2 := s.trans s'
              have e63 : g'.1 68 41 = nI (gol (C r) (h.1 73) n b a).2.length := e63
              show VM X m_X12_comes (D + 35) nx sz Q 66 [some (.ref 68), some (.int (nI r)), some (.int x2), some (.int (smI (fun a => smI (cmF (C r) (h.1 73) n w a) n) a + smI (cmF (C r) (h.1 73) n w a) b)), some (.int (nI a)), some (.int (nI b))] [.int (if (gol (C r) (h.1 73) n b a).1 = true then 1 else 0)] g'
              have nxt := ih2 (b + 1) g' (by omega) s2
              have e1 : smI (cmF (C r) (h.1 73) n w a) (b + 1) = smI (cmF (C r) (h.1 73) n w a) b + cmF (C r) (h.1 73) n w a b := rfl
              have e2 : cmF (C r) (h.1 73) n w a b = if (gol (C r) (h.1 73) n b a).1 = true then (if w = true then nI (gol (C r) (h.1 73) n b a).2.length else 1) else 0 := if_neg ab
              rw [e1, e2, ← Int32.add_assoc, ← nI_1] at nxt
              refine c_X12_comes_66 hA0 (fun z => ?_) (fun z z2 => ?_) (fun z z2 => ?_)
              · rw [if_neg (bt3 z), Int32.add_zero] at nxt
                exact nxt
              · rw [if_pos (bt4 z), if_pos (hw1 z2)] at nxt
                rw [e63]
                exact nxt
              · rw [if_pos (bt4 z), if_neg (by rw [hw0 z2]; decide)] at nxt
                exact nxt
        have := inn n 0 g (by omega) s
        have e0 : smI (cmF (C r) (h.1 73) n w a) 0 = 0 := rfl
        rw [e0, Int32.add_zero] at this
        exact this
    exact key n 0 _ (by omega) hs
  · have z := bt3 z
    rw [if_neg (fun q => z (by rw [q]; decide)), if_neg (fun q => z (by rw [q]; decide))]
end OPS

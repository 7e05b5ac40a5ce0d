/-! threes, loss, dear -/
section OPS
variable {X : CX} {d nx sz : Nat} {h : AH} {n : Nat}
theorem t_threesOf {t : Nat} (hA0 : 91 ≤ nx) (hF : Fx h) (hP : MP h n) (ht : t ≤ 3) : Mk X (d + 1) m_X12_threesOf [.ref 68, .int (nI t)] h nx sz (RE (nI (thM (h.1 73) n t)) h) := by
  obtain ⟨h0, h2, h20⟩ := hP
  refine Mk.re fun Q hq => e_X12_threesOf (c_X12_threesOf_0 ?_)
  refine down_ind (N := n) (P := fun a => VM X m_X12_threesOf (d + 1) nx sz Q 4 [some (.ref 68), some (.int (nI t)), some (.int (nI (sm (fun a => sm (fun b => sm (fun c => th3 (h.1 73) t a b c) b) a) a))), some (.int (nI a)), none, none] [] h) ?_ (fun a ha q => ?_)
  · have ex : h.1 68 1 ≤ nI n := by rw [h0]; exact Int32.le_refl _
    exact c_X12_threesOf_4 hA0 (fun _ => hq) (fun c => absurd ex c)
  · refine c_X12_threesOf_4 hA0 (fun c => ?_) (fun _ => ?_)
    · rw [h0, le_nI (by omega) (by omega)] at c
      omega
    obtain ⟨v, hv⟩ : ∃ v, v = sm (fun a => sm (fun b => sm (fun c => th3 (h.1 73) t a b c) b) a) a := ⟨_, rfl⟩
    have e1 : sm (fun a => sm (fun b => sm (fun c => th3 (h.1 73) t a b c) b) a) (a + 1) = v + sm (fun b => sm (fun c => th3 (h.1 73) t a b c) b) a := by rw [hv]; rfl
    rw [e1] at q
    rw [← hv]
    have key : VM X m_X12_threesOf (d + 1) nx sz Q 15 [some (.ref 68), some (.int (nI t)), some (.int (nI (v + sm (fun b => sm (fun c => th3 (h.1 73) t a b c) b) 0))), some (.int (nI a)), some (.int (nI 0)), none] [] h := by
      refine down_ind (N := a) (P := fun b => VM X m_X12_threesOf (d + 1) nx sz Q 15 [some (.ref 68), some (.int (nI t)), some (.int (nI (v + sm (fun b => sm (fun c => th3 (h.1 73) t a b c) b) b))), some (.int (nI a)), some (.int (nI b)), none] [] h) ?_ (fun b hb q2 => ?_)
      · refine c_X12_threesOf_15 (fun _ => ?_) (fun c => absurd (Int32.le_refl _) c)
        rw [nI_1]
        exact q
      · refine c_X12_threesOf_15 (fun c => ?_) (fun _ => ?_)
        · rw [le_nI (by omega) (by omega)] at c
          omega
        obtain ⟨v2, hv2⟩ : ∃ v2, v2 = v + sm (fun b => sm (fun c => th3 (h.1 73) t a b c) b) b := ⟨_, rfl⟩
        have e2 : v + sm (fun b => sm (fun c => th3 (h.1 73) t a b c) b) (b + 1) = v2 + sm (fun c => th3 (h.1 73) t a b c) b := by rw [hv2, Nat.add_assoc]; rfl
        rw [e2] at q2
        rw [← hv2]
        have key3 : VM X m_X12_threesOf (d + 1) nx sz Q 24 [some (.ref 68), some (.int (nI t)), some (.int (nI (v2 + sm (fun c => th3 (h.1 73) t a b c) 0))), some (.int (nI a)), some (.int (nI b)), some (.int (nI 0))] [] h := by
          refine down_ind (N := b) (P := fun c => VM X m_X12_threesOf (d + 1) nx sz Q 24 [some (.ref 68), some (.int (nI t)), some (.int (nI (v2 + sm (fun c => th3 (h.1 73) t a b c) c))), some (.int (nI a)), some (.int (nI b)), some (.int (nI c))] [] h) ?_ (fun c hc q3 => ?_)
          · refine c_X12_threesOf_24 (d := d) (P40 := fun _ _ => False) hA0 hF RO_rm hcs0 (fun _ => ?_) (fun c => absurd (Int32.le_refl _) c) (fun c => absurd (Int32.le_refl _) c) (fun c => absurd (Int32.le_refl _) c)
            rw [nI_1]
            exact q2
          · have e3 : v2 + sm (fun c => th3 (h.1 73) t a b c) (c + 1) = v2 + sm (fun c => th3 (h.1 73) t a b c) c + th3 (h.1 73) t a b c := (Nat.add_assoc _ _ _).symm
            rw [e3] at q3
            refine c_X12_threesOf_24 hA0 hF RO_rm hcs0 (fun z => ?_) (fun _ => vin (by omega) (by decide)) (fun _ => t_has (d := d) (by omega)) ?_
            · rw [le_nI (by omega) (by omega)] at z
              omega
            rintro _ y g ⟨rfl, rfl⟩
            rw [tN (by omega)]
            -- what the three tests make
            have fin : ∀ s1 s2 : Int32, (s2 = 0 ∨ s2 = 1) → s2 = nI (eN (h.1 73) b c) → s1 = nI (eN (h.1 73) a b + eN (h.1 73) a c) → VM X m_X12_threesOf (d + 1) nx sz Q 83 [some (.ref 68), some (.int (nI t)), none, some (.int (nI a)), some (.int (nI b)), some (.int (nI c))] [.int s2, .int s1, .int (nI (v2 + sm (fun c => th3 (h.1 73) t a b c) c))] h := by
              intro s1 s2 h01 hs2 hs1
              have l1 := eN_le (K := h.1 73) (a := a) (b := b)
              have l2 := eN_le (K := h.1 73) (a := a) (b := c)
              have l3 := eN_le (K := h.1 73) (a := b) (b := c)
              have yes : eN (h.1 73) a b + eN (h.1 73) a c + eN (h.1 73) b c = t → VM X m_X12_threesOf (d + 1) nx sz Q 24 [some (.ref 68), some (.int (nI t)), some (.int (nI (v2 + sm (fun c => th3 (h.1 73) t a b c) c) + 1)), some (.int (nI a)), some (.int (nI b)), some (.int (nI c + 1))] [] h := fun z => by
                have e : th3 (h.1 73) t a b c = 1 := if_pos z
                rw [e] at q3
                rw [nI_1, nI_1]
                exact q3
              have no : ¬ eN (h.1 73) a b + eN (h.1 73) a c + eN (h.1 73) b c = t → VM X m_X12_threesOf (d + 1) nx sz Q 24 [some (.ref 68), some (.int (nI t)), some (.int (nI (v2 + sm (fun c => th3 (h.1 73) t a b c) c) + 0)), some (.int (nI a)), some (.int (nI b)), some (.int (nI c + 1))] [] h := fun z => by
                have e : th3 (h.1 73) t a b c = 0 := if_neg z
                rw [e] at q3
                rw [show (0 : Int32) = nI 0 from rfl, nI_add, nI_1]
                exact q3
              subst hs1
              refine c_X12_threesOf_83 (fun z0 z => no fun w => z ?_) (fun z0 z => yes ?_) (fun z0 z => no fun w => z ?_) (fun z0 z => yes ?_)
              · have z1 := nI_inj (b := 0) (by omega) (by decide) (hs2.symm.trans z0)
                rw [show (0 : Int32) = nI 0 from rfl, nI_add, show eN (h.1 73) a b + eN (h.1 73) a c + 0 = t by omega]
              · have z1 := nI_inj (b := 0) (by omega) (by decide) (hs2.symm.trans z0)
                rw [show (0 : Int32) = nI 0 from rfl, nI_add] at z
                have := nI_inj (by omega) (by omega) z
                omega
              · have z1 := nI_inj (b := 1) (by omega) (by decide) (hs2.symm.trans (h01.resolve_left z0))
                rw [show (1 : Int32) = nI 1 from rfl, nI_add, show eN (h.1 73) a b + eN (h.1 73) a c + 1 = t by omega]
              · have z1 := nI_inj (b := 1) (by omega) (by decide) (hs2.symm.trans (h01.resolve_left z0))
                rw [show (1 : Int32) = nI 1 from rfl, nI_add] at z
                have := nI_inj (by omega) (by omega) z
                omega
            have b01 : ∀ x : Bool, ((if x = true then (1 : Int32) else 0) = 0 ∨ (if x = true then (1 : Int32) else 0) = 1) := by decide
            have mid : ∀ s1 s2 : Int32, (s2 = 0 ∨ s2 = 1) → s2 = nI (eN (h.1 73) a c) → s1 = nI (eN (h.1 73) a b) → VM X m_X12_threesOf (d + 1) nx sz Q 62 [some (.ref 68), some (.int (nI t)), none, some (.int (nI a)), some (.int (nI b)), some (.int (nI c))] [.int s2, .int s1, .int (nI (v2 + sm (fun c => th3 (h.1 73) t a b c) c))] h := by
              intro s1 s2 h01 hs2 hs1
              refine c_X12_threesOf_62 hA0 hF RO_rm hcs0 (fun _ => vin (by omega) (by decide)) (fun _ => t_has (d := d) (by omega)) ?_ (fun _ => vin (by omega) (by decide)) (fun _ => t_has (d := d) (by omega)) ?_
              · rintro z y g ⟨rfl, rfl⟩
                rw [tN (by omega)]
                refine fin _ _ (b01 _) eN_I ?_
                rw [hs1, show (0 : Int32) = s2 from z.symm, hs2, nI_add]
              · rintro z y g ⟨rfl, rfl⟩
                rw [tN (by omega)]
                refine fin _ _ (b01 _) eN_I ?_
                rw [hs1, show (1 : Int32) = s2 from (h01.resolve_left z).symm, hs2, nI_add]
            refine c_X12_threesOf_43 hA0 hF RO_rm hcs0 (fun _ => vin (by omega) (by decide)) (fun _ => t_has (d := d) (by omega)) ?_ (fun _ => vin (by omega) (by decide)) (fun _ => t_has (d := d) (by omega)) ?_
            · rintro z y g ⟨rfl, rfl⟩
              rw [tN (by omega)]
              exact mid _ _ (b01 _) eN_I (by rw [← eN_I, tb_n z]; rfl)
            · rintro z y g ⟨rfl, rfl⟩
              rw [tN (by omega)]
              exact mid _ _ (b01 _) eN_I (by rw [← eN_I, tb_c z]; rfl)
        exact key3
    exact key
def thV (c o w : Nat) : Int32 := if w = 0 then nI c else if w = 1 then nI o else if c + o = 0 then 0 else (3000 * nI c) / ((3 * nI c) + nI o)
theorem nI_02 {w : Nat} (hw : w ≤ 2) : ¬ nI w < 0 ∧ nI w ≤ 2 ∧ ¬ 2 < nI w := by
  have : ∀ w, w < 3 → ¬ nI w < 0 ∧ nI w ≤ 2 ∧ ¬ 2 < nI w := by decide
  exact this w (by omega)
theorem th_fin {c o w : Nat} (hc : c ≤ 8000) (ho : o ≤ 8000) (hw : w ≤ 2) : (2 ≤ nI w ↔ w = 2) ∧ (nI w = 0 ↔ w = 0) ∧ (((3 * nI c) + nI o) = 0 ↔ c + o = 0) ∧ ((nI c + nI o) = 0 ↔ c + o = 0) := by
  have e3 : (3 : Int32) = nI 3 := rfl
  have e0 : (0 : Int32) = nI 0 := rfl
  refine ⟨?_, ?_, ?_, ?_⟩
  · rw [show (2 : Int32) = nI 2 from rfl, le_nI (by omega) (by omega)]
    omega
  · exact nI_eq (b := 0) (by omega) (by decide)
  · rw [e3, pk_mul, nI_add, e0, nI_eq (by omega) (by decide)]
    omega
  · rw [nI_add, e0, nI_eq (by omega) (by decide)]
theorem s_threes_bad {x : Int32} (hA0 : 91 ≤ nx) (hF : Fx h) (c : x < 0 ∨ ¬ x ≤ 2) : Mk X (d + 1) m_X11_threes [.ref 0, .int x] h nx sz (RE (-1) h) := by
  refine Mk.re fun Q hq => e_X11_threes (c_X11_threes_0 (d := d) (P18 := fun _ _ => False) hA0 hF RO_rm hcs0 (fun _ => c_X11_threes_21 hq) (fun c1 c2 => ?_) (fun c1 c2 => ?_) (fun _ _ => c_X11_threes_21 hq))
  · exact absurd c (by rintro (z | z); exact c1 z; exact z c2)
  · exact absurd c (by rintro (z | z); exact c1 z; exact z c2)
theorem s_threes {w : Nat} (hA0 : 91 ≤ nx) (hF : Fx h) (hP : InvP h n) (hg : Gr n (h.1 2)) (hw : w ≤ 2) : Mk X (d + 2) m_X11_threes [.ref 0, .int (nI w)] h nx sz (RE (thV (thN (h.1 2) n 3) (thN (h.1 2) n 2) w) h) := by
  obtain ⟨b1, b2, b3⟩ := nI_02 hw
  have l3 : thN (h.1 2) n 3 ≤ 8000 := by rw [← th_eq hg]; exact thM_le hP.2.1
  have l2 : thN (h.1 2) n 2 ≤ 8000 := by rw [← th_eq hg]; exact thM_le hP.2.1
  obtain ⟨f1, f2, f3, f4⟩ := th_fin l3 l2 hw
  refine Mk.re fun Q hq => e_X11_threes (c_X11_threes_0 (d := d + 1) (P18 := fun y g => y = thV (thN (h.1 2) n 3) (thN (h.1 2) n 2) w ∧ h = g) hA0 hF RO_rm hcs0 (fun z => absurd z b1) (fun _ _ => ?_) ?_ (fun _ z => absurd b2 z))
  · refine Mk.re fun Q hq => e_X9_countThrees (c_X9_countThrees_0 hA0 RO_rm hcs0 (s_threesWith (t := 3) (d := d) hA0 hF hP (by omega)) ?_)
    rintro y g ⟨rfl, rfl⟩
    refine c_X9_countThrees_5 hA0 RO_rm hcs0 (s_threesWith (t := 2) (d := d) hA0 hF hP (by omega)) ?_
    rintro y g ⟨rfl, rfl⟩
    unfold thV at hq
    refine c_X9_countThrees_11 (fun _ z => z) (fun z z2 => ?_) (fun z z2 => ?_) (fun z z2 => ?_) (fun z z2 => ?_)
    · rw [f1] at z
      rw [f3] at z2
      rwa [if_neg (by omega), if_neg (by omega), if_neg z2] at hq
    · rw [f1] at z
      rw [f3] at z2
      rwa [if_neg (by omega), if_neg (by omega), if_pos z2] at hq
    · rw [f1] at z
      rw [f2] at z2
      rwa [if_neg z2, if_pos (by omega)] at hq
    · rw [f2] at z2
      rwa [if_pos z2] at hq
  · rintro _ _ y g ⟨rfl, rfl⟩
    exact c_X11_threes_21 hq
theorem t_threes_bad {x : Int32} (hA0 : 91 ≤ nx) (c : x < 0 ∨ ¬ x ≤ 2) : Mk X (d + 1) m_X12_threes [.ref 68, .int x] h nx sz (RE (-1) (setI h 68 0 0)) := by
  refine Mk.re fun Q hq => e_X12_threes (c_X12_threes_0 hA0 RO_rm hcs0 (t_isIn (d := d)) ?_)
  rintro y0 g ⟨rfl, rfl⟩
  have no : ¬ (¬ x < 0 ∧ ¬ 2 < x) := by
    rintro ⟨z1, z2⟩
    rcases c with c | c
    · exact z1 c
    · exact c (Int32.not_lt.mp z2)
  exact c_X12_threes_11 (P18 := fun _ _ => False) hA0 RO_rm hcs0 (fun z => absurd (is0 no) z) (fun z => absurd (is0 no) z) (fun _ => hq)
theorem t_threes {w : Nat} (hA0 : 91 ≤ nx) (hF : Fx h) (hP : InvP h n) (hg : Gr n (h.1 73)) (hw : w ≤ 2) : Mk X (d + 2) m_X12_threes [.ref 68, .int (nI w)] h nx sz (RE (thV (thN (h.1 73) n 3) (thN (h.1 73) n 2) w) (setI h 68 0 0)) := by
  obtain ⟨b1, b2, b3⟩ := nI_02 hw
  have hF0 : Fx (setI h 68 0 0) := hF
  have hp0 : MP (setI h 68 0 0) n := hP.mp
  have l3 : thM (h.1 73) n 3 ≤ 8000 := thM_le hP.2.1
  have l2 : thM (h.1 73) n 2 ≤ 8000 := thM_le hP.2.1
  rw [← th_eq hg, ← th_eq hg]
  obtain ⟨f1, f2, f3, f4⟩ := th_fin l3 l2 hw
  refine Mk.re fun Q hq => e_X12_threes (c_X12_threes_0 hA0 RO_rm hcs0 (t_isIn (d := d + 1)) ?_)
  rintro y0 g ⟨rfl, rfl⟩
  refine c_X12_threes_11 hA0 RO_rm hcs0 (fun _ => t_threesOf (t := 3) (d := d) hA0 hF0 hp0 (by omega)) ?_ (fun z => absurd z (ne0 ⟨b1, b3⟩))
  rintro _ y g ⟨rfl, rfl⟩
  refine c_X12_threes_21 hA0 RO_rm hcs0 (t_threesOf (t := 2) (d := d) hA0 hF0 hp0 (by omega)) ?_
  rintro y g ⟨rfl, rfl⟩
  unfold thV at hq
  refine c_X12_threes_27 (fun _ z w => z (f4.mpr (f3.mp w))) (fun z z2 => ?_) (fun z z2 => ?_) (fun z z2 => ?_) (fun z z2 => ?_)
  · rw [f1] at z
    have z2 := fun w => z2 (f4.mpr w)
    rwa [if_neg (by omega), if_neg (by omega), if_neg z2] at hq
  · rw [f1] at z
    have z2 := f4.mp z2
    rwa [if_neg (by omega), if_neg (by omega), if_pos z2] at hq
  · rw [f1] at z
    rw [f2] at z2
    rwa [if_neg z2, if_pos (by omega)] at hq
  · rw [f2] at z2
    rwa [if_pos z2] at hq
-- a tie taken out, and one made
theorem bt_ne0 {i j : Nat} (hi : i < 32) (h : i ≠ j) : tb (bt i) j = false := by
  rw [tb_bt hi]
  simp [h]
theorem join_part {K : Nat → Int32} {i j : Nat} (hi : i < 32) (hj : j < 32) (hij : i ≠ j) (h1 : tb (K i) j = true) (h2 : tb (K j) i = true) : joinK (partK K i j) i j = K := by
  funext k
  unfold joinK partK
  by_cases e1 : k = j
  · subst e1
    simp only [if_true, if_neg (Ne.symm hij)]
    apply tb_ext
    intro b hb
    rw [tb_or, tb_and, tb_not hb, tb_bt hi]
    by_cases eb : i = b
    · subst eb; simp [h2]
    · simp [eb]
  · by_cases e2 : k = i
    · subst e2
      simp only [if_true, if_neg hij]
      apply tb_ext
      intro b hb
      rw [tb_or, tb_and, tb_not hb, tb_bt hj]
      by_cases eb : j = b
      · subst eb; simp [h1]
      · simp [eb]
    · simp only [e1, e2, if_false]
theorem part_join {K : Nat → Int32} {i j : Nat} (hi : i < 32) (hj : j < 32) (hij : i ≠ j) (h1 : tb (K i) j = false) (h2 : tb (K j) i = false) : partK (joinK K i j) i j = K := by
  funext k
  unfold joinK partK
  by_cases e1 : k = j
  · subst e1
    simp only [if_true, if_neg (Ne.symm hij)]
    apply tb_ext
    intro b hb
    rw [tb_and, tb_or, tb_not hb, tb_bt hi]
    by_cases eb : i = b
    · subst eb; simp [h2]
    · simp [eb]
  · by_cases e2 : k = i
    · subst e2
      simp only [if_true, if_neg hij]
      apply tb_ext
      intro b hb
      rw [tb_and, tb_or, tb_not hb, tb_bt hj]
      by_cases eb : j = b
      · subst eb; simp [h1]
      · simp [eb]
    · simp only [e1, e2, if_false]
theorem tb_part {K : Nat → Int32} {i j k b : Nat} (hi : i < 32) (hj : j < 32) (hij : i ≠ j) : tb (partK K i j k) b = true ↔ tb (K k) b = true ∧ ¬ (k = i ∧ b = j) ∧ ¬ (k = j ∧ b = i) := by
  unfold partK
  rcases Nat.lt_or_ge b 32 with hb | hb
  · by_cases e1 : k = j
    · subst e1
      simp only [if_true, if_neg (Ne.symm hij)]
      rw [tb_and, tb_not hb, tb_bt hi]
      by_cases eb : i = b
      · subst eb; simp
      · have : ¬ b = i := fun z => eb z.symm
        simp [eb, this, Ne.symm hij]
    · by_cases e2 : k = i
      · subst e2
        simp only [if_true, if_neg hij]
        rw [tb_and, tb_not hb, tb_bt hj]
        by_cases eb : j = b
        · subst eb; simp
        · have : ¬ b = j := fun z => eb z.symm
          simp [eb, this, hij]
      · simp only [e1, e2, if_false, false_and, not_false_eq_true, and_true]
  · constructor
    · intro h
      rw [tb_32 hb] at h
      cases h
    · rintro ⟨h, -⟩
      rw [tb_32 hb] at h
      cases h
theorem tb_join {K : Nat → Int32} {i j k b : Nat} (hi : i < 32) (hj : j < 32) (hij : i ≠ j) : tb (joinK K i j k) b = true ↔ tb (K k) b = true ∨ (k = i ∧ b = j) ∨ (k = j ∧ b = i) := by
  unfold joinK
  by_cases e1 : k = j
  · subst e1
    simp only [if_true, if_neg (Ne.symm hij)]
    rw [tb_or, tb_bt hi, Bool.or_eq_true]
    simp only [decide_eq_true_eq, Ne.symm hij, false_and, true_and, false_or, eq_comm (a := b)]
  · by_cases e2 : k = i
    · subst e2
      simp only [if_true, if_neg hij]
      rw [tb_or, tb_bt hj, Bool.or_eq_true]
      simp only [decide_eq_true_eq, hij, false_and, true_and, or_false, eq_comm (a := b)]
    · simp only [e1, e2, if_false, false_and, or_false]
theorem Gr.part {K : Nat → Int32} (hg : Gr n K) (hn : n ≤ 20) {i j : Nat} (hi : i < n) (hj : j < n) (hij : i ≠ j) : Gr n (partK K i j) := by
  intro k b h
  rw [tb_part (by omega) (by omega) hij] at h
  obtain ⟨h1, h2, h3⟩ := h
  obtain ⟨g1, g2, g3, g4⟩ := hg k b h1
  exact ⟨g1, g2, g3, (tb_part (by omega) (by omega) hij).mpr ⟨g4, fun z => h3 ⟨z.2, z.1⟩, fun z => h2 ⟨z.2, z.1⟩⟩⟩
theorem Gr.join {K : Nat → Int32} (hg : Gr n K) (hn : n ≤ 20) {i j : Nat} (hi : i < n) (hj : j < n) (hij : i ≠ j) : Gr n (joinK K i j) := by
  intro k b h
  rw [tb_join (by omega) (by omega) hij] at h
  rcases h with h | ⟨rfl, rfl⟩ | ⟨rfl, rfl⟩
  · obtain ⟨g1, g2, g3, g4⟩ := hg k b h
    exact ⟨g1, g2, g3, (tb_join (by omega) (by omega) hij).mpr (Or.inl g4)⟩
  · exact ⟨hi, hj, hij, (tb_join (by omega) (by omega) hij).mpr (Or.inr (Or.inr ⟨rfl, rfl⟩))⟩
  · exact ⟨hj, hi, Ne.symm hij, (tb_join (by omega) (by omega) hij).mpr (Or.inr (Or.inl ⟨rfl, rfl⟩))⟩
-- loss
def allD (K : Nat → Int32) (n : Nat) : Nat := sm (fun i => sumD K n (full n) (full n) i) n
def lossN (K : Nat → Int32) (n i j : Nat) : Int32 := nI (allD (partK K i j) n) - nI (allD K n)
theorem s_lossOf {i j : Nat} (hA0 : 91 ≤ nx) (hF : Fx h) (hP : InvP h n) (hg : Gr n (h.1 2)) (hi : i < n) (hj : j < n) (ht : tb (h.1 2 i) j = true) : Mk X (d + 4) m_X1_lossOf [.ref 20, .int (nI i), .int (nI j)] h nx sz (RE (lossN (h.1 2) n i j) h) := by
  have h20 := hP.2.1
  obtain ⟨-, -, hij, ht2⟩ := hg i j ht
  refine Mk.re fun Q hq => e_X1_lossOf (c_X1_lossOf_0 hA0 hF RO_rm hcs0 (s_sums (d := d) hA0 hF (hP.np net1)) ?_)
  rintro y g ⟨rfl, rfl⟩
  refine c_X1_lossOf_7 hA0 hF RO_rm hcs0 (s_part (d := d + 3) hA0 hF net1 (by omega) (by omega)) ?_
  rintro g rfl
  have hF1 : Fx (setA h (1 + 1) (partK (h.1 (1 + 1)) i j)) := hF
  refine c_X1_lossOf_17 hA0 hF1 RO_rm hcs0 (s_sums (d := d) (a := 1) (n := n) hA0 hF1 (hP.np net1)) ?_
  rintro y g ⟨rfl, rfl⟩
  refine c_X1_lossOf_24 hA0 hF1 RO_rm hcs0 (s_join (d := d + 3) hA0 hF1 net1 (by omega) (by omega)) ?_
  rintro g rfl
  refine c_X1_lossOf_35 ?_
  have e : setA (setA h (1 + 1) (partK (h.1 (1 + 1)) i j)) (1 + 1) (joinK ((setA h (1 + 1) (partK (h.1 (1 + 1)) i j)).1 (1 + 1)) i j) = h := by
    rw [setA_A, setA_self, join_part (by omega) (by omega) hij ht ht2, setA_id]
  rw [e]
  exact hq
theorem t_lossOf {i j : Nat} (hA0 : 91 ≤ nx) (hF : Fx h) (hP : MP h n) (hg : Gr n (h.1 73)) (hi : i < n) (hj : j < n) (ht : tb (h.1 73 i) j = true) : Mk X (d + 5) m_X12_lossOf [.ref 68, .int (nI i), .int (nI j)] h nx sz (RE (lossN (h.1 73) n i j) h) := by
  have h20 := hP.2.2
  obtain ⟨-, -, hij, ht2⟩ := hg i j ht
  refine Mk.re fun Q hq => e_X12_lossOf (c_X12_lossOf_0 hA0 RO_rm hcs0 (t_sumOfAll (d := d) hA0 hF hP hg) ?_)
  rintro y g ⟨rfl, rfl⟩
  refine c_X12_lossOf_4 hA0 RO_rm hcs0 (t_part (d := d + 4) hA0 hF (by omega) (by omega)) ?_
  rintro g rfl
  have hF1 : Fx (setA h 73 (partK (h.1 73) i j)) := hF
  have e73 : (setA h 73 (partK (h.1 73) i j)).1 73 = partK (h.1 73) i j := setA_self
  refine c_X12_lossOf_11 hA0 RO_rm hcs0 (t_sumOfAll (d := d) (h := setA h 73 (partK (h.1 73) i j)) (n := n) hA0 hF1 hP (by rw [e73]; exact hg.part h20 hi hj hij)) ?_
  rintro y g ⟨rfl, rfl⟩
  refine c_X12_lossOf_15 hA0 RO_rm hcs0 (t_join (d := d + 4) hA0 hF1 (by omega) (by omega)) ?_
  rintro g rfl
  refine c_X12_lossOf_25 ?_
  have e : setA (setA h 73 (partK (h.1 73) i j)) 73 (joinK ((setA h 73 (partK (h.1 73) i j)).1 73) i j) = h := by
    rw [setA_A, e73, join_part (by omega) (by omega) hij ht ht2, setA_id]
  rw [e, e73]
  exact hq
theorem s_loss_bad {x y : Int32} (hA0 : 91 ≤ nx) (hF : Fx h) (hp : InvP h n) (c : tieI n (h.1 2) x y = 0) : Mk X (d + 2) m_X11_loss [.ref 0, .int x, .int y] h nx sz (RE (-1) h) := by
  refine Mk.re fun Q hq => e_X11_loss (c_X11_loss_0 hA0 hF RO_rm hcs0 (s_tied (d := d) hA0 hF (hp.np net1)) ?_)
  rintro y0 g ⟨rfl, rfl⟩
  exact c_X11_loss_9 (P18 := fun _ _ => False) hA0 hF RO_rm hcs0 (fun _ => hq) (fun c1 => absurd c c1) (fun c1 => absurd c c1)
theorem s_loss {i j : Nat} (hA0 : 91 ≤ nx) (hF : Fx h) (hp : InvP h n) (hg : Gr n (h.1 2)) (hi : i < n) (hj : j < n) (ht : tb (h.1 2 i) j = true) : Mk X (d + 5) m_X11_loss [.ref 0, .int (nI i), .int (nI j)] h nx sz (RE (lossN (h.1 2) n i j) h) := by
  refine Mk.re fun Q hq => e_X11_loss (c_X11_loss_0 hA0 hF RO_rm hcs0 (s_tied (d := d + 3) hA0 hF (hp.np net1)) ?_)
  rintro y0 g ⟨rfl, rfl⟩
  rw [tieI_nI hp.2.1 hi hj, ht]
  refine c_X11_loss_9 hA0 hF RO_rm hcs0 (fun z => by cases z) (fun _ => s_lossOf (d := d) hA0 hF hp hg hi hj ht) ?_
  rintro _ y g ⟨rfl, rfl⟩
  exact c_X11_loss_21 hq
theorem t_loss_bad {x y : Int32} (hA0 : 91 ≤ nx) (hF : Fx h) (hp : InvP h n) (hg : Gr n (h.1 73)) (c : tieI n (h.1 73) x y = 0) : Mk X (d + 2) m_X12_loss [.ref 68, .int x, .int y] h nx sz (RE (-1) (setI h 68 0 0)) := by
  have h20 := hp.2.1
  have hF0 : Fx (setI h 68 0 0) := hF
  refine Mk.re fun Q hq => e_X12_loss (c_X12_loss_0 hA0 RO_rm hcs0 (t_areTwo (d := d) hA0 (h := setI h 68 0 0) hp.mp) ?_)
  rintro y0 g ⟨rfl, rfl⟩
  by_cases c2 : twoI n x y = 0
  · exact c_X12_loss_11 (P21 := fun _ _ => False) hA0 hF0 RO_rm hcs0 (fun _ => hq) (fun c1 => absurd c2 c1) (fun c1 => absurd c2 c1) (fun c1 => absurd c2 c1)
  obtain ⟨i, j, hi, hj, -, rfl, rfl⟩ := twoI_ne (by omega) c2
  refine c_X12_loss_11 hA0 hF0 RO_rm hcs0 (fun c1 => absurd c1 c2) (fun _ => vin (by omega) (by decide)) (fun _ => t_has (d := d + 1) (by omega)) ?_
  rintro _ y0 g ⟨rfl, rfl⟩
  rw [tieI_nI h20 hi hj] at c
  rw [tN (by omega)]
  exact c_X12_loss_24 (P30 := fun _ _ => False) hA0 RO_rm hcs0 (fun _ => hq) (fun c1 => absurd c c1) (fun c1 => absurd c c1)
theorem t_loss {i j : Nat} (hA0 : 91 ≤ nx) (hF : Fx h) (hp : InvP h n) (hg : Gr n (h.1 73)) (hi : i < n) (hj : j < n) (ht : tb (h.1 73 i) j = true) : Mk X (d + 6) m_X12_loss [.ref 68, .int (nI i), .int (nI j)] h nx sz (RE (lossN (h.1 73) n i j) (setI h 68 0 0)) := by
  have h20 := hp.2.1
  have hF0 : Fx (setI h 68 0 0) := hF
  refine Mk.re fun Q hq => e_X12_loss (c_X12_loss_0 hA0 RO_rm hcs0 (t_areTwo (d := d + 4) hA0 (h := setI h 68 0 0) hp.mp) ?_)
  rintro y0 g ⟨rfl, rfl⟩
  rw [twoI_nI (by omega) hi hj (hg i j ht).2.2.1]
  refine c_X12_loss_11 hA0 hF0 RO_rm hcs0 (fun z => by cases z) (fun _ => vin (by omega) (by decide)) (fun _ => t_has (d := d + 5) (by omega)) ?_
  rintro _ y0 g ⟨rfl, rfl⟩
  rw [tN (by omega), show (setI h 68 0 0).1 73 i = h.1 73 i from rfl, ht]
  refine c_X12_loss_24 hA0 RO_rm hcs0 (fun z => by cases z) (fun _ => t_lossOf (d := d) hA0 hF0 hp.mp hg hi hj ht) ?_
  rintro _ y g ⟨rfl, rfl⟩
  exact c_X12_loss_33 hq
end OPS

/-! dear of the other side -/
section OPS
variable {X : CX} {d nx sz : Nat} {h : AH} {n : Nat}
theorem t_dear_bad {x : Int32} (hA0 : 91 ≤ nx) (c0 : ¬ x = 0) (c1 : ¬ x = 1) : Mk X (d + 1) m_X12_dear [.ref 68, .int x] h nx sz (RE (-1) (setI h 68 0 0)) := by
  refine Mk.re fun Q hq => e_X12_dear (c_X12_dear_0 hA0 RO_rm hcs0 (t_isIn (d := d)) ?_)
  rintro y0 g ⟨rfl, rfl⟩
  refine c_X12_dear_11 (fun z => absurd (bt4 z) fun q => ?_) (fun _ => hq)
  have h0 : (0 : Int32).toInt = 0 := by decide
  have h1 : (1 : Int32).toInt = 1 := by decide
  have q1 := q.1
  have q2 := q.2
  rw [Int32.lt_iff_toInt_lt] at q1 q2
  have : x.toInt = 0 ∨ x.toInt = 1 := by omega
  rcases this with z | z
  · exact c0 (Int32.toInt_inj.mp (z.trans h0.symm))
  · exact c1 (Int32.toInt_inj.mp (z.trans h1.symm))
theorem t_dear0 (hA0 : 91 ≤ nx) (hF : Fx h) (hP : InvP h n) (hg : Gr n (h.1 73)) : Mk X (d + 6) m_X12_dear [.ref 68, .int 0] h nx sz (RE (deV (h.1 73) n) (setI h 68 0 0)) := by
  obtain ⟨h0, h2, h20⟩ := hP.mp
  have hF0 : Fx (setI h 68 0 0) := hF
  have hp0 : MP (setI h 68 0 0) n := hP.mp
  have h0' : (setI h 68 0 0).1 68 1 = nI n := h0
  refine Mk.re fun Q hq => e_X12_dear (c_X12_dear_0 hA0 RO_rm hcs0 (t_isIn (d := d + 5)) ?_)
  rintro y0 g ⟨rfl, rfl⟩
  refine c_X12_dear_11 (fun _ => ?_) (fun z => by cases z)
  refine down_ind (N := n) (P := fun a => VM X m_X12_dear (d + 6) nx sz Q 23 [some (.ref 68), some (.int 0), some (.int (lkB (prO (deS (h.1 73) n) n none a))), some (.int (lkM 0 (prO (deS (h.1 73) n) n none a))), some (.int (nI a)), none, none, none] [] (setI h 68 0 0)) ?_ (fun a ha q => ?_)
  · have ex : (setI h 68 0 0).1 68 1 ≤ nI n := by rw [h0']; exact Int32.le_refl _
    exact c_X12_dear_23 hA0 (fun _ => hq) (fun c => absurd ex c)
  · refine c_X12_dear_23 hA0 (fun c => ?_) (fun _ => ?_)
    · rw [h0', le_nI (by omega) (by omega)] at c
      omega
    rw [nI_1]
    refine down_ind (N := n - (a + 1)) (P := fun j => VM X m_X12_dear (d + 6) nx sz Q 38 [some (.ref 68), some (.int 0), some (.int (lkB (prI (deS (h.1 73) n) a (prO (deS (h.1 73) n) n none a) j))), some (.int (lkM 0 (prI (deS (h.1 73) n) a (prO (deS (h.1 73) n) n none a) j))), some (.int (nI a)), some (.int (nI (a + 1 + j))), none, none] [] (setI h 68 0 0)) ?_ (fun j hj q2 => ?_)
    · have ex : (setI h 68 0 0).1 68 1 ≤ nI (a + 1 + (n - (a + 1))) := by rw [h0', show a + 1 + (n - (a + 1)) = n by omega]; exact Int32.le_refl _
      refine c_X12_dear_38 (d := d + 5) (P56 := fun _ _ => False) hA0 hF0 RO_rm hcs0 (fun _ => ?_) (fun c => absurd ex c) (fun c => absurd ex c) (fun c => absurd ex c)
      rw [nI_1]
      exact q
    · have ok := de_oki (K := h.1 73) h20 ha (m := j) (by omega)
      have e1 : prI (deS (h.1 73) n) a (prO (deS (h.1 73) n) n none a) (j + 1) = deS (h.1 73) n a (a + 1 + j) (prI (deS (h.1 73) n) a (prO (deS (h.1 73) n) n none a) j) := rfl
      rw [e1] at q2
      generalize prI (deS (h.1 73) n) a (prO (deS (h.1 73) n) n none a) j = s at *
      have hb : a + 1 + j < n := by omega
      rw [show a + 1 + (j + 1) = a + 1 + j + 1 by omega] at q2
      generalize a + 1 + j = b at *
      refine c_X12_dear_38 hA0 hF0 RO_rm hcs0 (fun c => ?_) (fun _ => vin (by omega) (by decide)) (fun _ => t_has (d := d + 5) (by omega)) ?_
      · rw [h0', le_nI (by omega) (by omega)] at c
        omega
      rintro _ y g ⟨rfl, rfl⟩
      rw [tN (by omega), show (setI h 68 0 0).1 73 a = h.1 73 a from rfl]
      refine c_X12_dear_59 (P81 := fun _ _ => False) (P133 := fun _ _ => False) hA0 RO_rm hcs0 (fun z => absurd rfl z) (fun z => absurd rfl z) (fun z => absurd rfl z) (fun _ _ z => absurd rfl z) (fun _ _ z => absurd rfl z) (fun _ c _ => t_lossOf (d := d) hA0 hF0 hp0 hg ha hb (tb_c c)) ?_ (fun _ c => ?_)
      · rintro _ c _ y g ⟨rfl, rfl⟩
        have ct : tb (h.1 73 a) b = true := tb_c c
        have hl := loss_pos hg h20 ct
        have hle := allD_le (K := partK (h.1 73) a b) h20
        rw [show lossN ((setI h 68 0 0).1 73) n a b = lossN (h.1 73) n a b from rfl, lossN_nI hg h20 ct]
        refine c_X12_dear_125 (c_X12_dear_136 (fun _ c1 => ?_) (fun _ c1 c2 => ?_) (fun _ c1 c2 => ?_) (fun z => by cases z) (fun z => by cases z) (fun z => by cases z) (fun z => by cases z))
        · have c1 := (deB_none ok).mp c1
          subst c1
          have e : deS (h.1 73) n a b none = some (20 * a + b, allD (partK (h.1 73) a b) n - allD (h.1 73) n) := if_pos ct
          rw [e] at q2
          rw [nI_1, e20j]
          exact q2
        · obtain ⟨p, rfl⟩ : ∃ p, s = some p := by
            cases s with
            | none => exact absurd rfl c1
            | some p => exact ⟨p, rfl⟩
          have op := ok p rfl
          have c2 : nI p.2 < _ := c2
          rw [nI_ltI (by omega) (by omega)] at c2
          have e : deS (h.1 73) n a b (some p) = some (20 * a + b, allD (partK (h.1 73) a b) n - allD (h.1 73) n) := by
            unfold deS
            rw [if_pos ct]
            exact if_pos c2
          rw [e] at q2
          rw [nI_1, e20j]
          exact q2
        · obtain ⟨p, rfl⟩ : ∃ p, s = some p := by
            cases s with
            | none => exact absurd rfl c1
            | some p => exact ⟨p, rfl⟩
          have op := ok p rfl
          have c2 : ¬ nI p.2 < _ := c2
          rw [nI_ltI (by omega) (by omega)] at c2
          have e : deS (h.1 73) n a b (some p) = some p := by
            unfold deS
            rw [if_pos ct]
            exact if_neg c2
          rw [e] at q2
          rw [nI_1]
          exact q2
      · have e : deS (h.1 73) n a b s = s := if_neg (by rw [show tb (h.1 73 a) b = false from tb_n c]; decide)
        rw [e] at q2
        rw [nI_1]
        exact q2
def gfF (K : Nat → Int32) (n : Nat) : Option (Nat × Nat) → Int32
  | none => 0
  | some p => nI (allD K n) - nI p.2
theorem gfB_none {K : Nat → Int32} {s : Option (Nat × Nat)} (ok : gfOk K n s) : lkB s = -1 ↔ s = none := by
  cases s with
  | none => simp [lkB]
  | some p =>
    constructor
    · intro z
      have : ∀ k, k < 1000 → ¬ nI k = -1 := by decide +kernel
      exact absurd z (this _ (ok p rfl).1)
    · intro z
      cases z
theorem t_dear1 (hA0 : 91 ≤ nx) (hF : Fx h) (hP : InvP h n) (hg : Gr n (h.1 73)) (D : ∀ a b, Decidable (okT (h.1 73) (h.1 75) a b)) : Mk X (d + 6) m_X12_dear [.ref 68, .int 1] h nx sz (RE (gfV (h.1 73) (h.1 75) n D) (setI h 68 0 0)) := by
  obtain ⟨h0, h2, h20⟩ := hP.mp
  have hF0 : Fx (setI h 68 0 0) := hF
  have hp0 : MP (setI h 68 0 0) n := hP.mp
  have h0' : (setI h 68 0 0).1 68 1 = nI n := h0
  have hA := allD_le (K := h.1 73) h20
  refine Mk.re fun Q hq => e_X12_dear (c_X12_dear_0 hA0 RO_rm hcs0 (t_isIn (d := d + 5)) ?_)
  rintro y0 g ⟨rfl, rfl⟩
  refine c_X12_dear_11 (fun _ => ?_) (fun z => by cases z)
  refine down_ind (N := n) (P := fun a => VM X m_X12_dear (d + 6) nx sz Q 23 [some (.ref 68), some (.int 1), some (.int (lkB (prO (fun a b => gfS (h.1 73) (h.1 75) n a b (D a b)) n none a))), some (.int (gfF (h.1 73) n (prO (fun a b => gfS (h.1 73) (h.1 75) n a b (D a b)) n none a))), some (.int (nI a)), none, none, none] [] (setI h 68 0 0)) ?_ (fun a ha q => ?_)
  · have ex : (setI h 68 0 0).1 68 1 ≤ nI n := by rw [h0']; exact Int32.le_refl _
    exact c_X12_dear_23 hA0 (fun _ => hq) (fun c => absurd ex c)
  · refine c_X12_dear_23 hA0 (fun c => ?_) (fun _ => ?_)
    · rw [h0', le_nI (by omega) (by omega)] at c
      omega
    rw [nI_1]
    refine down_ind (N := n - (a + 1)) (P := fun j => VM X m_X12_dear (d + 6) nx sz Q 38 [some (.ref 68), some (.int 1), some (.int (lkB (prI (fun a b => gfS (h.1 73) (h.1 75) n a b (D a b)) a (prO (fun a b => gfS (h.1 73) (h.1 75) n a b (D a b)) n none a) j))), some (.int (gfF (h.1 73) n (prI (fun a b => gfS (h.1 73) (h.1 75) n a b (D a b)) a (prO (fun a b => gfS (h.1 73) (h.1 75) n a b (D a b)) n none a) j))), some (.int (nI a)), some (.int (nI (a + 1 + j))), none, none] [] (setI h 68 0 0)) ?_ (fun j hj q2 => ?_)
    · have ex : (setI h 68 0 0).1 68 1 ≤ nI (a + 1 + (n - (a + 1))) := by rw [h0', show a + 1 + (n - (a + 1)) = n by omega]; exact Int32.le_refl _
      refine c_X12_dear_38 (d := d + 5) (P56 := fun _ _ => False) hA0 hF0 RO_rm hcs0 (fun _ => ?_) (fun c => absurd ex c) (fun c => absurd ex c) (fun c => absurd ex c)
      rw [nI_1]
      exact q
    · have ok := gf_oki (K := h.1 73) (L := h.1 75) (D := D) h20 ha (m := j) (by omega)
      have e1 : prI (fun a b => gfS (h.1 73) (h.1 75) n a b (D a b)) a (prO (fun a b => gfS (h.1 73) (h.1 75) n a b (D a b)) n none a) (j + 1) = gfS (h.1 73) (h.1 75) n a (a + 1 + j) (D a (a + 1 + j)) (prI (fun a b => gfS (h.1 73) (h.1 75) n a b (D a b)) a (prO (fun a b => gfS (h.1 73) (h.1 75) n a b (D a b)) n none a) j) := rfl
      rw [e1] at q2
      generalize prI (fun a b => gfS (h.1 73) (h.1 75) n a b (D a b)) a (prO (fun a b => gfS (h.1 73) (h.1 75) n a b (D a b)) n none a) j = s at *
      have hb : a + 1 + j < n := by omega
      have hab : a ≠ a + 1 + j := by omega
      rw [show a + 1 + (j + 1) = a + 1 + j + 1 by omega] at q2
      generalize a + 1 + j = b at *
      have skip : ¬ okT (h.1 73) (h.1 75) a b → VM X m_X12_dear (d + 6) nx sz Q 38 [some (.ref 68), some (.int 1), some (.int (lkB s)), some (.int (gfF (h.1 73) n s)), some (.int (nI a)), some (.int (nI b + 1)), none, none] [] (setI h 68 0 0) := fun z => by
        have e : gfS (h.1 73) (h.1 75) n a b (D a b) s = s := if_neg z
        rw [e] at q2
        rw [nI_1]
        exact q2
      refine c_X12_dear_38 hA0 hF0 RO_rm hcs0 (fun c => ?_) (fun _ => vin (by omega) (by decide)) (fun _ => t_has (d := d + 5) (by omega)) ?_
      · rw [h0', le_nI (by omega) (by omega)] at c
        omega
      rintro _ y g ⟨rfl, rfl⟩
      rw [tN (by omega), show (setI h 68 0 0).1 73 a = h.1 73 a from rfl]
      have z10 : ¬ (1 : Int32) = 0 := by decide
      refine c_X12_dear_59 (P133 := fun _ _ => False) (P122 := fun _ _ => False) hA0 RO_rm hcs0 (fun _ c => skip fun z => by have := z.1; rw [tb_c c] at this; cases this) (fun _ _ => t_many (d := d + 4) hA0 hF0 (by omega)) ?_ (fun z => absurd z z10) (fun z => absurd z z10) (fun z => absurd z z10) (fun z => absurd z z10) (fun z => absurd z z10)
      rintro _ c y g ⟨rfl, rfl⟩
      have ct : tb (h.1 73 a) b = false := tb_n c
      refine c_X12_dear_84 hA0 hF0 RO_rm hcs0 (vin (by omega) (by decide)) (fun c1 => skip fun z => ?_) (fun _ => t_many (d := d + 4) hA0 hF0 (by omega)) ?_
      · rw [tN (by omega)] at c1
        exact absurd z.2.1 (Int32.not_lt.mpr c1)
      rintro c1 y g ⟨rfl, rfl⟩
      rw [tN (by omega)] at c1
      refine c_X12_dear_100 (P122 := fun _ _ => False) hA0 hF0 RO_rm hcs0 (vin (by omega) (by decide)) (fun _ _ => t_giftOf (d := d) hA0 hF0 hp0 hg ha hb hab ct) ?_ (fun _ z => absurd z z10) (fun _ z => absurd z z10) (fun c2 => skip fun z => ?_)
      · rintro c2 _ y g ⟨rfl, rfl⟩
        rw [tN (by omega)] at c2
        have okt : okT (h.1 73) (h.1 75) a b := ⟨ct, Int32.not_le.mp c1, c2⟩
        have hle : allD (joinK (h.1 73) a b) n ≤ allD (h.1 73) n := allD_mono h20 (join_sub (by omega) (by omega) hab)
        have e0 : nI (allD ((setI h 68 0 0).1 73) n) - nI (allD (joinK ((setI h 68 0 0).1 73) a b) n) = nI (allD (h.1 73) n - allD (joinK (h.1 73) a b) n) := nI_subN hle
        rw [e0]
        have z11 : ¬ (¬ (1 : Int32) = 1) := fun z => z rfl
        refine c_X12_dear_136 (fun z => absurd rfl z) (fun z => absurd rfl z) (fun z => absurd rfl z) (fun _ c3 => ?_) (fun _ c3 c4 => ?_) (fun _ c3 c4 c5 => ?_) (fun _ c3 c4 c5 => ?_)
        · rw [nI_le0 (by omega)] at c3
          have e : gfS (h.1 73) (h.1 75) n a b (D a b) s = s := by
            unfold gfS
            rw [if_pos okt]
            cases s with
            | none => exact if_neg (by omega)
            | some p =>
              have := (ok p rfl).2
              exact if_neg (by omega)
          rw [e] at q2
          rw [nI_1]
          exact q2
        · rw [nI_le0 (by omega)] at c3
          have c4 := (gfB_none ok).mp c4
          subst c4
          have e : gfS (h.1 73) (h.1 75) n a b (D a b) none = some (20 * a + b, allD (joinK (h.1 73) a b) n) := by
            unfold gfS
            rw [if_pos okt]
            exact if_pos (by omega)
          rw [e] at q2
          rw [nI_1, e20j, ← nI_subN hle]
          exact q2
        · obtain ⟨p, rfl⟩ : ∃ p, s = some p := by
            cases s with
            | none => exact absurd rfl c4
            | some p => exact ⟨p, rfl⟩
          have op := ok p rfl
          have c5 : nI (allD (h.1 73) n) - nI p.2 < _ := c5
          rw [nI_subN (by omega), nI_ltI (by omega) (by omega)] at c5
          have e : gfS (h.1 73) (h.1 75) n a b (D a b) (some p) = some (20 * a + b, allD (joinK (h.1 73) a b) n) := by
            unfold gfS
            rw [if_pos okt]
            exact if_pos (by omega)
          rw [e] at q2
          rw [nI_1, e20j, ← nI_subN hle]
          exact q2
        · obtain ⟨p, rfl⟩ : ∃ p, s = some p := by
            cases s with
            | none => exact absurd rfl c4
            | some p => exact ⟨p, rfl⟩
          have op := ok p rfl
          have c5 : ¬ nI (allD (h.1 73) n) - nI p.2 < _ := c5
          rw [nI_subN (by omega), nI_ltI (by omega) (by omega)] at c5
          have e : gfS (h.1 73) (h.1 75) n a b (D a b) (some p) = some p := by
            unfold gfS
            rw [if_pos okt]
            exact if_neg (by omega)
          rw [e] at q2
          rw [nI_1]
          exact q2
      · rw [tN (by omega)] at c2
        exact c2 z.2.2
end OPS

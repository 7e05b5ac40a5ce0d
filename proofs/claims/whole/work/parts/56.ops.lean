/-! load of the class -/
section OPS
variable {X : CX} {d nx sz : Nat} {h : AH} {n : Nat}
theorem dstI_dst {K K' : Nat → Int32} {m : Int32} {a b : Nat} (hn : n ≤ 20) : dstI K n m a b = dstI K' n m a b ↔ dst K n m a b = dst K' n m a b := by
  constructor
  · intro z
    cases hd : dst K' n m a b with
    | none =>
      rw [(dstI_m1 hn).mpr hd] at z
      exact (dstI_m1 hn).mp z
    | some j =>
      have hj := (dst_iff.mp hd).1
      rw [(dstI_iff hn (by omega)).mpr hd] at z
      exact (dstI_iff hn (by omega)).mp z
  · intro z
    unfold dstI
    rw [z]
def ldR (K K' : Nat → Int32) (n i : Nat) : Nat := sm (fun j => if dst K n (full n) i j = dst K' n (full n) i j then 0 else 1) n
def ldN (K K' : Nat → Int32) (n : Nat) : Nat := sm (fun i => ldR K K' n i) n
theorem ldN_le {K K' : Nat → Int32} (hn : n ≤ 20) : ldN K K' n ≤ 400 := by
  have : ldN K K' n ≤ n * n := sm_le fun i _ => by
    have : ldR K K' n i ≤ n * 1 := sm_le fun j _ => by split <;> omega
    omega
  have : n * n ≤ 20 * 20 := Nat.mul_le_mul hn hn
  omega
theorem s_loadOf {a b : Nat} (hA0 : 91 ≤ nx) (hF : Fx h) (hP : InvP h n) (hg : Gr n (h.1 2)) (ht : tb (h.1 2 a) b = true) : Mk X (d + 2) m_X5_loadOf [.ref 13, .int (nI a), .int (nI b)] h nx sz (RI fun y g => y = nI (ldN (h.1 2) (partK (h.1 2) a b) n / 2) ∧ Sc h g) := by
  obtain ⟨h2, h20, -, -, -⟩ := id hP
  obtain ⟨ha, hb, hab, ht2⟩ := hg a b ht
  refine e_X5_loadOf (c_X5_loadOf_0 ?_)
  have key : ∀ g, Sc h g → VM X m_X5_loadOf (d + 2) nx sz (RI fun y g => y = nI (ldN (h.1 2) (partK (h.1 2) a b) n / 2) ∧ Sc h g) 5 [some (.ref 13), some (.int (nI a)), some (.int (nI b)), some (.int (nI (sm (fun i => ldR (h.1 2) (partK (h.1 2) a b) n i) 0))), some (.int (nI 0)), none] [] g := by
    refine down_ind (N := n) (P := fun i => ∀ g, Sc h g → VM X m_X5_loadOf (d + 2) nx sz (RI fun y g => y = nI (ldN (h.1 2) (partK (h.1 2) a b) n / 2) ∧ Sc h g) 5 [some (.ref 13), some (.int (nI a)), some (.int (nI b)), some (.int (nI (sm (fun i => ldR (h.1 2) (partK (h.1 2) a b) n i) i))), some (.int (nI i)), none] [] g) (fun g sg => ?_) (fun i hi q g sg => ?_)
    · have h0 := ((hP.sc sg).np net1).2.1
      have ex : g.1 1 0 ≤ nI n := by rw [h0]; exact Int32.le_refl _
      have hl := ldN_le (K := h.1 2) (K' := partK (h.1 2) a b) h20
      refine c_X5_loadOf_5 (d := d + 1) (P27 := fun _ => False) hA0 (hF.sc sg) RO_rm hcs0 (fun _ => ⟨_, rfl, ?_, sg⟩) (fun c => absurd ex c) (fun c => absurd ex c)
      exact div2_nI (m := ldN (h.1 2) (partK (h.1 2) a b) n) (by omega)
    · have hNP := (hP.sc sg).np net1
      have hFg := hF.sc sg
      have e2 : g.1 2 = h.1 2 := sg.row (fun j => rfl)
      refine c_X5_loadOf_5 hA0 hFg RO_rm hcs0 (fun c => ?_) (fun _ => s_measure (d := d) (r := 15) hA0 hFg hNP hi rfl (by omega) (by decide)) ?_
      · rw [hNP.2.1, le_nI (by omega) (by omega)] at c
        omega
      rintro _ g1 ⟨p1, p2, p3⟩
      have hF1 : Fx g1 := hFg.of p1
      have e21 : g1.1 2 = h.1 2 := (p2 2 (by decide)).trans e2
      refine c_X5_loadOf_30 hA0 hF1 RO_rm hcs0 (s_part (d := d + 1) hA0 hF1 net1 (by omega) (by omega)) ?_
      rintro g2 rfl
      have hF2 : Fx (setA g1 (1 + 1) (partK (g1.1 (1 + 1)) a b)) := hF1
      have hNP2 : NP (setA g1 (1 + 1) (partK (g1.1 (1 + 1)) a b)) 1 n := ⟨hNP.1, by rw [setA_get_ne (by decide), p2 1 (by decide)]; exact hNP.2.1, by rw [setA_get_ne (by decide), p2 1 (by decide)]; exact hNP.2.2.1, hNP.2.2.2⟩
      refine c_X5_loadOf_39 hA0 hF2 RO_rm hcs0 (s_measure (d := d) (r := 16) hA0 hF2 hNP2 hi rfl (by omega) (by decide)) ?_
      rintro g3 ⟨q1, q2, q3⟩
      have hF3 : Fx g3 := hF2.of q1
      refine c_X5_loadOf_52 hA0 hF3 RO_rm hcs0 (s_join (d := d + 1) hA0 hF3 net1 (by omega) (by omega)) ?_
      rintro g4 rfl
      refine c_X5_loadOf_61 ?_
      have e23 : g3.1 2 = partK (h.1 2) a b := by rw [q2 2 (by decide), show (setA g1 (1 + 1) (partK (g1.1 (1 + 1)) a b)).1 2 = partK (g1.1 2) a b from setA_self, e21]
      obtain ⟨g4, hg4⟩ : ∃ g4, g4 = setA g3 (1 + 1) (joinK (g3.1 (1 + 1)) a b) := ⟨_, rfl⟩
      rw [← hg4]
      have e24 : g4.1 2 = h.1 2 := by
        rw [hg4, show (setA g3 (1 + 1) (joinK (g3.1 (1 + 1)) a b)).1 2 = joinK (g3.1 2) a b from setA_self, e23]
        exact join_part (by omega) (by omega) hab ht ht2
      have r4 : ∀ c, c ≠ 2 → g4.1 c = g3.1 c := fun c hc => by rw [hg4]; exact setA_get_ne hc
      have r3 : ∀ c, c ≠ 2 → c ≠ 16 → g3.1 c = g1.1 c := fun c hc hc2 => by rw [q2 c hc2]; exact setA_get_ne hc
      have f4 : g4.2 = h.2 → Fx g4 := fun e => hF.of e
      have fx2 : g4.2 = g.2 := by rw [hg4]; exact q1.trans p1
      have hF4 : Fx g4 := hFg.of fx2
      have s4 : Sc h g4 := by
        refine ⟨fun c j hs => ?_, fun k j hk => by rw [fx2]; exact sg.2.1 k j hk, fun t => by unfold TXT at *; rw [fx2]; exact sg.2.2 t⟩
        by_cases ec : c = 2
        · rw [ec, e24]
        · have n15 : c ≠ 15 := fun e => by rw [e] at hs; cases hs
          have n16 : c ≠ 16 := fun e => by rw [e] at hs; cases hs
          rw [r4 c ec, r3 c ec n16, p2 c n15]
          exact sg.1 c j hs
      have v15 : ∀ j, j < n → g4.1 15 j = dstI (h.1 2) n (full n) i j := fun j hj => by
        rw [r4 15 (by decide), r3 15 (by decide) (by decide), p3 j hj, show g.1 (1 + 1) = h.1 2 from e2]
      have v16 : ∀ j, j < n → g4.1 16 j = dstI (partK (h.1 2) a b) n (full n) i j := fun j hj => by
        rw [r4 16 (by decide), q3 j hj, show (setA g1 (1 + 1) (partK (g1.1 (1 + 1)) a b)).1 (1 + 1) = partK (g1.1 2) a b from setA_self, e21]
      have h04 : g4.1 1 0 = nI n := ((hP.sc s4).np net1).2.1
      obtain ⟨v, hv⟩ : ∃ v, v = sm (fun i => ldR (h.1 2) (partK (h.1 2) a b) n i) i := ⟨_, rfl⟩
      have e1 : sm (fun i => ldR (h.1 2) (partK (h.1 2) a b) n i) (i + 1) = v + ldR (h.1 2) (partK (h.1 2) a b) n i := by rw [hv]; rfl
      rw [e1] at q
      rw [← hv]
      have inner : VM X m_X5_loadOf (d + 2) nx sz (RI fun y g => y = nI (ldN (h.1 2) (partK (h.1 2) a b) n / 2) ∧ Sc h g) 64 [some (.ref 13), some (.int (nI a)), some (.int (nI b)), some (.int (nI (v + sm (fun j => if dst (h.1 2) n (full n) i j = dst (partK (h.1 2) a b) n (full n) i j then 0 else 1) 0))), some (.int (nI i)), some (.int (nI 0))] [] g4 := by
        refine down_ind (N := n) (P := fun j => VM X m_X5_loadOf (d + 2) nx sz (RI fun y g => y = nI (ldN (h.1 2) (partK (h.1 2) a b) n / 2) ∧ Sc h g) 64 [some (.ref 13), some (.int (nI a)), some (.int (nI b)), some (.int (nI (v + sm (fun j => if dst (h.1 2) n (full n) i j = dst (partK (h.1 2) a b) n (full n) i j then 0 else 1) j))), some (.int (nI i)), some (.int (nI j))] [] g4) ?_ (fun j hj q5 => ?_)
        · have ex : g4.1 1 0 ≤ nI n := by rw [h04]; exact Int32.le_refl _
          refine c_X5_loadOf_64 hA0 hF4 (fun _ => ?_) (fun c => absurd ex c) (fun c => absurd ex c) (fun c => absurd ex c) (fun c => absurd ex c)
          rw [nI_1]
          exact q g4 s4
        · have e5 : v + sm (fun j => if dst (h.1 2) n (full n) i j = dst (partK (h.1 2) a b) n (full n) i j then 0 else 1) (j + 1) = v + sm (fun j => if dst (h.1 2) n (full n) i j = dst (partK (h.1 2) a b) n (full n) i j then 0 else 1) j + (if dst (h.1 2) n (full n) i j = dst (partK (h.1 2) a b) n (full n) i j then 0 else 1) := (Nat.add_assoc _ _ _).symm
          rw [e5] at q5
          refine c_X5_loadOf_64 hA0 hF4 (fun c => ?_) (fun _ => vin (by omega) (by decide)) (fun _ => vin (by omega) (by decide)) (fun _ c => ?_) (fun _ c => ?_)
          · rw [h04, le_nI (by omega) (by omega)] at c
            omega
          · rw [tN (by omega), v15 j hj, v16 j hj, dstI_dst h20] at c
            rw [if_pos c] at q5
            rw [show (0 : Int32) = nI 0 from rfl, nI_add, nI_1]
            exact q5
          · rw [tN (by omega), v15 j hj, v16 j hj, dstI_dst h20] at c
            rw [if_neg c] at q5
            rw [nI_1, nI_1]
            exact q5
      exact inner
  exact key h Sc.rfl
end OPS

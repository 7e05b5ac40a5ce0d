/-! ring and fine -/
section OPS
variable {X : CX} {d nx sz : Nat} {h : AH} {n : Nat}
def rOk (n : Nat) (L : Nat → Int32) (j : Nat) : Prop := ∀ p, p < n → bc (rK n (nI j) p) ≤ L p
theorem s_ring_bad {x : Int32} (hA0 : 91 ≤ nx) (hp : InvP h n) (c : ¬ okx n x) : Mk X (d + 1) m_X11_ring [.ref 0, .int x] h nx sz (RE (-1) h) := by
  have D : Decidable (okx n x) := Classical.propDecidable _
  refine Mk.re fun Q hq => e_X11_ring (c_X11_ring_0 hA0 RO_rm hcs0 (s_mayJump (d := d) hA0 hp.2.2.1 hp.2.1 D) ?_)
  rintro y0 g ⟨rfl, rfl⟩
  exact c_X11_ring_5 (fun z => absurd (is0 c) z) (fun _ => hq)
theorem s_ring {j : Nat} (hA0 : 91 ≤ nx) (hF : Fx h) (hp : InvP h n) (ok : okj n j) (D : Decidable (rOk n (h.1 3) j)) : Mk X (d + 3) m_X11_ring [.ref 0, .int (nI j)] h nx sz (RE (if rOk n (h.1 3) j then smI (fun i => bc (upto n (rK n (nI j)) (h.1 2) i)) n / 2 else -1) (if rOk n (h.1 3) j then setA h 2 (upto n (rK n (nI j)) (h.1 2)) else h)) := by
  obtain ⟨h2, h20, h0, h3, h4⟩ := id hp
  have Dx : Decidable (okx n (nI j)) := Classical.propDecidable _
  refine Mk.re fun Q hq => e_X11_ring (c_X11_ring_0 hA0 RO_rm hcs0 (s_mayJump (d := d + 2) hA0 h0 h20 Dx) ?_)
  rintro y0 g ⟨rfl, rfl⟩
  refine c_X11_ring_5 (fun _ => ?_) (fun z => absurd z (ne0 ⟨j, rfl, ok⟩))
  refine down_ind (N := n) (P := fun i => (∀ p, p < i → bc (rK n (nI j) p) ≤ h.1 3 p) → VM X m_X11_ring (d + 3) nx sz Q 12 [some (.ref 0), some (.int (nI j)), some (.int (nI i))] [] h) (fun hno => ?_) (fun i hi q hno => ?_) (fun p hp => by omega)
  · have ex : h.1 0 0 ≤ nI n := by rw [h0]; exact Int32.le_refl _
    have hno : rOk n (h.1 3) j := hno
    rw [if_pos hno, if_pos hno] at hq
    refine c_X11_ring_12 (P23 := fun _ _ => False) hA0 hF RO_rm hcs0 (fun _ => s_tieRing (d := d + 1) hA0 hF net1 h0 h2 h20) ?_ (fun c => absurd ex c) (fun c => absurd ex c)
    rintro _ g rfl
    refine c_X11_ring_58 hA0 hF RO_rm hcs0 (s_tieCount (d := d) hA0 (a := 1) (n := n) hF (hp.np net1)) ?_
    rintro y g ⟨rfl, rfl⟩
    exact c_X11_ring_65 hq
  · refine c_X11_ring_12 (P55 := fun _ => False) hA0 hF RO_rm hcs0 (fun c => ?_) (fun c => ?_) (fun _ => s_ringRow (d := d + 2) hA0 h0 h2 h20 hi) ?_
    · rw [h0, le_nI (by omega) (by omega)] at c
      omega
    · rw [h0, le_nI (by omega) (by omega)] at c
      omega
    · rintro _ y g ⟨rfl, rfl⟩
      refine c_X11_ring_26 RO_rm hcs0 (s_bitCount (d := d + 2)) ?_
      rintro y g ⟨rfl, rfl⟩
      refine c_X11_ring_29 hA0 hF (vin (by omega) (by decide)) (fun c => ?_) (fun c => ?_)
      · rw [tN (by omega)] at c
        rw [nI_1]
        refine q fun p hp => ?_
        by_cases e : p = i
        · subst e
          exact c
        · exact hno p (by omega)
      · rw [tN (by omega)] at c
        have no : ¬ rOk n (h.1 3) j := fun z => c (z i hi)
        rwa [if_neg no, if_neg no] at hq
theorem t_ring_bad {x : Int32} (hA0 : 91 ≤ nx) (hp : InvP h n) (c : ¬ okx n x) : Mk X (d + 2) m_X12_ring [.ref 68, .int x] h nx sz (RE (-1) (setI h 68 0 0)) := by
  have D : Decidable (okx n x) := Classical.propDecidable _
  refine Mk.re fun Q hq => e_X12_ring (c_X12_ring_0 hA0 RO_rm hcs0 (t_areJumps (d := d) (h := setI h 68 0 0) hA0 hp.mp D) ?_)
  rintro y0 g ⟨rfl, rfl⟩
  exact c_X12_ring_10 (P17 := fun _ _ => False) hA0 RO_rm hcs0 (fun z => absurd (is0 c) z) (fun z => absurd (is0 c) z) (fun _ => hq)
theorem rK_lay {j : Nat} {K : Nat → Int32} (h2 : 2 ≤ n) (hn : n ≤ 20) (ok : okj n j) : upto n (fun p => lrF n (roF n (nI j) 10) p (n - 1)) K = upto n (rK n (nI j)) K := by
  funext p
  unfold upto
  split
  · exact lr_rr h2 hn ok
  · rfl
theorem t_ring {j : Nat} (hA0 : 91 ≤ nx) (hF : Fx h) (hp : InvP h n) (ok : okj n j) (D : Decidable (rOk n (h.1 75) j)) : Mk X (d + 3) m_X12_ring [.ref 68, .int (nI j)] h nx sz (RE (if rOk n (h.1 75) j then smI (fun i => bc (upto n (rK n (nI j)) (h.1 73) i)) n / 2 else -1) (if rOk n (h.1 75) j then setA (setI h 68 0 0) 73 (upto n (rK n (nI j)) (h.1 73)) else setI h 68 0 0)) := by
  obtain ⟨h0, h2, h20⟩ := hp.mp
  have Dx : Decidable (okx n (nI j)) := Classical.propDecidable _
  have h0' : (setI h 68 0 0).1 68 1 = nI n := h0
  have hF0 : Fx (setI h 68 0 0) := hF
  have hp0 : MP (setI h 68 0 0) n := hp.mp
  refine Mk.re fun Q hq => e_X12_ring (c_X12_ring_0 hA0 RO_rm hcs0 (t_areJumps (d := d + 1) (h := setI h 68 0 0) hA0 hp0 Dx) ?_)
  rintro y0 g ⟨rfl, rfl⟩
  refine c_X12_ring_10 hA0 RO_rm hcs0 (fun _ => t_ringOf (d := d + 1) hA0 hp0 ok) ?_ (fun z => absurd z (ne0 ⟨j, rfl, ok⟩))
  rintro _ y g ⟨rfl, rfl⟩
  refine c_X12_ring_20 ?_
  refine down_ind (N := n) (P := fun i => (∀ p, p < i → bc (rK n (nI j) p) ≤ h.1 75 p) → VM X m_X12_ring (d + 3) nx sz Q 23 [some (.ref 68), none, some (.int (roF n (nI j) 10)), some (.int (nI i))] [] (setI h 68 0 0)) (fun hno => ?_) (fun i hi q hno => ?_) (fun p hp => by omega)
  · have ex : (setI h 68 0 0).1 68 1 ≤ nI n := by rw [h0']; exact Int32.le_refl _
    have hno : rOk n (h.1 75) j := hno
    rw [if_pos hno, if_pos hno] at hq
    refine c_X12_ring_23 (P32 := fun _ _ => False) hA0 RO_rm hcs0 (fun _ => t_layRing (d := d + 1) hA0 hF0 hp0) ?_ (fun c => absurd ex c) (fun c => absurd ex c)
    rintro _ g rfl
    rw [rK_lay h2 h20 ok]
    refine c_X12_ring_57 hA0 RO_rm hcs0 (t_ties (d := d + 1) (n := n) hA0 hF hp.mp) ?_
    rintro y g ⟨rfl, rfl⟩
    exact c_X12_ring_61 hq
  · refine c_X12_ring_23 (P54 := fun _ => False) hA0 RO_rm hcs0 (fun c => ?_) (fun c => ?_) (fun _ => s_bitCount (d := d + 2)) ?_
    · rw [h0', le_nI (by omega) (by omega)] at c
      omega
    · rw [h0', le_nI (by omega) (by omega)] at c
      omega
    · rintro _ y g ⟨rfl, rfl⟩
      rw [← rK_cnt h2 h20 ok hi]
      refine c_X12_ring_35 hA0 hF0 (vin (by omega) (by decide)) (fun c => ?_) (fun c => ?_)
      · rw [tN (by omega)] at c
        rw [nI_1]
        refine q fun p hp => ?_
        by_cases e : p = i
        · subst e
          exact c
        · exact hno p (by omega)
      · rw [tN (by omega)] at c
        have no : ¬ rOk n (h.1 75) j := fun z => c (z i hi)
        rwa [if_neg no, if_neg no] at hq
-- fine
def fnS (n m : Nat) : Nat → Int32 × Int32
  | 0 => (-1, 0)
  | k + 1 => if cnt (nI (k + 1)) 32 = m ∧ k + 1 < 2 ^ (min 10 (n / 2)) then (if (fnS n m k).1 = -1 ∨ nI (rsum n (k + 1)) < (fnS n m k).2 then (nI (k + 1), nI (rsum n (k + 1))) else fnS n m k) else fnS n m k
def fnV (n m w : Nat) : Int32 := if w = 0 ∨ (fnS n m 1023).1 = -1 then (fnS n m 1023).1 else (fnS n m 1023).2
theorem fnS_end {m k : Nat} (hk : 2 ^ (min 10 (n / 2)) ≤ k + 1) : ∀ d, fnS n m (k + d) = fnS n m k
  | 0 => rfl
  | d + 1 => by
    show (if cnt (nI (k + d + 1)) 32 = m ∧ k + d + 1 < 2 ^ (min 10 (n / 2)) then _ else fnS n m (k + d)) = _
    rw [if_neg (fun z => by have := z.2; omega), fnS_end hk d]
theorem nI_13 {t : Nat} (h1 : 1 ≤ t) (ht : t ≤ 3) : ¬ nI t < 1 ∧ ¬ 3 < nI t := by
  have : ∀ t, t < 4 → 1 ≤ t → ¬ nI t < 1 ∧ ¬ 3 < nI t := by decide
  exact this t (by omega) h1
theorem nI_01 {t : Nat} (ht : t ≤ 1) : ¬ nI t < 0 ∧ nI t ≤ 1 ∧ ¬ 1 < nI t := by
  have : ∀ t, t < 2 → ¬ nI t < 0 ∧ nI t ≤ 1 ∧ ¬ 1 < nI t := by decide
  exact this t (by omega)
def badF (x y : Int32) : Prop := x < 1 ∨ 3 < x ∨ y < 0 ∨ ¬ y ≤ 1
theorem s_fine_bad {x y : Int32} (hA0 : 91 ≤ nx) (c : badF x y) : Mk X d m_X11_fine [.ref 0, .int x, .int y] h nx sz (RE (-1) h) :=
  Mk.re fun Q hq => e_X11_fine (c_X11_fine_0 (fun _ => hq) (fun _ _ => hq) (fun _ _ _ => hq) (fun c1 c2 c3 c4 => absurd c (by rintro (z | z | z | z); exact c1 z; exact c2 z; exact c3 z; exact z c4)) (fun _ _ _ _ => hq))
theorem upto_lt {i k : Nat} {f g : Nat → Int32} (c : k < i) : upto i f g k = f k := if_pos c
theorem s_fine {m w : Nat} (hA0 : 91 ≤ nx) (hF : Fx h) (hp : InvP h n) (m1 : 1 ≤ m) (m3 : m ≤ 3) (hw : w ≤ 1) : Mk X (d + 3) m_X11_fine [.ref 0, .int (nI m), .int (nI w)] h nx sz (RI fun y g => y = fnV n m w ∧ Sc h g) := by
  obtain ⟨h2, h20, h0, -, -⟩ := id hp
  obtain ⟨a1, a2⟩ := nI_13 m1 m3
  obtain ⟨b1, b2, b3⟩ := nI_01 hw
  refine e_X11_fine (c_X11_fine_0 (fun z => absurd z a1) (fun _ z => absurd z a2) (fun _ _ z => absurd z b1) (fun _ _ _ _ => ?_) (fun _ _ _ z => absurd b2 z))
  have fin : ∀ g, Sc h g → (RI fun y g => y = fnV n m w ∧ Sc h g) (some (.int (fnV n m w))) g := fun g sg => ⟨_, rfl, rfl, sg⟩
  have key : ∀ g, Sc h g → VM X m_X11_fine (d + 3) nx sz (RI fun y g => y = fnV n m w ∧ Sc h g) 29 [some (.ref 0), some (.int (nI m)), some (.int (nI w)), some (.int (fnS n m 0).1), some (.int (fnS n m 0).2), some (.int (nI (0 + 1))), none] [] g := by
    refine down_ind (N := 1023) (P := fun k => ∀ g, Sc h g → VM X m_X11_fine (d + 3) nx sz (RI fun y g => y = fnV n m w ∧ Sc h g) 29 [some (.ref 0), some (.int (nI m)), some (.int (nI w)), some (.int (fnS n m k).1), some (.int (fnS n m k).2), some (.int (nI (k + 1))), none] [] g) (fun g sg => ?_) (fun k hk q g sg => ?_)
    · have ex : 1024 ≤ nI (1023 + 1) := by decide
      refine c_X11_fine_29 (d := d + 2) (P39 := fun _ _ => False) RO_rm hcs0 (fun _ c => ?_) (fun _ c c1 => ?_) (fun _ c c1 => ?_) (fun c => absurd ex c) (fun c => absurd ex c)
      · have e : fnV n m w = (fnS n m 1023).1 := if_pos (Or.inl ((nI_eq (b := 0) (by omega) (by decide)).mp c))
        rw [← e]
        exact fin g sg
      · have e : fnV n m w = (fnS n m 1023).2 := if_neg (by
          rintro (z | z)
          · exact c (by rw [z]; rfl)
          · exact c1 z)
        rw [← e]
        exact fin g sg
      · have e : fnV n m w = (fnS n m 1023).1 := if_pos (Or.inr c1)
        rw [← e]
        exact fin g sg
    · have hpg := hp.sc sg
      have hFg := hF.sc sg
      refine c_X11_fine_29 RO_rm hcs0 (fun c => ?_) (fun c => ?_) (fun c => ?_) (fun _ => s_bitCount (d := d + 2)) ?_
      · rw [show (1024 : Int32) = nI 1024 from rfl, le_nI (by omega) (by omega)] at c
        omega
      · rw [show (1024 : Int32) = nI 1024 from rfl, le_nI (by omega) (by omega)] at c
        omega
      · rw [show (1024 : Int32) = nI 1024 from rfl, le_nI (by omega) (by omega)] at c
        omega
      · rintro _ y g1 ⟨rfl, rfl⟩
        rw [bc_cnt]
        have cl := cnt_le (x := nI (k + 1)) (n := 32)
        have Dx : Decidable (okx n (nI (k + 1))) := Classical.propDecidable _
        have skip : ¬ (cnt (nI (k + 1)) 32 = m ∧ k + 1 < 2 ^ (min 10 (n / 2))) → fnS n m (k + 1) = fnS n m k := fun z => if_neg z
        refine c_X11_fine_42 hA0 RO_rm hcs0 (fun c => ?_) (fun _ => s_mayJump (d := d + 2) hA0 hpg.2.2.1 h20 Dx) ?_
        · have e := skip fun z => c (by rw [z.1])
          rw [e] at q
          rw [nI_1]
          exact q g sg
        · rintro c y g1 ⟨rfl, rfl⟩
          have c := nI_inj (by omega) (by omega) c
          refine c_X11_fine_52 hA0 hFg RO_rm hcs0 (fun c1 => ?_) (fun _ => s_tieRing (d := d + 1) hA0 hFg (Or.inr (Or.inr rfl)) hpg.2.2.1 h2 h20) ?_
          · have e := skip fun z => bt3 c1 ⟨k + 1, rfl, by omega, z.2⟩
            rw [e] at q
            rw [nI_1]
            exact q g sg
          · rintro c1 g1 rfl
            obtain ⟨j, j1, j2⟩ := bt4 c1
            have hp10 := (half_nI h20).2.2
            have := nI_inj (by omega) (by have := j2.2; omega) j1
            subst this
            have sg1 : Sc h (setA g 10 (upto n (rK n (nI (k + 1))) (g.1 10))) := sg.setA rfl
            have es : sumD (upto n (rK n (nI (k + 1))) (g.1 10)) n (full n) (full n) 0 = rsum n (k + 1) := sumD_cong fun i hi => upto_lt hi
            refine c_X11_fine_65 hA0 (hF.sc sg1) RO_rm hcs0 (s_sumOf (d := d) (a := 9) (i := 0) hA0 (hF.sc sg1) ((hp.sc sg1).np (Or.inr (Or.inr rfl))) (by omega)) ?_
            rintro y g2 ⟨rfl, rfl⟩
            rw [show (setA g (9 + 1) (upto n (rK n (nI (k + 1))) (g.1 (9 + 1)))).1 (9 + 1) = upto n (rK n (nI (k + 1))) (g.1 10) from setA_self, es]
            have yes : fnS n m (k + 1) = if (fnS n m k).1 = -1 ∨ nI (rsum n (k + 1)) < (fnS n m k).2 then (nI (k + 1), nI (rsum n (k + 1))) else fnS n m k := if_pos ⟨c, j2.2⟩
            refine c_X11_fine_73 (fun c2 => ?_) (fun c2 c3 => ?_) (fun c2 c3 => ?_)
            · rw [yes, if_pos (Or.inl c2)] at q
              rw [nI_1]
              exact q _ sg1
            · rw [yes, if_neg (by
                rintro (z | z)
                · exact c2 z
                · exact absurd c3 (Int32.not_le.mpr z))] at q
              rw [nI_1]
              exact q _ sg1
            · rw [yes, if_pos (Or.inr (Int32.not_le.mp c3))] at q
              rw [nI_1]
              exact q _ sg1
  exact key h Sc.rfl
theorem t_fine_bad {x y : Int32} (hA0 : 91 ≤ nx) (c : badF x y) : Mk X (d + 1) m_X12_fine [.ref 68, .int x, .int y] h nx sz (RE (-1) (setI h 68 0 0)) := by
  refine Mk.re fun Q hq => e_X12_fine (c_X12_fine_0 hA0 RO_rm hcs0 (t_isIn (d := d)) ?_)
  rintro y0 g ⟨rfl, rfl⟩
  refine c_X12_fine_11 RO_rm hcs0 (fun _ => hq) (fun _ => t_isIn (d := d)) ?_
  rintro c1 y0 g ⟨rfl, rfl⟩
  refine c_X12_fine_20 (fun c2 => ?_) (fun _ => hq)
  have c1 := bt4 c1
  have c2 := bt4 c2
  rcases c with c | c | c | c
  · exact absurd c c1.1
  · exact absurd c c1.2
  · exact absurd c c2.1
  · exact absurd (Int32.not_lt.mp c2.2) c
theorem t_fine {m w : Nat} (hA0 : 91 ≤ nx) (hF : Fx h) (hp : InvP h n) (hg : Gr n (h.1 73)) (m1 : 1 ≤ m) (m3 : m ≤ 3) (hw : w ≤ 1) : Mk X (d + 4) m_X12_fine [.ref 68, .int (nI m), .int (nI w)] h nx sz (RI fun y g => y = fnV n m w ∧ Sc h g) := by
  obtain ⟨h0, h2, h20⟩ := hp.mp
  obtain ⟨a1, a2⟩ := nI_13 m1 m3
  obtain ⟨b1, b2, b3⟩ := nI_01 hw
  refine e_X12_fine (c_X12_fine_0 hA0 RO_rm hcs0 (t_isIn (d := d + 3)) ?_)
  rintro y0 g ⟨rfl, rfl⟩
  refine c_X12_fine_11 RO_rm hcs0 (fun z => absurd z (ne0 ⟨a1, a2⟩)) (fun _ => t_isIn (d := d + 3)) ?_
  rintro _ y0 g ⟨rfl, rfl⟩
  refine c_X12_fine_20 (fun _ => ?_) (fun z => absurd z (ne0 ⟨b1, b3⟩))
  -- the heap in the loop
  have hh : ∃ G : (Nat → Int32) → AH, G = fun K => setA (setA (setI h 68 0 0) 84 (upto n (h.1 73) (h.1 84))) 73 K := ⟨_, rfl⟩
  obtain ⟨G, hG⟩ := hh
  have G0 : ∀ K, (G K).1 68 1 = nI n := fun K => by rw [hG]; exact h0
  have GF : ∀ K, Fx (G K) := fun K => by rw [hG]; exact hF
  have GP : ∀ K, MP (G K) n := fun K => ⟨G0 K, h2, h20⟩
  have G73 : ∀ K, (G K).1 73 = K := fun K => by rw [hG]; exact setA_self
  have G84 : ∀ K, (G K).1 84 = upto n (h.1 73) (h.1 84) := fun K => by rw [hG]; rfl
  have GA : ∀ K K', setA (G K) 73 K' = G K' := fun K K' => by rw [hG]; exact setA_A
  have Gh : Sc h (G (h.1 73)) := by
    rw [hG]
    refine ⟨fun a j hs => ?_, fun _ _ _ => rfl, id⟩
    by_cases e : a = 73
    · subst e; rfl
    · show (if a = 73 then _ else (setA (setI h 68 0 0) 84 (upto n (h.1 73) (h.1 84))).1 a) j = _
      rw [if_neg e]
      have : Sc h (setA (setI h 68 0 0) 84 (upto n (h.1 73) (h.1 84))) := (Sc.rfl.setI rfl).setA rfl
      exact this.1 a j hs
  have fin : (RI fun y g => y = fnV n m w ∧ Sc h g) (some (.int (fnV n m w))) (G (h.1 73)) := ⟨_, rfl, rfl, Gh⟩
  -- the rows laid back
  have back : ∀ K, (∀ p, n ≤ p → K p = h.1 73 p) → VM X m_X12_fine (d + 4) nx sz (RI fun y g => y = fnV n m w ∧ Sc h g) 130 [some (.ref 68), none, some (.int (nI w)), some (.int (fnS n m 1023).1), some (.int (fnS n m 1023).2), some (.int 0), none] [] (G K) := by
    intro K hK
    have key : VM X m_X12_fine (d + 4) nx sz (RI fun y g => y = fnV n m w ∧ Sc h g) 130 [some (.ref 68), none, some (.int (nI w)), some (.int (fnS n m 1023).1), some (.int (fnS n m 1023).2), some (.int (nI 0)), none] [] (G (upto 0 (h.1 73) K)) := by
      refine down_ind (N := n) (P := fun i => VM X m_X12_fine (d + 4) nx sz (RI fun y g => y = fnV n m w ∧ Sc h g) 130 [some (.ref 68), none, some (.int (nI w)), some (.int (fnS n m 1023).1), some (.int (fnS n m 1023).2), some (.int (nI i)), none] [] (G (upto i (h.1 73) K))) ?_ (fun i hi q => ?_)
      · have ex : (G (upto n (h.1 73) K)).1 68 1 ≤ nI n := by rw [G0]; exact Int32.le_refl _
        have eK : upto n (h.1 73) K = h.1 73 := funext fun p => by
          unfold upto
          split
          · rfl
          · exact hK p (by omega)
        rw [eK] at ex ⊢
        refine c_X12_fine_130 hA0 (GF _) (fun _ c c1 => ?_) (fun _ c c1 => ?_) (fun _ c => ?_) (fun c => absurd ex c) (fun c => absurd ex c) (fun c => absurd ex c)
        · have e : fnV n m w = (fnS n m 1023).2 := if_neg (by
            rintro (z | z)
            · exact c1 (by rw [z]; rfl)
            · exact c z)
          rw [← e]
          exact fin
        · have e : fnV n m w = (fnS n m 1023).1 := if_pos (Or.inl ((nI_eq (b := 0) (by omega) (by decide)).mp c1))
          rw [← e]
          exact fin
        · have e : fnV n m w = -1 := by unfold fnV; rw [if_pos (Or.inr c)]; exact c
          rw [← e]
          exact fin
      · refine c_X12_fine_130 hA0 (GF _) (fun c => ?_) (fun c => ?_) (fun c => ?_) (fun _ => vin (by omega) (by decide)) (fun _ => vin (by omega) (by decide)) (fun _ => ?_)
        · rw [G0, le_nI (by omega) (by omega)] at c
          omega
        · rw [G0, le_nI (by omega) (by omega)] at c
          omega
        · rw [G0, le_nI (by omega) (by omega)] at c
          omega
        · rw [nI_1, tN (by omega), G84, upto_lt hi]
          have e : setI (G (upto i (h.1 73) K)) 73 i (h.1 73 i) = G (upto (i + 1) (h.1 73) K) := by
            rw [← GA (upto i (h.1 73) K) (upto i (h.1 73) K), setI_upto, GA]
          rw [e]
          exact q
    rwa [upto_0] at key
  -- the loop over the jumps
  have hE := (half_nI h20).2.2
  have h1E : 1 ≤ 2 ^ (min 10 (n / 2)) := Nat.one_le_two_pow
  have loop : ∀ K, (∀ p, n ≤ p → K p = h.1 73 p) → VM X m_X12_fine (d + 4) nx sz (RI fun y g => y = fnV n m w ∧ Sc h g) 61 [some (.ref 68), some (.int (nI m)), some (.int (nI w)), some (.int (fnS n m 0).1), some (.int (fnS n m 0).2), some (.int (nI (0 + 1))), none] [] (G K) := by
    refine down_ind (N := 2 ^ (min 10 (n / 2)) - 1) (P := fun k => ∀ K, (∀ p, n ≤ p → K p = h.1 73 p) → VM X m_X12_fine (d + 4) nx sz (RI fun y g => y = fnV n m w ∧ Sc h g) 61 [some (.ref 68), some (.int (nI m)), some (.int (nI w)), some (.int (fnS n m k).1), some (.int (fnS n m k).2), some (.int (nI (k + 1))), none] [] (G K)) (fun K hK => ?_) (fun k hk q K hK => ?_)
    · have Dx : Decidable (okx n (nI (2 ^ (min 10 (n / 2)) - 1 + 1))) := Classical.propDecidable _
      refine c_X12_fine_61 hA0 RO_rm hcs0 (t_areJumps (d := d + 2) hA0 (GP K) Dx) ?_
      rintro y g ⟨rfl, rfl⟩
      have no : ¬ okx n (nI (2 ^ (min 10 (n / 2)) - 1 + 1)) := by
        rintro ⟨j, e, -, o⟩
        have := nI_inj (by omega) (by omega) e
        omega
      refine c_X12_fine_67 (P72 := fun _ _ => False) RO_rm hcs0 (fun _ => ?_) (fun c => absurd (is0 no) c) (fun c => absurd (is0 no) c)
      have e := fnS_end (n := n) (m := m) (k := 2 ^ (min 10 (n / 2)) - 1) (by omega) (1023 - (2 ^ (min 10 (n / 2)) - 1))
      rw [show 2 ^ (min 10 (n / 2)) - 1 + (1023 - (2 ^ (min 10 (n / 2)) - 1)) = 1023 by omega] at e
      rw [← e]
      exact back K hK
    · have Dx : Decidable (okx n (nI (k + 1))) := Classical.propDecidable _
      refine c_X12_fine_61 hA0 RO_rm hcs0 (t_areJumps (d := d + 2) hA0 (GP K) Dx) ?_
      rintro y g ⟨rfl, rfl⟩
      have ok : okj n (k + 1) := ⟨by omega, by omega⟩
      refine c_X12_fine_67 RO_rm hcs0 (fun c => absurd c (ne0 ⟨k + 1, rfl, ok⟩)) (fun _ => s_bitCount (d := d + 3)) ?_
      rintro _ y g ⟨rfl, rfl⟩
      rw [bc_cnt]
      have cl := cnt_le (x := nI (k + 1)) (n := 32)
      refine c_X12_fine_75 hA0 RO_rm hcs0 (fun _ => t_ringOf (d := d + 2) hA0 (GP K) ok) ?_ (fun c => ?_)
      · rintro c y g ⟨rfl, rfl⟩
        have c := nI_inj (by omega) (by omega) c
        refine c_X12_fine_89 hA0 RO_rm hcs0 (t_layRing (d := d + 2) hA0 (GF K) (GP K)) ?_
        rintro g rfl
        rw [G73, GA, rK_lay h2 h20 ok]
        have hK2 : ∀ p, n ≤ p → upto n (rK n (nI (k + 1))) K p = h.1 73 p := fun p hp => by
          unfold upto
          rw [if_neg (by omega)]
          exact hK p hp
        have hg2 : Gr n (upto n (rK n (nI (k + 1))) K) := rK_gr h2 h20 ok (fun p b hpn => by rw [hK p hpn]; exact hg.out p b hpn)
        refine c_X12_fine_92 hA0 RO_rm hcs0 (t_sumOf (d := d) (i := 0) hA0 (GF _) (GP _) (by omega)) ?_
        rintro y g ⟨rfl, rfl⟩
        have es : sm (fun b => dstN (upto n (rK n (nI (k + 1))) K) n (-1) 0 b) n = rsum n (k + 1) := by
          rw [sumD_all hg2.kb h20]
          exact sumD_cong fun i hi => upto_lt hi
        rw [G73, es]
        have yes : fnS n m (k + 1) = if (fnS n m k).1 = -1 ∨ nI (rsum n (k + 1)) < (fnS n m k).2 then (nI (k + 1), nI (rsum n (k + 1))) else fnS n m k := if_pos ⟨c, ok.2⟩
        refine c_X12_fine_97 (fun c2 => ?_) (fun c2 c3 => ?_) (fun c2 c3 => ?_)
        · rw [yes, if_pos (Or.inl c2)] at q
          rw [nI_1]
          exact q _ hK2
        · rw [yes, if_pos (Or.inr c3)] at q
          rw [nI_1]
          exact q _ hK2
        · rw [yes, if_neg (by
            rintro (z | z)
            · exact c2 z
            · exact c3 z)] at q
          rw [nI_1]
          exact q _ hK2
      · have e : fnS n m (k + 1) = fnS n m k := if_neg fun z => c (by rw [z.1])
        rw [e] at q
        rw [nI_1]
        exact q K hK
  -- what was, kept
  have key : VM X m_X12_fine (d + 4) nx sz (RI fun y g => y = fnV n m w ∧ Sc h g) 27 [some (.ref 68), some (.int (nI m)), some (.int (nI w)), some (.int (nI 0)), none, none, none] [] (setA (setI h 68 0 0) 84 (upto 0 (h.1 73) (h.1 84))) := by
    refine down_ind (N := n) (P := fun i => VM X m_X12_fine (d + 4) nx sz (RI fun y g => y = fnV n m w ∧ Sc h g) 27 [some (.ref 68), some (.int (nI m)), some (.int (nI w)), some (.int (nI i)), none, none, none] [] (setA (setI h 68 0 0) 84 (upto i (h.1 73) (h.1 84)))) ?_ (fun i hi q => ?_)
    · have ex : (setA (setI h 68 0 0) 84 (upto n (h.1 73) (h.1 84))).1 68 1 ≤ nI n := by
        show h.1 68 1 ≤ nI n
        rw [h0]; exact Int32.le_refl _
      refine c_X12_fine_27 hA0 hF (fun _ => ?_) (fun c => absurd ex c) (fun c => absurd ex c) (fun c => absurd ex c)
      have := loop (h.1 73) (fun _ _ => rfl)
      have e : G (h.1 73) = setA (setI h 68 0 0) 84 (upto n (h.1 73) (h.1 84)) := by
        rw [hG]
        exact setA_id (h := setA (setI h 68 0 0) 84 (upto n (h.1 73) (h.1 84))) (a := 73)
      rw [e] at this
      exact this
    · refine c_X12_fine_27 hA0 hF (fun c => ?_) (fun _ => vin (by omega) (by decide)) (fun _ => vin (by omega) (by decide)) (fun _ => ?_)
      · have c : h.1 68 1 ≤ nI i := c
        rw [h0, le_nI (by omega) (by omega)] at c
        omega
      · rw [nI_1, tN (by omega)]
        have e : setI (setA (setI h 68 0 0) 84 (upto i (h.1 73) (h.1 84))) 84 i (h.1 73 i) = setA (setI h 68 0 0) 84 (upto (i + 1) (h.1 73) (h.1 84)) := setI_upto
        rw [← e] at q
        exact q
  have e : setA (setI h 68 0 0) 84 (upto 0 (h.1 73) (h.1 84)) = setI h 68 0 0 := by rw [upto_0]; exact setA_id (h := setI h 68 0 0) (a := 84)
  rw [e] at key
  exact key
end OPS

/-! over -/
section OPS
variable {X : CX} {d nx sz : Nat} {h : AH} {n : Nat}
theorem dst_nI {K : Nat → Int32} {a i : Nat} (hn : n ≤ 20) (h : dstI K n (full n) a i ≠ -1) : ∃ j, j < n ∧ dst K n (full n) a i = some j ∧ dstI K n (full n) a i = nI j := by
  cases hd : dst K n (full n) a i with
  | none => exact absurd ((dstI_m1 hn).mpr hd) h
  | some j => exact ⟨j, (dst_iff.mp hd).1, rfl, by unfold dstI; rw [hd]⟩
theorem s_onSome {a b D : Nat} (hA0 : 91 ≤ nx) (hF : Fx h) (hP : InvP h n) (hg : Gr n (h.1 2)) (ha : a < n) (hb : b < n) (hD : dst (h.1 2) n (full n) a b = some D) (De : ∀ i, Decidable (onS (h.1 2) n a b D i)) : Mk X (d + 2) m_X5_onSome [.ref 13, .int (nI a), .int (nI b)] h nx sz (RI fun y g => y = bF (onS (h.1 2) n a b D) De n ∧ Sc h g) := by
  have hNP := hP.np net1
  have h20 := hP.2.1
  have D1 := (dst_iff.mp hD).1
  have eD : dstI (h.1 2) n (full n) a b = nI D := by unfold dstI; rw [hD]
  refine e_X5_onSome (c_X5_onSome_0 hA0 hF RO_rm hcs0 (s_measure (d := d) (r := 15) hA0 hF hNP ha rfl (by omega) (by decide)) ?_)
  rintro g ⟨g1, g2, g3⟩
  have eg2 : g.1 2 = h.1 2 := g2 2 (by decide)
  have hFg : Fx g := hF.of g1
  have hNPg : NP g 1 n := ⟨hNP.1, by rw [g2 1 (by decide)]; exact hNP.2.1, by rw [g2 1 (by decide)]; exact hNP.2.2.1, hNP.2.2.2⟩
  refine c_X5_onSome_12 hA0 hFg RO_rm hcs0 (s_measure (d := d) (r := 16) hA0 hFg hNPg hb rfl (by omega) (by decide)) ?_
  rintro k ⟨k1, k2, k3⟩
  refine c_X5_onSome_24 ?_
  have hFk : Fx k := hFg.of k1
  have h0 : k.1 1 0 = nI n := by rw [k2 1 (by decide), g2 1 (by decide)]; exact hNP.2.1
  have r15 : ∀ j, j < n → k.1 15 j = dstI (h.1 2) n (full n) a j := fun j hj => by rw [k2 15 (by decide)]; exact g3 j hj
  have r16 : ∀ j, j < n → k.1 16 j = dstI (h.1 2) n (full n) b j := fun j hj => by
    have := k3 j hj
    rw [show g.1 (1 + 1) = h.1 2 from eg2] at this
    exact this
  have sk : Sc h k := by
    refine ⟨fun c j hs => ?_, fun _ _ _ => by rw [k1, g1], fun t => by unfold TXT at *; rw [k1, g1]; exact t⟩
    have e1 : c ≠ 15 := fun e => by rw [e] at hs; cases hs
    have e2 : c ≠ 16 := fun e => by rw [e] at hs; cases hs
    rw [k2 c e2, g2 c e1]
  have hq : (RI fun y g => y = bF (onS (h.1 2) n a b D) De n ∧ Sc h g) (some (.int (bF (onS (h.1 2) n a b D) De n))) k := ⟨_, rfl, rfl, sk⟩
  refine down_ind (N := n) (P := fun i => VM X m_X5_onSome (d + 2) nx sz (RI fun y g => y = bF (onS (h.1 2) n a b D) De n ∧ Sc h g) 29 [some (.ref 13), some (.int (nI a)), some (.int (nI b)), some (.int (bF (onS (h.1 2) n a b D) De i)), some (.int (nI i)), none] [] k) ?_ (fun i hi q => ?_)
  · have ex : k.1 1 0 ≤ nI n := by rw [h0]; exact Int32.le_refl _
    exact c_X5_onSome_29 hA0 hFk (fun _ => hq) (fun c => absurd ex c) (fun c => absurd ex c) (fun c => absurd ex c) (fun c => absurd ex c) (fun c => absurd ex c) (fun c => absurd ex c) (fun c => absurd ex c) (fun c => absurd ex c) (fun c => absurd ex c)
  · have skip : ¬ onS (h.1 2) n a b D i → VM X m_X5_onSome (d + 2) nx sz (RI fun y g => y = bF (onS (h.1 2) n a b D) De n ∧ Sc h g) 29 [some (.ref 13), some (.int (nI a)), some (.int (nI b)), some (.int (bF (onS (h.1 2) n a b D) De i)), some (.int (nI i + 1)), none] [] k := fun z => by
      have e : bF (onS (h.1 2) n a b D) De (i + 1) = bF (onS (h.1 2) n a b D) De i := if_neg z
      rw [e] at q
      rw [nI_1]
      exact q
    refine c_X5_onSome_29 hA0 hFk (fun c => ?_) (fun _ c => skip fun z => z.1 (nI_inj (by omega) (by omega) c)) (fun _ _ c => skip fun z => z.2.1 (nI_inj (by omega) (by omega) c)) (fun _ _ _ => vin (by omega) (by decide)) (fun _ _ _ c => skip fun z => ?_) (fun _ _ _ _ => vin (by omega) (by decide)) (fun _ _ _ _ => vin (by omega) (by decide)) (fun _ _ _ _ => vin (by omega) (by decide)) (fun _ _ _ c c2 => skip fun z => ?_) (fun _ c3 c4 c c2 => ?_)
    · rw [h0, le_nI (by omega) (by omega)] at c
      omega
    · rw [tN (by omega), r15 i hi, dstI_m1 h20] at c
      obtain ⟨-, -, j, -, z1, -⟩ := z
      rw [c] at z1
      cases z1
    · obtain ⟨-, -, j, l, z1, z2, z3⟩ := z
      rw [tN (i := i) (by omega), tN (i := b) (by omega), r15 i hi, r16 i hi, r15 b hb, eD] at c2
      have e1 : dstI (h.1 2) n (full n) a i = nI j := by unfold dstI; rw [z1]
      have e2 : dstI (h.1 2) n (full n) b i = nI l := by unfold dstI; rw [z2]
      rw [e1, e2, nI_add, z3] at c2
      exact c2 rfl
    · rw [tN (by omega), r15 i hi] at c
      rw [tN (i := i) (by omega), tN (i := b) (by omega), r15 i hi, r16 i hi, r15 b hb, eD] at c2
      obtain ⟨j, j1, j2, j3⟩ := dst_nI h20 c
      obtain ⟨l, l1⟩ := conn hg h20 ha hb j2 hD
      have l2 : dstI (h.1 2) n (full n) b i = nI l := by unfold dstI; rw [l1]
      have l3 := (dst_iff.mp l1).1
      rw [j3, l2, nI_add] at c2
      have c2 := nI_inj (by omega) (by omega) c2
      have e : bF (onS (h.1 2) n a b D) De (i + 1) = bF (onS (h.1 2) n a b D) De i ||| bt i := if_pos ⟨fun z => c3 (by rw [z]), fun z => c4 (by rw [z]), j, l, j2, l1, c2⟩
      rw [e] at q
      rw [nI_1, bt_toInt32]
      exact q
/-- what over answers -/
def ovV (K : Nat → Int32) (n a b : Nat) (w : Int32) (D1 : ∀ D i, Decidable (onA K n a b D i)) (D2 : ∀ D i, Decidable (onS K n a b D i)) : Int32 := match dst K n (full n) a b with
  | none => -1
  | some D => if w = 0 then bF (onA K n a b D) (D1 D) n else if w = 1 then bF (onS K n a b D) (D2 D) n else -1
theorem s_over_bad {x y w : Int32} (hA0 : 91 ≤ nx) (hF : Fx h) (hp : InvP h n) (c : ¬ (hasI n x = 1 ∧ hasI n y = 1)) : Mk X (d + 3) m_X11_over [.ref 0, .int x, .int y, .int w] h nx sz (RE (-1) h) := by
  refine Mk.re fun Q hq => e_X11_over (c_X11_over_0 hA0 RO_rm hcs0 (s_far (d := d) hA0 hF hp) ?_)
  rintro y0 g ⟨rfl, rfl⟩
  have e : farI n (h.1 2) x y = -1 := if_neg c
  exact c_X11_over_6 (P37 := fun _ _ => False) (P22 := fun _ _ => False) hA0 hF RO_rm hcs0 (fun z => absurd e z) (fun z => absurd e z) (fun z => absurd e z) (fun z => absurd e z) (fun z => absurd e z) (fun _ => hq)
theorem s_over {a b : Nat} {w : Int32} (hA0 : 91 ≤ nx) (hF : Fx h) (hp : InvP h n) (hg : Gr n (h.1 2)) (ha : a < n) (hb : b < n) (E1 : ∀ D i, Decidable (onA (h.1 2) n a b D i)) (E2 : ∀ D i, Decidable (onS (h.1 2) n a b D i)) : Mk X (d + 3) m_X11_over [.ref 0, .int (nI a), .int (nI b), .int w] h nx sz (RI fun y g => y = ovV (h.1 2) n a b w E1 E2 ∧ Sc h g) := by
  have h20 := hp.2.1
  refine e_X11_over (c_X11_over_0 hA0 RO_rm hcs0 (s_far (d := d) hA0 hF hp) ?_)
  rintro y0 g ⟨rfl, rfl⟩
  have e : farI n (h.1 2) (nI a) (nI b) = dstI (h.1 2) n (full n) a b := by
    unfold farI
    rw [if_pos ⟨hasI_nI (by omega) ha, hasI_nI (by omega) hb⟩, tN (by omega), tN (by omega)]
  rw [e]
  cases hD : dst (h.1 2) n (full n) a b with
  | none =>
    have e1 : dstI (h.1 2) n (full n) a b = -1 := by unfold dstI; rw [hD]
    have e2 : ovV (h.1 2) n a b w E1 E2 = -1 := by unfold ovV; rw [hD]
    rw [e1, e2]
    exact c_X11_over_6 (d := d + 2) (P37 := fun _ _ => False) (P22 := fun _ _ => False) hA0 hF RO_rm hcs0 (fun z => absurd rfl z) (fun z => absurd rfl z) (fun z => absurd rfl z) (fun z => absurd rfl z) (fun z => absurd rfl z) (fun _ => ⟨_, rfl, rfl, Sc.rfl⟩)
  | some D =>
    have e1 : dstI (h.1 2) n (full n) a b = nI D := by unfold dstI; rw [hD]
    have e2 : ovV (h.1 2) n a b w E1 E2 = if w = 0 then bF (onA (h.1 2) n a b D) (E1 D) n else if w = 1 then bF (onS (h.1 2) n a b D) (E2 D) n else -1 := by unfold ovV; rw [hD]
    have hD1 := (dst_iff.mp hD).1
    have nm : ¬ nI D = -1 := by
      have : ∀ k, k < 20 → ¬ nI k = -1 := by decide
      exact this D (by omega)
    rw [e1, e2]
    refine c_X11_over_6 hA0 hF RO_rm hcs0 (fun _ c c2 => ?_) (fun _ _ _ => s_onSome (d := d) hA0 hF hp hg ha hb hD (E2 D)) ?_ (fun _ _ => s_onAll (d := d) hA0 hF hp ha hb hD (E1 D)) ?_ (fun z => absurd z nm)
    · rw [if_neg c, if_neg c2]
      exact ⟨_, rfl, rfl, Sc.rfl⟩
    · rintro _ c c2 y g ⟨rfl, sg⟩
      rw [if_neg c, if_pos c2]
      exact c_X11_over_40 ⟨_, rfl, rfl, sg⟩
    · rintro _ c y g ⟨rfl, rfl⟩
      rw [if_pos c]
      exact c_X11_over_25 ⟨_, rfl, rfl, Sc.rfl⟩
end OPS

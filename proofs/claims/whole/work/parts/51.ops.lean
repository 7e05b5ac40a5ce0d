/-! ways of the other side; over -/
section OPS
variable {X : CX} {d nx sz : Nat} {h : AH} {n : Nat}
theorem LayF.sc {g : AH} {K : Nat → Int32} {a : Nat} {f : Nat → Nat} (l : LayF h g n K a f) : Sc h g :=
  ⟨fun c j hs => by rw [l.2.1 c (fun e => by rw [e] at hs; cases hs)], fun k j _ => by rw [l.1], fun t => by unfold TXT at *; rw [l.1]; exact t⟩
theorem t_ways_bad {x y : Int32} (hA0 : 91 ≤ nx) (hp : InvP h n) (c : ¬ (hasI n x = 1 ∧ hasI n y = 1)) : Mk X (d + 1) m_X12_ways [.ref 68, .int x, .int y] h nx sz (RJE (-1) (setI h 68 0 0)) := by
  refine Mk.rj fun Q hq => e_X12_ways (c_X12_ways_0 hA0 RO_rm hcs0 (t_isOne (d := d) (h := setI h 68 0 0) hA0 hp.mp) ?_)
  rintro y0 g ⟨rfl, rfl⟩
  refine c_X12_ways_10 hA0 RO_rm hcs0 (fun _ => hq) (fun _ => t_isOne (d := d) (h := setI h 68 0 0) hA0 hp.mp) ?_
  rintro c1 y0 g ⟨rfl, rfl⟩
  have c1 := hasI_0.resolve_left c1
  have c2 : hasI n y = 0 := hasI_0.resolve_right (fun z => c ⟨c1, z⟩)
  exact c_X12_ways_18 (P27 := fun _ => False) hA0 RO_rm hcs0 (fun z => absurd c2 z) (fun z => absurd c2 z) (fun _ => hq)
theorem t_ways {a b : Nat} (hA0 : 91 ≤ nx) (hF : Fx h) (hp : InvP h n) (hg : Gr n (h.1 73)) (ha : a < n) (hb : b < n) : Mk X (d + 4) m_X12_ways [.ref 68, .int (nI a), .int (nI b)] h nx sz (RJ fun y g => y = wyV (h.1 73) n a b ∧ Sc h g) := by
  have h20 := hp.2.1
  have hF0 : Fx (setI h 68 0 0) := hF
  have hp0 : MP (setI h 68 0 0) n := hp.mp
  refine e_X12_ways (c_X12_ways_0 hA0 RO_rm hcs0 (t_isOne (d := d + 3) (h := setI h 68 0 0) hA0 hp0) ?_)
  rintro y0 g ⟨rfl, rfl⟩
  rw [hasI_nI (by omega) ha]
  refine c_X12_ways_10 hA0 RO_rm hcs0 (fun z => by cases z) (fun _ => t_isOne (d := d + 3) (h := setI h 68 0 0) hA0 hp0) ?_
  rintro _ y0 g ⟨rfl, rfl⟩
  rw [hasI_nI (by omega) hb]
  refine c_X12_ways_18 hA0 RO_rm hcs0 (fun _ => t_layFrom (d := d) hA0 hF0 hp0 hg ha) ?_ (fun z => by cases z)
  rintro _ g l
  have hFg : Fx g := hF0.l l.1
  have sg : Sc h g := (Sc.rfl.setI rfl).trans l.sc
  refine c_X12_ways_30 hA0 RO_rm hcs0 (t_farNow (d := d + 3) hA0 hFg (by omega) (by omega)) ?_
  rintro y g' ⟨rfl, rfl⟩
  rw [(l.2.2.2 b hb).1]
  refine c_X12_ways_36 hA0 RO_rm hcs0 (fun _ => t_rowsNow (d := d + 3) hA0 hFg (by omega) (by omega)) ?_ (fun c => ?_)
  · rintro c y g' ⟨rfl, rfl⟩
    refine c_X12_ways_52 ⟨_, rfl, ?_, sg⟩
    rw [(l.2.2.2 b hb).2]
    show nL (rwN (h.1 73) n a b) = wyV (h.1 73) n a b
    have c : ¬ dst (h.1 73) n (full n) a b = none := fun z => c ((dstI_m1 h20).mpr z)
    unfold rwN wyV
    cases hd : dst (h.1 73) n (full n) a b with
    | none => exact absurd hd c
    | some D => rfl
  · refine c_X12_ways_52 ⟨_, rfl, ?_, sg⟩
    have c : dst (h.1 73) n (full n) a b = none := (dstI_m1 h20).mp c
    unfold wyV
    rw [c]
-- over
def bF (P : Nat → Prop) (D : ∀ i, Decidable (P i)) : Nat → Int32
  | 0 => 0
  | i + 1 => if P i then bF P D i ||| bt i else bF P D i
theorem bF_cong {P P' : Nat → Prop} {D : ∀ i, Decidable (P i)} {D' : ∀ i, Decidable (P' i)} : ∀ {m : Nat}, (∀ i, i < m → (P i ↔ P' i)) → bF P D m = bF P' D' m
  | 0, _ => rfl
  | m + 1, h => by
    unfold bF
    rw [bF_cong (m := m) (fun i hi => h i (by omega))]
    by_cases c : P m
    · rw [if_pos c, if_pos ((h m (by omega)).mp c)]
    · rw [if_neg c, if_neg (fun z => c ((h m (by omega)).mpr z))]
/-- without i it isn't so near -/
def onA (K : Nat → Int32) (n a b D i : Nat) : Prop := i ≠ a ∧ i ≠ b ∧ dst K n (full n &&& (bt i ^^^ (-1))) a b ≠ some D
/-- i is on a shortest way -/
def onS (K : Nat → Int32) (n a b D i : Nat) : Prop := i ≠ a ∧ i ≠ b ∧ ∃ j k, dst K n (full n) a i = some j ∧ dst K n (full n) b i = some k ∧ j + k = D
theorem s_onAll {a b D : Nat} (hA0 : 91 ≤ nx) (hF : Fx h) (hP : InvP h n) (ha : a < n) (hb : b < n) (hD : dst (h.1 2) n (full n) a b = some D) (De : ∀ i, Decidable (onA (h.1 2) n a b D i)) : Mk X (d + 2) m_X5_onAll [.ref 13, .int (nI a), .int (nI b)] h nx sz (RE (bF (onA (h.1 2) n a b D) De n) h) := by
  obtain ⟨hn, h0, h1, h2, h20⟩ := hP.np net1
  have D1 := (dst_iff.mp hD).1
  have eD : dstI (h.1 2) n (full n) a b = nI D := by unfold dstI; rw [hD]
  refine Mk.re fun Q hq => e_X5_onAll (c_X5_onAll_0 hA0 hF RO_rm hcs0 (P13 := fun y g => y = nI D ∧ h = g) ?_ ?_)
  · rw [h1, ← eD]
    exact s_distance (d := d) hA0 hF (hP.np net1) ha hb
  rintro y g ⟨rfl, rfl⟩
  refine c_X5_onAll_16 ?_
  refine down_ind (N := n) (P := fun i => VM X m_X5_onAll (d + 2) nx sz Q 23 [some (.ref 13), some (.int (nI a)), some (.int (nI b)), some (.int (nI D)), some (.int (bF (onA (h.1 2) n a b D) De i)), some (.int (nI i))] [] h) ?_ (fun i hi q => ?_)
  · have ex : h.1 1 0 ≤ nI n := by rw [h0]; exact Int32.le_refl _
    exact c_X5_onAll_23 (d := d + 1) (P67 := fun _ _ => False) hA0 hF RO_rm hcs0 (fun _ => hq) (fun c => absurd ex c) (fun c => absurd ex c) (fun c => absurd ex c) (fun c => absurd ex c)
  · have skip : ¬ onA (h.1 2) n a b D i → VM X m_X5_onAll (d + 2) nx sz Q 23 [some (.ref 13), some (.int (nI a)), some (.int (nI b)), some (.int (nI D)), some (.int (bF (onA (h.1 2) n a b D) De i)), some (.int (nI i + 1))] [] h := fun z => by
      have e : bF (onA (h.1 2) n a b D) De (i + 1) = bF (onA (h.1 2) n a b D) De i := if_neg z
      rw [e] at q
      rw [nI_1]
      exact q
    refine c_X5_onAll_23 hA0 hF RO_rm hcs0 (P67 := fun y g => y = dstI (h.1 2) n (full n &&& (bt i ^^^ (-1))) a b ∧ h = g) (fun c => ?_) (fun _ c => skip fun z => z.1 (nI_inj (by omega) (by omega) c)) (fun _ _ c => skip fun z => z.2.1 (nI_inj (by omega) (by omega) c)) (fun _ _ _ => ?_) ?_
    · rw [h0, le_nI (by omega) (by omega)] at c
      omega
    · rw [h1, bt_toInt32]
      exact s_distance (d := d) hA0 hF (hP.np net1) ha hb
    · rintro _ c1 c2 y g ⟨rfl, rfl⟩
      refine c_X5_onAll_70 (fun c => skip fun z => z.2.2 ((dstI_iff h20 (by omega)).mp c)) (fun c => ?_)
      have e : bF (onA (h.1 2) n a b D) De (i + 1) = bF (onA (h.1 2) n a b D) De i ||| bt i := if_pos ⟨fun z => c1 (by rw [z]), fun z => c2 (by rw [z]), fun z => c ((dstI_iff h20 (by omega)).mpr z)⟩
      rw [e] at q
      rw [nI_1, bt_toInt32]
      exact q
theorem conn {K : Nat → Int32} (hg : Gr n K) (hn : n ≤ 20) {a b i j D : Nat} (ha : a < n) (hb : b < n) (h1 : dst K n (full n) a i = some j) (h2 : dst K n (full n) a b = some D) : ∃ k, dst K n (full n) b i = some k := by
  obtain ⟨-, m1, -⟩ := dst_iff.mp h1
  obtain ⟨-, m2, -⟩ := dst_iff.mp h2
  have w := W_trans (W_sym hg hn ha ((tb_fulln hn).mpr ha) m2) (by omega) m1
  have := (rc_iff hg.kb hn hb).mpr ⟨_, w⟩
  obtain ⟨k, -, k2⟩ := dst_in (K := K) (n := n) (m := full n) (a := b) (b := i) (k := n - 1) (by omega) this
  exact ⟨k, k2⟩
end OPS

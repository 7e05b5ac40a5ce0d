/-! load -/
section OPS
variable {X : CX} {d nx sz : Nat} {h : AH} {n : Nat}
theorem s_load_bad {x y : Int32} (hA0 : 91 ≤ nx) (hF : Fx h) (hp : InvP h n) (c : tieI n (h.1 2) x y = 0) : Mk X (d + 2) m_X11_load [.ref 0, .int x, .int y] h nx sz (RE (-1) h) := by
  refine Mk.re fun Q hq => e_X11_load (c_X11_load_0 hA0 hF RO_rm hcs0 (s_tied (d := d) hA0 hF (hp.np net1)) ?_)
  rintro y0 g ⟨rfl, rfl⟩
  exact c_X11_load_9 (P18 := fun _ _ => False) hA0 hF RO_rm hcs0 (fun _ => hq) (fun c1 => absurd c c1) (fun c1 => absurd c c1)
theorem s_load {a b : Nat} (hA0 : 91 ≤ nx) (hF : Fx h) (hp : InvP h n) (hg : Gr n (h.1 2)) (ht : tb (h.1 2 a) b = true) : Mk X (d + 3) m_X11_load [.ref 0, .int (nI a), .int (nI b)] h nx sz (RI fun y g => y = nI (ldN (h.1 2) (partK (h.1 2) a b) n / 2) ∧ Sc h g) := by
  obtain ⟨ha, hb, -, -⟩ := hg a b ht
  refine e_X11_load (c_X11_load_0 hA0 hF RO_rm hcs0 (s_tied (d := d + 1) hA0 hF (hp.np net1)) ?_)
  rintro y0 g ⟨rfl, rfl⟩
  rw [tieI_nI hp.2.1 ha hb, show h.1 (1 + 1) a = h.1 2 a from rfl, ht]
  refine c_X11_load_9 hA0 hF RO_rm hcs0 (fun z => by cases z) (fun _ => s_loadOf (d := d) hA0 hF hp hg ht) ?_
  rintro _ y g ⟨rfl, sg⟩
  exact c_X11_load_21 ⟨_, rfl, rfl, sg⟩
/-- all rows laid -/
def LayA (h g : AH) (n : Nat) (K : Nat → Int32) (m : Nat) : Prop := Sc h g ∧ ∀ a, a < m → ∀ b, b < n → g.1 78 (20 * a + b) = dstI K n (full n) a b ∧ g.2.1 79 (20 * a + b) = nL (rwN K n a b)
theorem t_layAll (hA0 : 91 ≤ nx) (hF : Fx h) (hp : InvP h n) (hg : Gr n (h.1 73)) : Mk X (d + 4) m_X12_layAll [.ref 68] h nx sz (RV fun g => LayA h g n (h.1 73) n) := by
  obtain ⟨h0, h2, h20⟩ := hp.mp
  refine e_X12_layAll (c_X12_layAll_0 ?_)
  have key : ∀ g, LayA h g n (h.1 73) 0 → VM X m_X12_layAll (d + 4) nx sz (RV fun g => LayA h g n (h.1 73) n) 2 [some (.ref 68), some (.int (nI 0))] [] g := by
    refine down_ind (N := n) (P := fun i => ∀ g, LayA h g n (h.1 73) i → VM X m_X12_layAll (d + 4) nx sz (RV fun g => LayA h g n (h.1 73) n) 2 [some (.ref 68), some (.int (nI i))] [] g) (fun g l => ?_) (fun i hi q g l => ?_)
    · have ex : g.1 68 1 ≤ nI n := by rw [(hp.sc l.1).mp.1]; exact Int32.le_refl _
      exact c_X12_layAll_2 (d := d + 3) (P12 := fun _ => False) hA0 RO_rm hcs0 (fun _ => ⟨rfl, l⟩) (fun c => absurd ex c) (fun c => absurd ex c)
    · have e73 : g.1 73 = h.1 73 := l.1.row (fun j => rfl)
      refine c_X12_layAll_2 hA0 RO_rm hcs0 (fun c => ?_) (fun _ => t_layFrom (d := d) hA0 (hF.sc l.1) (hp.sc l.1).mp (by rw [e73]; exact hg) hi) ?_
      · rw [(hp.sc l.1).mp.1, le_nI (by omega) (by omega)] at c
        omega
      rintro _ g1 l1
      rw [e73] at l1
      refine c_X12_layAll_15 ?_
      rw [nI_1]
      refine q g1 ⟨l.1.trans l1.sc, fun a ha b hb => ?_⟩
      by_cases e : a = i
      · rw [e]
        exact l1.2.2.2 b hb
      · obtain ⟨q1, q2⟩ := l1.2.2.1 (20 * a + b) (fun b' hb' => by omega)
        rw [q1, q2]
        exact l.2 a (by omega) b hb
  exact key h ⟨Sc.rfl, fun a ha => by omega⟩
/-- all shortest ways from u to v go from a to b -/
def gbP (K : Nat → Int32) (n u v a b : Nat) : Prop := ∃ x y, dst K n (full n) u a = some x ∧ dst K n (full n) b v = some y ∧ dst K n (full n) u v = some (x + 1 + y) ∧ Wn K n u x a * Wn K n b y v = Wn K n u (x + 1 + y) v
theorem t_goesBy {g : AH} {K : Nat → Int32} {u v a b D : Nat} (hA0 : 91 ≤ nx) (hF : Fx g) (h20 : n ≤ 20) (hg : Gr n K) (hd9 : ∀ b, b < n → cnt (K b) n ≤ 9) (hu : u < n) (hv : v < n) (ht : tb (K a) b = true) (hD : dst K n (full n) u v = some D) (la : ∀ a, a < n → ∀ b, b < n → g.1 78 (20 * a + b) = dstI K n (full n) a b ∧ g.2.1 79 (20 * a + b) = nL (rwN K n a b)) (De : Decidable (gbP K n u v a b)) : Mk X (d + 1) m_X12_goesBy [.ref 68, .int (nI u), .int (nI v), .int (nI a), .int (nI b)] g nx sz (RE (if gbP K n u v a b then 1 else 0) g) := by
  obtain ⟨ha, hb, hab, ht2⟩ := hg a b ht
  have D1 := (dst_iff.mp hD).1
  have eD : dstI K n (full n) u v = nI D := by unfold dstI; rw [hD]
  refine Mk.re fun Q hq => e_X12_goesBy (c_X12_goesBy_0 hA0 RO_rm hcs0 (t_farNow (d := d) hA0 hF (by omega) (by omega)) ?_)
  rintro y g' ⟨rfl, rfl⟩
  rw [(la u hu a ha).1]
  refine c_X12_goesBy_6 hA0 RO_rm hcs0 (fun c => ?_) (fun _ => t_farNow (d := d) hA0 hF (by omega) (by omega)) ?_
  · rwa [if_neg] at hq
    rintro ⟨x, y, z1, -⟩
    rw [(dstI_m1 h20).mp c] at z1
    cases z1
  rintro c y g' ⟨rfl, rfl⟩
  obtain ⟨x, x1, x2, x3⟩ := dst_nI h20 c
  -- b leads to v too
  obtain ⟨y, y2⟩ : ∃ y, dst K n (full n) b v = some y := by
    have w1 := (dst_iff.mp x2).2.1
    have w2 := (dst_iff.mp hD).2.1
    have fu := (tb_fulln h20).mpr hu
    have w3 := W_trans (W_cons hb h20 ht2 ((tb_fulln h20).mpr ha) (by omega) (W_sym hg h20 hu fu w1)) (by omega) w2
    have := (rc_iff hg.kb h20 hb).mpr ⟨_, w3⟩
    obtain ⟨k, -, k2⟩ := dst_in (K := K) (n := n) (m := full n) (a := b) (b := v) (k := n - 1) (by omega) this
    exact ⟨k, k2⟩
  have y1 := (dst_iff.mp y2).1
  have y3 : dstI K n (full n) b v = nI y := by unfold dstI; rw [y2]
  rw [(la u hu a ha).1, x3]
  refine c_X12_goesBy_16 hA0 RO_rm hcs0 (t_farNow (d := d) hA0 hF (by omega) (by omega)) ?_
  rintro y0 g' ⟨rfl, rfl⟩
  rw [(la b hb v hv).1, y3]
  refine c_X12_goesBy_25 hA0 RO_rm hcs0 (t_farNow (d := d) hA0 hF (by omega) (by omega)) ?_
  rintro y0 g' ⟨rfl, rfl⟩
  rw [(la u hu v hv).1, eD, nI_1, nI_add]
  refine c_X12_goesBy_32 hA0 RO_rm hcs0 (fun c1 => ?_) (fun _ => t_rowsNow (d := d) hA0 hF (by omega) (by omega)) ?_
  · have c1 : ¬ x + 1 + y = D := fun z => c1 (by rw [z])
    rwa [if_neg] at hq
    rintro ⟨x', y', z1, z2, z3, -⟩
    rw [x2] at z1
    rw [y2] at z2
    rw [hD] at z3
    cases z1
    cases z2
    cases z3
    exact c1 rfl
  rintro c1 y0 g' ⟨rfl, rfl⟩
  have c1 := nI_inj (by omega) (by omega) c1
  refine c_X12_goesBy_41 hA0 RO_rm hcs0 (t_rowsNow (d := d) hA0 hF (by omega) (by omega)) ?_
  rintro y0 g' ⟨rfl, rfl⟩
  refine c_X12_goesBy_48 hA0 RO_rm hcs0 (t_rowsNow (d := d) hA0 hF (by omega) (by omega)) ?_
  rintro y0 g' ⟨rfl, rfl⟩
  have hD' : dst K n (full n) u v = some (x + 1 + y) := by rw [hD, c1]
  have r1 : rwN K n u a = Wn K n u x a := by unfold rwN; rw [x2]
  have r2 : rwN K n b v = Wn K n b y v := by unfold rwN; rw [y2]
  have r3 : rwN K n u v = Wn K n u (x + 1 + y) v := by unfold rwN; rw [hD']
  have b1 : Wn K n u (x + 1 + y) v < 2 ^ 63 := Wn_63 h20 hd9 (by omega) hv
  have b2 : Wn K n u x a * Wn K n b y v ≤ Wn K n u (x + 1 + y) v := by
    have q1 : Wn K n u x a ≤ Wn K n u (x + 1) b := by
      have := sm_ge (f := fun c => if tb (K b) c = true then Wn K n u x c else 0) ha
      rw [if_pos ht2] at this
      exact this
    exact Nat.le_trans (Nat.mul_le_mul_right _ q1) (Wn_prod_le h20 hu hv hb)
  rw [(la u hu a ha).2, (la b hb v hv).2, (la u hu v hv).2, r1, r2, r3, nL_mul]
  refine c_X12_goesBy_55 (fun z => ?_) (fun z => ?_)
  · rwa [if_neg] at hq
    rintro ⟨x', y', z1, z2, z3, z4⟩
    rw [x2] at z1
    rw [y2] at z2
    cases z1
    cases z2
    exact z (lg_0.mpr (by rw [z4]))
  · rwa [if_pos ⟨x, y, x2, y2, hD', nL_inj (by omega) b1 (lg_0.mp z)⟩] at hq
end OPS

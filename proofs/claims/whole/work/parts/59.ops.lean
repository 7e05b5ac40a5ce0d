/-! load of the other side -/
section OPS
variable {X : CX} {d nx sz : Nat} {h : AH} {n : Nat}
theorem t_load_bad {x y : Int32} (hA0 : 91 ≤ nx) (hF : Fx h) (hp : InvP h n) (c : tieI n (h.1 73) x y = 0) : Mk X (d + 2) m_X12_load [.ref 68, .int x, .int y] h nx sz (RE (-1) (setI h 68 0 0)) := by
  have h20 := hp.2.1
  have hF0 : Fx (setI h 68 0 0) := hF
  refine Mk.re fun Q hq => e_X12_load (c_X12_load_0 hA0 RO_rm hcs0 (t_areTwo (d := d) hA0 (h := setI h 68 0 0) hp.mp) ?_)
  rintro y0 g ⟨rfl, rfl⟩
  by_cases c2 : twoI n x y = 0
  · exact c_X12_load_11 (P21 := fun _ _ => False) hA0 hF0 RO_rm hcs0 (fun _ => hq) (fun c1 => absurd c2 c1) (fun c1 => absurd c2 c1) (fun c1 => absurd c2 c1)
  obtain ⟨i, j, hi, hj, -, rfl, rfl⟩ := twoI_ne (by omega) c2
  refine c_X12_load_11 hA0 hF0 RO_rm hcs0 (fun c1 => absurd c1 c2) (fun _ => vin (by omega) (by decide)) (fun _ => t_has (d := d + 1) (by omega)) ?_
  rintro _ y0 g ⟨rfl, rfl⟩
  rw [tieI_nI h20 hi hj] at c
  rw [tN (by omega)]
  exact c_X12_load_24 (P30 := fun _ => False) hA0 RO_rm hcs0 (fun c1 => absurd c c1) (fun c1 => absurd c c1) (fun _ => hq)
theorem t_load38 {g : AH} {Q : Option Value → AH → Prop} {a b : Nat} {K : Nat → Int32} (hA0 : 91 ≤ nx) (hF : Fx g) (h0 : g.1 68 1 = nI n) (h2 : 2 ≤ n) (h20 : n ≤ 20) (hg : Gr n K) (hd9 : ∀ b, b < n → cnt (K b) n ≤ 9) (ht : tb (K a) b = true) (la : ∀ a, a < n → ∀ b, b < n → g.1 78 (20 * a + b) = dstI K n (full n) a b ∧ g.2.1 79 (20 * a + b) = nL (rwN K n a b)) (hq : Q (some (.int (nI (sm (fun u => sm (fun v => if dst K n (full n) u v = dst (partK K a b) n (full n) u v then 0 else 1) u) n)))) g) : VM X m_X12_load (d + 4) nx sz Q 38 [some (.ref 68), some (.int (nI a)), some (.int (nI b)), some (.int (nI 0)), some (.int (nI 0)), none] [] g := by
  obtain ⟨ha, hb, hab, ht2⟩ := hg a b ht
  refine down_ind (N := n) (P := fun u => VM X m_X12_load (d + 4) nx sz Q 38 [some (.ref 68), some (.int (nI a)), some (.int (nI b)), some (.int (nI (sm (fun u => sm (fun v => if dst K n (full n) u v = dst (partK K a b) n (full n) u v then 0 else 1) u) u))), some (.int (nI u)), none] [] g) ?_ (fun u hu q => ?_)
  · have ex : g.1 68 1 ≤ nI n := by rw [h0]; exact Int32.le_refl _
    exact c_X12_load_38 hA0 (fun _ => hq) (fun c => absurd ex c)
  · refine c_X12_load_38 hA0 (fun c => ?_) (fun _ => ?_)
    · rw [h0, le_nI (by omega) (by omega)] at c
      omega
    obtain ⟨s, hs⟩ : ∃ s, s = sm (fun u => sm (fun v => if dst K n (full n) u v = dst (partK K a b) n (full n) u v then 0 else 1) u) u := ⟨_, rfl⟩
    have e1 : sm (fun u => sm (fun v => if dst K n (full n) u v = dst (partK K a b) n (full n) u v then 0 else 1) u) (u + 1) = s + sm (fun v => if dst K n (full n) u v = dst (partK K a b) n (full n) u v then 0 else 1) u := by rw [hs]; rfl
    rw [e1] at q
    rw [← hs]
    have inner : VM X m_X12_load (d + 4) nx sz Q 50 [some (.ref 68), some (.int (nI a)), some (.int (nI b)), some (.int (nI (s + sm (fun v => if dst K n (full n) u v = dst (partK K a b) n (full n) u v then 0 else 1) 0))), some (.int (nI u)), some (.int (nI 0))] [] g := by
      refine down_ind (N := u) (P := fun v => VM X m_X12_load (d + 4) nx sz Q 50 [some (.ref 68), some (.int (nI a)), some (.int (nI b)), some (.int (nI (s + sm (fun v => if dst K n (full n) u v = dst (partK K a b) n (full n) u v then 0 else 1) v))), some (.int (nI u)), some (.int (nI v))] [] g) ?_ (fun v hv q2 => ?_)
      · refine c_X12_load_50 (d := d + 3) (P63 := fun _ _ => False) hA0 RO_rm hcs0 (fun _ => ?_) (fun c => absurd (Int32.le_refl _) c) (fun c => absurd (Int32.le_refl _) c)
        rw [nI_1]
        exact q
      · have hvn : v < n := by omega
        have e2 : s + sm (fun v => if dst K n (full n) u v = dst (partK K a b) n (full n) u v then 0 else 1) (v + 1) = s + sm (fun v => if dst K n (full n) u v = dst (partK K a b) n (full n) u v then 0 else 1) v + (if dst K n (full n) u v = dst (partK K a b) n (full n) u v then 0 else 1) := (Nat.add_assoc _ _ _).symm
        rw [e2] at q2
        obtain ⟨t, et⟩ : ∃ t, t = s + sm (fun v => if dst K n (full n) u v = dst (partK K a b) n (full n) u v then 0 else 1) v := ⟨_, rfl⟩
        rw [← et] at q2 ⊢
        have no : dst K n (full n) u v = dst (partK K a b) n (full n) u v → VM X m_X12_load (d + 4) nx sz Q 50 [some (.ref 68), some (.int (nI a)), some (.int (nI b)), some (.int (nI t + 0)), some (.int (nI u)), some (.int (nI v + 1))] [] g := fun z => by
          rw [if_pos z] at q2
          rw [show (0 : Int32) = nI 0 from rfl, nI_add, nI_1]
          exact q2
        have yes : ¬ dst K n (full n) u v = dst (partK K a b) n (full n) u v → VM X m_X12_load (d + 4) nx sz Q 50 [some (.ref 68), some (.int (nI a)), some (.int (nI b)), some (.int (nI t + 1)), some (.int (nI u)), some (.int (nI v + 1))] [] g := fun z => by
          rw [if_neg z] at q2
          rw [nI_1, nI_1]
          exact q2
        refine c_X12_load_50 hA0 RO_rm hcs0 (fun c => ?_) (fun _ => t_farNow (d := d + 3) hA0 hF (by omega) (by omega)) ?_
        · rw [le_nI (by omega) (by omega)] at c
          omega
        rintro _ y g' ⟨rfl, rfl⟩
        rw [(la u hu v hvn).1]
        cases hD : dst K n (full n) u v with
        | none =>
          rw [(dstI_m1 h20).mpr hD]
          exact c_X12_load_66 (d := d + 3) (P77 := fun _ _ => False) hA0 RO_rm hcs0 (fun _ => no (by rw [hD, dst_none_part h20 ha hb hab hD])) (fun z => absurd rfl z) (fun z => absurd rfl z)
        | some D =>
          have iff := ld_iff hg h20 ht hu hvn hD
          have Da : Decidable (gbP K n u v a b) := Classical.propDecidable _
          have Db : Decidable (gbP K n u v b a) := Classical.propDecidable _
          refine c_X12_load_66 hA0 RO_rm hcs0 (fun c => ?_) (fun _ => t_goesBy (d := d + 2) hA0 hF h20 hg hd9 hu hvn ht hD la Da) ?_
          · rw [dstI_m1 h20, hD] at c
            cases c
          rintro _ y g' ⟨rfl, rfl⟩
          refine c_X12_load_80 hA0 RO_rm hcs0 (fun c => yes (iff.mpr (Or.inl (bt4 c)))) (fun _ => t_goesBy (d := d + 2) hA0 hF h20 hg hd9 hu hvn ht2 hD la Db) ?_
          rintro c y g' ⟨rfl, rfl⟩
          refine c_X12_load_93 (fun c2 => no (Decidable.byContradiction fun z => ?_)) (fun c2 => yes (iff.mpr (Or.inr (bt4 c2))))
          rcases iff.mp z with q | q
          · exact bt3 c q
          · exact bt3 c2 q
    exact inner
end OPS

/-! load of the other side, joined -/
section OPS
variable {X : CX} {d nx sz : Nat} {h : AH} {n : Nat}
theorem t_load {a b : Nat} (hA0 : 91 ≤ nx) (hF : Fx h) (hp : InvP h n) (hg : Gr n (h.1 73)) (hd9 : ∀ b, b < n → cnt (h.1 73 b) n ≤ 9) (ht : tb (h.1 73 a) b = true) : Mk X (d + 5) m_X12_load [.ref 68, .int (nI a), .int (nI b)] h nx sz (RI fun y g => y = nI (ldN (h.1 73) (partK (h.1 73) a b) n / 2) ∧ Sc h g) := by
  obtain ⟨h0, h2, h20⟩ := hp.mp
  obtain ⟨ha, hb, hab, -⟩ := hg a b ht
  have s0 : Sc h (setI h 68 0 0) := Sc.rfl.setI rfl
  refine e_X12_load (c_X12_load_0 hA0 RO_rm hcs0 (t_areTwo (d := d + 3) hA0 (h := setI h 68 0 0) hp.mp) ?_)
  rintro y0 g ⟨rfl, rfl⟩
  rw [twoI_nI (by omega) ha hb hab]
  refine c_X12_load_11 hA0 (hF.sc s0) RO_rm hcs0 (fun z => by cases z) (fun _ => vin (by omega) (by decide)) (fun _ => t_has (d := d + 4) (by omega)) ?_
  rintro _ y0 g ⟨rfl, rfl⟩
  rw [tN (by omega), show (setI h 68 0 0).1 73 a = h.1 73 a from rfl, ht]
  refine c_X12_load_24 hA0 RO_rm hcs0 (fun _ => t_layAll (d := d) hA0 (hF.sc s0) (hp.sc s0) hg) ?_ (fun z => by cases z)
  rintro _ g l
  have l : LayA (setI h 68 0 0) g n (h.1 73) n := l
  have sg : Sc h g := s0.trans l.1
  refine c_X12_load_33 ?_
  refine t_load38 (d := d + 1) (K := h.1 73) hA0 (hF.sc sg) (hp.sc sg).mp.1 h2 h20 hg hd9 ht l.2 ⟨_, rfl, ?_, sg⟩
  rw [ld_half hg h20 ht]
end OPS

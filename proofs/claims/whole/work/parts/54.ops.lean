/-! over of the other side, joined -/
section OPS
variable {X : CX} {d nx sz : Nat} {h : AH} {n : Nat}
theorem t_over {a b : Nat} {w : Int32} (hA0 : 91 ≤ nx) (hF : Fx h) (hp : InvP h n) (hg : Gr n (h.1 73)) (hd9 : ∀ b, b < n → cnt (h.1 73 b) n ≤ 9) (ha : a < n) (hb : b < n) (E1 : ∀ D i, Decidable (onA (h.1 73) n a b D i)) (E2 : ∀ D i, Decidable (onS (h.1 73) n a b D i)) : Mk X (d + 4) m_X12_over [.ref 68, .int (nI a), .int (nI b), .int w] h nx sz (RI fun y g => y = ovV (h.1 73) n a b w E1 E2 ∧ Sc h g) := by
  obtain ⟨h0, h2, h20⟩ := hp.mp
  have hF0 : Fx (setI h 68 0 0) := hF
  have hp0 : MP (setI h 68 0 0) n := hp.mp
  have s0 : Sc h (setI h 68 0 0) := Sc.rfl.setI rfl
  refine e_X12_over (c_X12_over_0 hA0 RO_rm hcs0 (t_isOne (d := d + 3) (h := setI h 68 0 0) hA0 hp0) ?_)
  rintro y0 g ⟨rfl, rfl⟩
  rw [hasI_nI (by omega) ha]
  refine c_X12_over_10 hA0 RO_rm hcs0 (fun z => by cases z) (fun _ => t_isOne (d := d + 3) (h := setI h 68 0 0) hA0 hp0) ?_
  rintro _ y0 g ⟨rfl, rfl⟩
  rw [hasI_nI (by omega) hb]
  refine c_X12_over_18 RO_rm hcs0 (fun z => by cases z) (fun _ => t_isIn (d := d + 3)) ?_
  rintro _ y0 g ⟨rfl, rfl⟩
  have w01 : (¬ w < 0 ∧ ¬ 1 < w) ↔ (w = 0 ∨ w = 1) := by
    have e0 : (0 : Int32).toInt = 0 := by decide
    have e1 : (1 : Int32).toInt = 1 := by decide
    rw [Int32.lt_iff_toInt_lt, Int32.lt_iff_toInt_lt, ← Int32.toInt_inj, ← Int32.toInt_inj (x := w) (y := 1), e0, e1]
    omega
  have no : ¬ (w = 0 ∨ w = 1) → ovV (h.1 73) n a b w E1 E2 = -1 := fun z => by
    unfold ovV
    cases dst (h.1 73) n (full n) a b with
    | none => rfl
    | some D =>
      show (if w = 0 then _ else if w = 1 then _ else -1) = _
      rw [if_neg (fun e => z (Or.inl e)), if_neg (fun e => z (Or.inr e))]
  refine c_X12_over_27 hA0 RO_rm hcs0 (fun c => ⟨_, rfl, ?_, s0⟩) (fun _ => t_farOf (d := d + 1) hA0 hF0 hp0 ha hb) ?_
  · exact (no fun z => bt3 c (w01.mpr z)).symm
  rintro c1 y g ⟨rfl, rfl⟩
  have hw := w01.mp (bt4 c1)
  rw [show (setI h 68 0 0).1 73 = h.1 73 from rfl, dstI_mask (m := -1) hg.kb (fun j hj => tb_m1f (n := n) (by omega) hj)]
  refine c_X12_over_36 hA0 RO_rm hcs0 (fun _ => t_layFrom (d := d) hA0 hF0 hp0 hg ha) ?_ (fun c => ⟨_, rfl, ?_, s0⟩)
  · rintro c g1 l1
    have c : ¬ dst (h.1 73) n (full n) a b = none := fun z => c ((dstI_m1 h20).mpr z)
    obtain ⟨D, hD⟩ : ∃ D, dst (h.1 73) n (full n) a b = some D := by
      cases hd : dst (h.1 73) n (full n) a b with
      | none => exact absurd hd c
      | some D => exact ⟨D, rfl⟩
    have l1 : LayF (setI h 68 0 0) g1 n (h.1 73) a (rwN (h.1 73) n a) := l1
    have f1 : Fx g1 := hF0.l l1.1
    have e73 : g1.1 73 = h.1 73 := l1.2.1 73 (by decide)
    have e68 : g1.1 68 1 = nI n := by rw [l1.2.1 68 (by decide)]; exact h0
    refine c_X12_over_47 hA0 RO_rm hcs0 (t_layFrom (d := d) (n := n) hA0 f1 ⟨e68, h2, h20⟩ (by rw [e73]; exact hg) hb) ?_
    rintro g2 l2
    rw [e73] at l2
    refine c_X12_over_52 ?_
    have De : ∀ i, Decidable (ovP (h.1 73) n a b D w i) := fun i => Classical.propDecidable _
    refine t_over58 hw hA0 (f1.l l2.1) (by rw [l2.2.1 68 (by decide)]; exact e68) h2 h20 hg hd9 ha hb hD (fun i hi => ?_) (fun i hi => l2.2.2.2 i hi) De ⟨_, rfl, ?_, (s0.trans l1.sc).trans l2.sc⟩
    · by_cases e : a = b
      · rw [e]
        exact l2.2.2.2 i hi
      · obtain ⟨q1, q2⟩ := l2.2.2.1 (20 * a + i) (fun b' hb' => by omega)
        rw [q1, q2]
        exact l1.2.2.2 i hi
    · unfold ovV
      rw [hD]
      show bF (ovP (h.1 73) n a b D w) De n = if w = 0 then _ else if w = 1 then _ else -1
      have z01 : ¬ (0 : Int32) = 1 := by decide
      rcases hw with e | e
      · rw [if_pos e]
        refine bF_cong fun i _ => ⟨?_, fun z => Or.inl ⟨e, z⟩⟩
        rintro (⟨-, z⟩ | ⟨z, -⟩)
        · exact z
        · rw [e] at z
          exact absurd z z01
      · rw [if_neg (fun z => z01 (z.symm.trans e)), if_pos e]
        refine bF_cong fun i _ => ⟨?_, fun z => Or.inr ⟨e, z⟩⟩
        rintro (⟨z, -⟩ | ⟨-, z⟩)
        · exact absurd (z.symm.trans e) z01
        · exact z
  · have c : dst (h.1 73) n (full n) a b = none := (dstI_m1 h20).mp c
    unfold ovV
    rw [c]
end OPS

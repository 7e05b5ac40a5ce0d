/-! rule text: letters, and the class's small steps -/
section ST
variable {X : CX} {d nx sz : Nat} {h : AH}
theorem s_lengthS {i : Nat} (hi : i < 3) : Mk X (d + 1) m_J0_length_8abf5 [.ref (10000 + i)] h nx sz (RE (Int32.ofNat (strN.getD i 0)) h) := by
  refine e_J0_length_8abf5 (c_J0_length_8abf5_0 hi RO_rm hcs0 (s_coder (d := d) hi) ?_)
  rintro _ g ⟨rfl, rfl⟩
  refine c_J0_length_8abf5_9 ⟨_, rfl, ?_, rfl⟩
  have : ∀ i, i < 3 → (Int32.ofNat (strN.getD i 0)) >>> ((0 : Int32) &&& 31) = Int32.ofNat (strN.getD i 0) := by decide
  exact this i hi
def ltI (s : Nat) : Int32 := match ltr s with
  | none => -1
  | some k => nI k
theorem ltr_at : ∀ i, i < 9 → ∀ s, s < 256 → ((((strB.getD 0 []).getD i 0) = byt s ↔ ltrL.getD i 0 = s) ∧ (ltrL.getD i 0 = s → ltr s = some i)) := by decide +kernel
theorem ltr_no : ∀ s, s < 256 → (∀ i, i < 9 → ltrL.getD i 0 ≠ s) → ltr s = none := by decide +kernel
theorem chr_f : ∀ s, s < 256 → ((nI s).toUInt32 % 65536).toInt32 = nI s := by decide +kernel
theorem s_indexOf {s : Nat} (hs : s ≤ 255) : Mk X (d + 3) m_J0_indexOf_0f7a4 [.ref (10000 + 0), .int (nI s)] h nx sz (RE (ltI s) h) := by
  refine Mk.re fun Q hq => e_J0_indexOf_0f7a4 ?_
  refine c_J0_indexOf_0f7a4_0 RO_rm hcs0 (by decide) (P3 := fun y g => y = ltI s ∧ h = g) (e_J0_indexOf_7cf53 ?_) ?_
  · refine c_J0_indexOf_7cf53_0 RO_rm hcs0 (by decide) (s_isLatin1 (d := d + 1) (i := 0) (by decide)) ?_
    rintro _ h ⟨rfl, rfl⟩
    refine c_J0_indexOf_7cf53_4 (P30 := fun _ _ => False) (by decide) RO_rm hcs0 (fun z => by cases z) (fun z => by cases z) (fun _ => s_lengthS (d := d) (i := 0) (by decide)) ?_
    rintro _ _ g ⟨rfl, rfl⟩
    refine c_J0_indexOf_7cf53_17 RO_rm hcs0 (P17 := fun y g' => y = ltI s ∧ h = g') (e_J1_indexOf_4cfef ?_) ?_
    · refine c_J1_indexOf_4cfef_0 RO_rm hcs0 (P1 := fun y g => y = 1 ∧ h = g) (e_J1_canEncode_9a6ad ?_) ?_
      · have h1 : ¬ nI s < 0 := nI_pos (by omega)
        have h2 : ¬ (255 : Int32) < nI s := by
          rw [Int32.not_lt]
          exact (le_nI (b := 255) (by omega) (by decide)).mpr hs
        exact c_J1_canEncode_9a6ad_0 (fun z => absurd z h1) (fun _ z => absurd z h2) (fun _ _ => ⟨_, rfl, rfl, rfl⟩)
      rintro _ g ⟨rfl, rfl⟩
      have e0 : (if (0 : Int32) < 0 then (0 : Int32) else 0) = nI 0 := rfl
      have e9 : (if Int32.ofNat (strN.getD 0 0) < Int32.ofNat (strN.getD 0 0) then Int32.ofNat (strN.getD 0 0) else Int32.ofNat (strN.getD 0 0)) = nI 9 := by decide
      have lt : nI 0 < nI 9 := by decide
      refine c_J1_indexOf_4cfef_4 RO_rm hcs0 (by decide) (P33 := fun y g => y = ltI s ∧ h = g) (fun _ _ => ?_) ?_ (fun _ z => absurd lt z) (fun z => by cases z)
      · rw [e0, e9]
        refine e_J1_indexOfChar_4cfef (c_J1_indexOfChar_4cfef_0 ?_)
        have key : ∀ (k i : Nat), i + k = 9 → (∀ j, j < i → ltrL.getD j 0 ≠ s) → VM X m_J1_indexOfChar_4cfef d nx sz (RI fun y g => y = ltI s ∧ h = g) 7 [some (.ref (11000 + 0)), none, none, some (.int (nI 9)), some (.int (nI s).toInt8.toInt32), some (.int (nI i))] [] h := by
          intro k
          induction k with
          | zero =>
            intro i hi hj
            have hi : i = 9 := by omega
            subst hi
            have yes : nI 9 ≤ nI 9 := Int32.le_refl _
            refine c_J1_indexOfChar_4cfef_7 (by decide) (fun _ => ⟨_, rfl, ?_, rfl⟩) (fun z => absurd yes z) (fun z => absurd yes z) (fun z => absurd yes z)
            unfold ltI
            rw [ltr_no s (by omega) hj]
          | succ k ih =>
            intro i hi hj
            have no : ¬ nI 9 ≤ nI i := fun z => by
              rw [le_nI (by decide) (by omega)] at z
              omega
            obtain ⟨a1, a2⟩ := ltr_at i (by omega) s (by omega)
            refine c_J1_indexOfChar_4cfef_7 (by decide) (fun z => absurd z no) (fun _ => vin (N := 9) (by omega) (by decide)) (fun _ z => ?_) (fun _ z => ⟨_, rfl, ?_, rfl⟩)
            · rw [tN (by omega)] at z
              rw [nI_1]
              refine ih (i + 1) (by omega) (fun j hj' e => ?_)
              by_cases q : j = i
              · rw [q] at e
                exact z (a1.mpr e)
              · exact hj j (by omega) e
            · rw [tN (by omega)] at z
              unfold ltI
              rw [a2 (a1.mp z)]
        exact key 9 0 rfl (fun j hj => by omega)
      rintro _ _ _ g ⟨rfl, rfl⟩
      exact c_J1_indexOf_4cfef_36 ⟨_, rfl, rfl, rfl⟩
    rintro _ g ⟨rfl, rfl⟩
    exact c_J0_indexOf_7cf53_20 ⟨_, rfl, rfl, rfl⟩
  rintro _ g ⟨rfl, rfl⟩
  exact c_J0_indexOf_0f7a4_6 hq
theorem chr_at : ∀ r, r < 3 → ∀ i, i < 11 → narrow .char (.int ((((strB.getD r []).getD i 0 &&& 255 : Int32).toUInt32 % 65536).toInt32)) = .int ((((strB.getD r []).getD i 0 &&& 255 : Int32).toUInt32 % 65536).toInt32) ∧ (((strB.getD r []).getD i 0 &&& 255 : Int32).toUInt32 % 65536).toInt32 = (strB.getD r []).getD i 0 := by decide +kernel
theorem s_charAt {r i : Nat} (hr : r < 3) (hi : i < strN.getD r 0) : Mk X (d + 3) m_J0_charAt_5068e [.ref (10000 + r), .int (nI i)] h nx sz (RE ((strB.getD r []).getD i 0) h) := by
  have h11 : strN.getD r 0 ≤ 11 := by
    have : ∀ r, r < 3 → strN.getD r 0 ≤ 11 := by decide
    exact this r hr
  obtain ⟨e1, e2⟩ := chr_at r hr i (by omega)
  refine Mk.re fun Q hq => e_J0_charAt_5068e (c_J0_charAt_5068e_0 RO_rm hcs0 hr (s_isLatin1 (d := d + 2) hr) ?_)
  rintro _ g ⟨rfl, rfl⟩
  refine c_J0_charAt_5068e_4 hr RO_rm hcs0 (fun z => by cases z) (P12 := fun y g' => y = (strB.getD r []).getD i 0 ∧ g = g') (fun _ => e_J1_charAt_3b067 ?_) ?_
  · refine c_J1_charAt_3b067_0 hr RO_rm hcs0 (s_J0_checkIndex (d := d) (nI_pos (by omega)) (Int32.not_le.mp (fun z => by
      have z : nI (strN.getD r 0) ≤ nI i := z
      rw [le_nI (by omega) (by omega)] at z
      omega))) ?_
    rintro g' rfl
    refine c_J1_charAt_3b067_6 hr (vin hi (by omega)) ?_ ?_
    · rw [tN (by omega), e2]
      exact ⟨_, rfl, rfl, rfl⟩
    · rw [tN (by omega)]
      exact e1
  rintro _ _ g ⟨rfl, rfl⟩
  refine c_J0_charAt_5068e_15 hq ?_
  rw [← e2]
  exact e1
end ST

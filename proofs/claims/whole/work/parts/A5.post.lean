/-! post: the other side's letters -/
section OPS
variable {X : CX} {d D nx sz : Nat} {h h0 : AH} {p : Nat → Int32} {n : Nat} {c : List Nat}
def F72 (h g : AH) : Prop := g.2 = h.2 ∧ ∀ c j, c ≠ 72 → g.1 c j = h.1 c j
theorem F72.set {g : AH} {j : Nat} {x : Int32} (f : F72 h g) : F72 h (setI g 72 j x) := ⟨f.1, fun c k hc => (setI_b hc).trans (f.2 c k hc)⟩
theorem F72.sc {g : AH} (f : F72 h g) : Sc h g := ⟨fun a j hj => f.2 a j (fun z => by subst z; cases hj), fun k j _ => by rw [f.1], fun z => by unfold TXT; rw [f.1]; exact z⟩
theorem ltr_s : ∀ k, k < 9 → (strB.getD 0 []).getD k 0 = nI (ltrL.getD k 0) ∧ ltrL.getD k 0 < 128 := by decide
theorem ltr_inj : ∀ k, k < 9 → ∀ j, j < 9 → ltrL.getD k 0 = ltrL.getD j 0 → k = j := by decide
theorem t_clear (hA0 : 91 ≤ nx) (hF : Fx h) : Mk X (d + 4) m_X12_clearLetters [.ref 68] h nx sz (RV fun g => F72 h g ∧ Let g (fun _ => 0)) := by
  refine e_X12_clearLetters (c_X12_clearLetters_0 ?_)
  obtain ⟨Q, hQ⟩ : ∃ Q, Q = (RV fun g => F72 h g ∧ Let g (fun _ => 0)) := ⟨_, rfl⟩
  rw [← hQ]
  have key : ∀ (k i : Nat) (g : AH), i + k = 9 → F72 h g → (∀ j, j < i → g.1 72 (ltrL.getD j 0) = 0) → VM X m_X12_clearLetters (d + 4) nx sz Q 2 [some (.ref 68), some (.int (nI i))] [] g := by
    intro k
    induction k with
    | zero =>
      intro i g hi f z
      have hi : i = 9 := by omega
      subst hi
      refine c_X12_clearLetters_2 RO_rm hcs0 (s_lengthS (d := d + 2) (i := 0) (by decide)) ?_
      rintro _ g ⟨rfl, rfl⟩
      have yes : Int32.ofNat (strN.getD 0 0) ≤ nI 9 := by decide
      refine c_X12_clearLetters_8 (d := d + 3) (P18 := fun _ _ => False) hA0 (hF.of f.1) RO_rm hcs0 (fun _ => ?_) (fun z => absurd yes z) (fun z => absurd yes z)
      rw [hQ]
      exact ⟨rfl, f, z⟩
    | succ k ih =>
      intro i g hi f z
      refine c_X12_clearLetters_2 RO_rm hcs0 (s_lengthS (d := d + 2) (i := 0) (by decide)) ?_
      rintro _ g ⟨rfl, rfl⟩
      have no : ¬ Int32.ofNat (strN.getD 0 0) ≤ nI i := fun z => by
        have z : nI 9 ≤ nI i := z
        rw [le_nI (by decide) (by omega)] at z
        omega
      refine c_X12_clearLetters_8 hA0 (hF.of f.1) RO_rm hcs0 (fun z => absurd z no) (fun _ => s_charAt (d := d) (r := 0) (i := i) (by decide) (by show i < 9; omega)) ?_
      rintro _ _ g ⟨rfl, rfl⟩
      obtain ⟨l1, l2⟩ := ltr_s i (by omega)
      rw [l1]
      refine c_X12_clearLetters_21 hA0 (vin l2 (by decide)) ?_
      rw [nI_1, tN (by omega)]
      refine ih (i + 1) _ (by omega) f.set (fun j hj => ?_)
      show (if 72 = 72 ∧ ltrL.getD j 0 = ltrL.getD i 0 then 0 else g.1 72 (ltrL.getD j 0)) = 0
      by_cases q : ltrL.getD j 0 = ltrL.getD i 0
      · exact if_pos ⟨rfl, q⟩
      · rw [if_neg (fun w => q w.2)]
        exact z j (by
          have : j ≠ i := fun w => q (by rw [w])
          omega)
  exact key 9 0 h rfl ⟨rfl, fun _ _ _ => rfl⟩ (fun j hj => by omega)
theorem bit_if {x : Int32} {t : Nat} (ht : t < 32) : (x >>> (nI t &&& 31)) &&& 1 = if tb x t = true then 1 else 0 := by
  by_cases q : tb x t = true
  · rw [if_pos q]
    exact (shr_eq1 ht).mpr q
  · rw [if_neg q]
    refine (shr_eq0 ht).mpr ?_
    cases e : tb x t
    · rfl
    · exact absurd e q
/-- letters told on the other side -/
theorem let_told {g : AH} {K V : Nat → Int32} {hd i t : Nat} (ht : t < 32) (L : Let g (fun _ => 0)) : Let (setI (setI (setI (setI (setI (setI g 72 116 (if i = t then 1 else 0)) 72 102 (if tb (K i) t = true then 1 else 0)) 72 107 (bc (K i))) 72 99 (bc (K i &&& K hd))) 72 98 (V i)) 72 97 (abI i t)) (ltP K V hd i t) := by
  intro k hk
  have : k = 0 ∨ k = 1 ∨ k = 2 ∨ k = 3 ∨ k = 4 ∨ k = 5 ∨ k = 6 ∨ k = 7 ∨ k = 8 := by omega
  rcases this with rfl | rfl | rfl | rfl | rfl | rfl | rfl | rfl | rfl
  · rfl
  · exact (bit_if ht).symm
  · rfl
  · show bc (K i &&& K hd) = bc (K hd &&& K i)
    rw [Int32.and_comm]
  · rfl
  · rfl
  · exact L 6 (by decide)
  · exact L 7 (by decide)
  · exact L 8 (by decide)
end OPS

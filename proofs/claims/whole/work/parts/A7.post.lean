/-! post: the other side carries -/
section OPS
variable {X : CX} {d D nx sz : Nat} {h h0 : AH} {p : Nat → Int32} {n ln : Nat} {T : Nat → Nat} {c : List Nat}
theorem gy86 {a m j : Nat} {x y z : Int32} : (setI (setI (setI h 68 41 x) 86 m y) 85 a z).1 86 j = if j = m then y else h.1 86 j := by
  rw [setI_b (by decide)]
  show (if 86 = 86 ∧ j = m then y else (setI h 68 41 x).1 86 j) = _
  by_cases q : j = m
  · rw [if_pos ⟨rfl, q⟩, if_pos q]
  · rw [if_neg (fun w => q w.2), if_neg q, setI_b (by decide)]
theorem gy85 {a m j : Nat} {x y z : Int32} : (setI (setI (setI h 68 41 x) 86 m y) 85 a z).1 85 j = if j = a then z else h.1 85 j := by
  show (if 85 = 85 ∧ j = a then z else (setI (setI h 68 41 x) 86 m y).1 85 j) = _
  by_cases q : j = a
  · rw [if_pos ⟨rfl, q⟩, if_pos q]
  · rw [if_neg (fun w => q w.2), if_neg q, setI_b (by decide), setI_b (by decide)]
theorem gySc {g : AH} {a m : Nat} {x y z : Int32} (s : Sc h g) : Sc h (setI (setI (setI g 68 41 x) 86 m y) 85 a z) := ((s.setI (by decide)).setI (scrA_all (by decide) _)).setI (scrA_all (by decide) _)
theorem t_goes {r fr t : Nat} (hA0 : 91 ≤ nx) (hF : Fx h) (hp : MP h n) (h1 : fr < n) (ht : t < n) (hne : fr ≠ t) (hr : r < 6) (R : RulA h r T ln c) : Mk X (D + 34) m_X12_goes [.ref 68, .int (nI r), .int (nI fr), .int (nI t)] h nx sz (RI fun y g => Sc h g ∧ y = (if (goL c (h.1 73) n t 60 fr (fun k => if k = fr then 1 else 0)).1 = true then 1 else 0) ∧ g.1 68 41 = nI (goL c (h.1 73) n t 60 fr (fun k => if k = fr then 1 else 0)).2.length ∧ g.1 86 0 = nI fr ∧ ∀ j, j < (goL c (h.1 73) n t 60 fr (fun k => if k = fr then 1 else 0)).2.length → g.1 86 (j + 1) = nI ((goL c (h.1 73) n t 60 fr (fun k => if k = fr then 1 else 0)).2.getD j 0)) := by
  obtain ⟨n0, n2, n20⟩ := id hp
  refine e_X12_goes (c_X12_goes_0 ?_)
  obtain ⟨Q, hQ⟩ : ∃ Q, Q = (RI fun y g => Sc h g ∧ y = (if (goL c (h.1 73) n t 60 fr (fun k => if k = fr then 1 else 0)).1 = true then 1 else 0) ∧ g.1 68 41 = nI (goL c (h.1 73) n t 60 fr (fun k => if k = fr then 1 else 0)).2.length ∧ g.1 86 0 = nI fr ∧ ∀ j, j < (goL c (h.1 73) n t 60 fr (fun k => if k = fr then 1 else 0)).2.length → g.1 86 (j + 1) = nI ((goL c (h.1 73) n t 60 fr (fun k => if k = fr then 1 else 0)).2.getD j 0)) := ⟨_, rfl⟩
  rw [← hQ]
  have key : ∀ (f i hd : Nat) (V : Nat → Int32) (g : AH), i + f = 60 → hd < n → hd ≠ t → Sc h g → (∀ k, k < n → g.1 85 k = V k) → g.1 86 i = nI hd → g.1 68 41 = nI i → (∀ y g', Sc h g' → y = (if (goL c (h.1 73) n t f hd V).1 = true then 1 else 0) → g'.1 68 41 = nI (i + (goL c (h.1 73) n t f hd V).2.length) → (∀ j, j ≤ i → g'.1 86 j = g.1 86 j) → (∀ j, j < (goL c (h.1 73) n t f hd V).2.length → g'.1 86 (i + 1 + j) = nI ((goL c (h.1 73) n t f hd V).2.getD j 0)) → Q (some (.int y)) g') → VM X m_X12_goes (D + 34) nx sz Q 45 [some (.ref 68), some (.int (nI r)), none, some (.int (nI t)), none] [] g := by
    sorry
  have clr := down_ind (N := n) (P := fun i => ∀ g, g.2 = h.2 → (∀ b j, b ≠ 85 → g.1 b j = h.1 b j) → (∀ j, j < i → g.1 85 j = 0) → VM X m_X12_goes (D + 34) nx sz Q 3 [some (.ref 68), some (.int (nI r)), some (.int (nI fr)), some (.int (nI t)), some (.int (nI i))] [] g) ?_ (fun i hi q => ?_)
  · exact clr h rfl (fun _ _ _ => rfl) (fun j hj => by omega)
  · sorry
  · sorry
end OPS

/-! post: the class's heir -/
section PO
/-- a row of letters told for a gift -/
def abI (i t : Nat) : Int32 := if 0 ≤ nI i - nI t then nI i - nI t else 0 - (nI i - nI t)
def ltf (K V : Nat → Int32) (hd i t : Nat) (old : Nat → Int32) : Nat → Int32 := fun k => if k = 5 then abI i t else if k = 4 then V i else if k = 3 then bc (K hd &&& K i) else if k = 2 then bc (K i) else if k = 1 then (K i >>> (nI t &&& 31)) &&& 1 else if k = 0 then (if i = t then 1 else 0) else old k
/-- the best of those whom hd knows -/
def heF (K : Nat → Int32) (hd : Nat) (w : Nat → Int32) : Nat → Option (Nat × Int32)
  | 0 => none
  | k + 1 => if tb (K hd) k = true then (match heF K hd w k with
      | none => some (k, w k)
      | some (b, m) => if w k ≤ m then some (b, m) else some (k, w k)) else heF K hd w k
def heB : Option (Nat × Int32) → Int32
  | none => -1
  | some p => nI p.1
def heM : Option (Nat × Int32) → Int32
  | none => 0
  | some p => p.2
theorem heF_lt {K : Nat → Int32} {hd : Nat} {w : Nat → Int32} : ∀ (k : Nat) (p : Nat × Int32), heF K hd w k = some p → p.1 < k ∧ tb (K hd) p.1 = true
  | 0, p, e => by cases e
  | k + 1, p, e => by
    unfold heF at e
    by_cases q : tb (K hd) k = true
    · rw [if_pos q] at e
      cases e2 : heF K hd w k with
      | none =>
        rw [e2] at e
        cases e
        exact ⟨Nat.lt_succ_self _, q⟩
      | some r =>
        have ih := heF_lt k r e2
        rw [e2] at e
        obtain ⟨b, m⟩ := r
        have e : (if w k ≤ m then some (b, m) else some (k, w k)) = some p := e
        split at e
        · cases e
          exact ⟨Nat.lt_succ_of_lt ih.1, ih.2⟩
        · cases e
          exact ⟨Nat.lt_succ_self _, q⟩
    · rw [if_neg q] at e
      have ih := heF_lt k p e
      exact ⟨Nat.lt_succ_of_lt ih.1, ih.2⟩
end PO
section OPS
variable {X : CX} {d D nx sz : Nat} {h h0 : AH} {p : Nat → Int32} {n : Nat} {c : List Nat}
theorem s_tell {hd i t : Nat} (hA0 : 91 ≤ nx) (hF : Fx h) (h1 : hd < 20) (hi : i < 20) (ht : t < 20) : Mk X (d + 2) m_X6_tellLetters [.ref 63, .int (nI hd), .int (nI i), .int (nI t)] h nx sz (RVE (setA h 39 (ltf (h.1 2) (h.1 64) hd i t (h.1 39)))) := by
  have ti : (nI i).toNatClampNeg = i := tN (by omega)
  have e : nI i = nI t ↔ i = t := nI_eq (by omega) (by omega)
  refine Mk.rv fun Q hq => e_X6_tellLetters ?_
  have last : ∀ z : Int32, z = (if i = t then 1 else 0) → VM X m_X6_tellLetters (d + 2) nx sz Q 51 [some (.ref 63), some (.int (nI hd)), some (.int (nI i)), some (.int (nI t)), some (.ref 39)] [.int (bc (h.1 2 i)), .int 2, .ref 39] (setI (setI h 39 0 z) 39 1 ((h.1 2 i >>> (nI t &&& 31)) &&& 1)) := fun z hz => by
    refine c_X6_tellLetters_51 hA0 (hF.of rfl) RO_rm hcs0 (vin (i := 2) (by decide) (by decide)) (s_inCommon (d := d) (a := 1) hA0 (hF.of rfl) (Or.inl rfl) h1 hi) ?_
    rintro _ g ⟨rfl, rfl⟩
    refine c_X6_tellLetters_64 (d := d + 1) hA0 (hF.of rfl) RO_rm hcs0 (vin (i := 3) (by decide) (by decide)) (vin hi (by decide)) ?_
    rw [ti]
    have eg : setI (setI (setI (setI (setI (setI h 39 0 z) 39 1 ((h.1 2 i >>> (nI t &&& 31)) &&& 1)) 39 2 (bc (h.1 2 i))) 39 3 (bc (h.1 2 hd &&& h.1 2 i))) 39 4 (h.1 64 i)) 39 5 (abI i t) = setA h 39 (ltf (h.1 2) (h.1 64) hd i t (h.1 39)) := by
      refine Prod.ext (funext fun b => funext fun k => ?_) rfl
      by_cases q : b = 39
      · subst q
        simp only [setI, setA, ltf, hz, true_and, if_true]
      · simp [setI, setA, q]
    rw [← eg] at hq
    exact hq
  by_cases q : i = t
  · refine c_X6_tellLetters_0 (P48 := fun _ _ => False) hA0 hF RO_rm hcs0 (fun z => absurd (e.mpr q) z) (fun z => absurd (e.mpr q) z) (fun z => absurd (e.mpr q) z) (fun _ => vin hi (by decide)) (fun _ => s_degree (d := d) (a := 1) hA0 (hF.of rfl) (Or.inl rfl) hi) ?_
    rintro _ _ g ⟨rfl, rfl⟩
    rw [ti]
    exact last 1 (if_pos q).symm
  · refine c_X6_tellLetters_0 (P48_1 := fun _ _ => False) hA0 hF RO_rm hcs0 (fun _ => vin hi (by decide)) (fun _ => s_degree (d := d) (a := 1) hA0 (hF.of rfl) (Or.inl rfl) hi) ?_ (fun z => absurd (e.mp z) q) (fun z => absurd (e.mp z) q) (fun z => absurd (e.mp z) q)
    rintro _ _ g ⟨rfl, rfl⟩
    rw [ti]
    exact last 0 (if_neg q).symm
end OPS

/-! post: the class's heir, second part -/
section OPS
variable {X : CX} {d D nx sz : Nat} {h h0 : AH} {p : Nat → Int32} {n : Nat} {c : List Nat}
def F89 (h g : AH) : Prop := g.2 = h.2 ∧ ∀ c j, c ≠ 38 → c ≠ 39 → g.1 c j = h.1 c j
def Z69 (g : AH) : Prop := ∀ k, 6 ≤ k → k < 9 → g.1 39 k = 0
/-- letters of a gift, by place -/
def ltP (K V : Nat → Int32) (hd i t : Nat) : Nat → Int32 := fun k => if k < 6 then ltf K V hd i t (fun _ => 0) k else 0
/-- what a rule's words say of a gift -/
def gvW (c : List Nat) (K V : Nat → Int32) (hd t : Nat) (i : Nat) : Int32 := (wG (ltP K V hd i t) c [] false).getD 0
theorem CodA.f89 {g : AH} {r : Nat} (C : CodA h r c) (hr : r < 6) (f : F89 h g) : CodA g r c := by
  obtain ⟨c1, c2, c3, c4⟩ := C
  exact ⟨c1, by rw [f.2 37 _ (by decide) (by decide)]; exact c2, fun i hi => by rw [f.2 (31 + r) i (by omega) (by omega)]; exact c3 i hi, c4⟩
theorem s_heir {r hd t : Nat} (hA0 : 91 ≤ nx) (hF : Fx h) (hP : NP h 1 n) (h1 : hd < 20) (ht : t < 20) (hr : r < 6) (C : CodA h r c) (z : Z69 h) : Mk X (d + 4) m_X6_heir [.ref 63, .int (nI r), .int (nI hd), .int (nI t)] h nx sz (RI fun y g => y = heB (heF (h.1 2) hd (gvW c (h.1 2) (h.1 64) hd t) n) ∧ F89 h g ∧ Z69 g) := by
  obtain ⟨hn, n0, n1, n2, n20⟩ := id hP
  refine e_X6_heir (c_X6_heir_0 ?_)
  obtain ⟨Q, hQ⟩ : ∃ Q, Q = (RI fun y g => y = heB (heF (h.1 2) hd (gvW c (h.1 2) (h.1 64) hd t) n) ∧ F89 h g ∧ Z69 g) := ⟨_, rfl⟩
  rw [← hQ]
  have key : ∀ (k i : Nat) (g : AH), i + k = n → F89 h g → Z69 g → VM X m_X6_heir (d + 4) nx sz Q 9 [some (.ref 63), some (.int (nI r)), some (.int (nI hd)), some (.int (nI t)), some (.int (heB (heF (h.1 2) hd (gvW c (h.1 2) (h.1 64) hd t) i))), some (.int (heM (heF (h.1 2) hd (gvW c (h.1 2) (h.1 64) hd t) i))), some (.int (nI i)), none] [] g := by
    intro k
    induction k with
    | zero =>
      intro i g hi f z
      have hi : i = n := by omega
      subst hi
      have yes : g.1 1 0 ≤ nI i := by
        rw [f.2 1 0 (by decide) (by decide), n0]
        exact Int32.le_refl _
      refine c_X6_heir_9 (d := d + 3) (P43 := fun _ => False) hA0 (hF.of f.1) RO_rm hcs0 (fun _ => ?_) (fun z => absurd yes z) (fun z => absurd yes z) (fun z => absurd yes z) (fun z => absurd yes z)
      rw [hQ]
      exact ⟨_, rfl, rfl, f, z⟩
    | succ k ih =>
      intro i g hi f z
      have hFg := hF.of f.1
      have no : ¬ g.1 1 0 ≤ nI i := fun z => by
        rw [f.2 1 0 (by decide) (by decide), n0, le_nI (by omega) (by omega)] at z
        omega
      have g2 : g.1 2 = h.1 2 := funext fun j => f.2 2 j (by decide) (by decide)
      have g64 : g.1 64 = h.1 64 := funext fun j => f.2 64 j (by decide) (by decide)
      have eb : ((g.1 2 (nI hd).toNatClampNeg >>> (nI i &&& 31)) &&& 1) = 0 ↔ tb (h.1 2 hd) i = false := by
        rw [tN (by omega), g2]
        exact shr_eq0 (by omega)
      by_cases q : tb (h.1 2 hd) i = true
      · have nz : ¬ ((g.1 2 (nI hd).toNatClampNeg >>> (nI i &&& 31)) &&& 1) = 0 := fun y => by
          rw [eb] at y
          rw [y] at q
          cases q
        have eF : heF (h.1 2) hd (gvW c (h.1 2) (h.1 64) hd t) (i + 1) = (match heF (h.1 2) hd (gvW c (h.1 2) (h.1 64) hd t) i with
          | none => some (i, gvW c (h.1 2) (h.1 64) hd t i)
          | some (b, m) => if gvW c (h.1 2) (h.1 64) hd t i ≤ m then some (b, m) else some (i, gvW c (h.1 2) (h.1 64) hd t i)) := if_pos q
        refine c_X6_heir_9 hA0 hFg RO_rm hcs0 (fun z => absurd z no) (fun _ => vin h1 (by decide)) (fun _ y => absurd y nz) (fun _ _ => s_tell (d := d + 1) hA0 hFg h1 (by omega) ht) ?_
        rintro _ _ g' rfl
        rw [g2, g64]
        have f' : F89 h (setA g 39 (ltf (h.1 2) (h.1 64) hd i t (g.1 39))) := ⟨f.1, fun c j h1 h2 => by
          rw [setA_get_ne h2]
          exact f.2 c j h1 h2⟩
        have L : LetS (setA g 39 (ltf (h.1 2) (h.1 64) hd i t (g.1 39))) (ltP (h.1 2) (h.1 64) hd i t) := by
          refine ⟨fun k hk => ?_, fun k hk => if_neg (by omega)⟩
          rw [setA_self]
          unfold ltP
          by_cases q6 : k < 6
          · rw [if_pos q6]
            unfold ltf
            have : k = 0 ∨ k = 1 ∨ k = 2 ∨ k = 3 ∨ k = 4 ∨ k = 5 := by omega
            rcases this with rfl | rfl | rfl | rfl | rfl | rfl <;> rfl
          · rw [if_neg q6]
            unfold ltf
            rw [if_neg (by omega), if_neg (by omega), if_neg (by omega), if_neg (by omega), if_neg (by omega), if_neg (by omega)]
            exact z k (by omega) hk
        refine c_X6_heir_46 hA0 (hF.of f'.1) RO_rm hcs0 (s_worth (d := d) hA0 (hF.of f'.1) hr (C.f89 hr f') L) ?_
        rintro _ g' ⟨rfl, f38⟩
        have fg : F89 h g' := ⟨f38.1.trans f'.1, fun c j h1 h2 => (f38.2 c j h1).trans (f'.2 c j h1 h2)⟩
        have zg : Z69 g' := fun k hk1 hk2 => by
          rw [f38.2 39 k (by decide), L.1 k hk2]
          exact if_neg (by omega)
        have nxt := ih (i + 1) g' (by omega) fg zg
        rw [eF, ← nI_1] at nxt
        cases e : heF (h.1 2) hd (gvW c (h.1 2) (h.1 64) hd t) i with
        | none =>
          rw [e] at nxt
          exact c_X6_heir_54 (fun _ => nxt) (fun y => absurd rfl y) (fun y => absurd rfl y)
        | some bm =>
          obtain ⟨b, m⟩ := bm
          have hb := (heF_lt i _ e).1
          have hb : b < i := hb
          have nm : ¬ heB (some (b, m)) = -1 := nI_m1 (by show b < 2 ^ 31; omega)
          rw [e] at nxt
          by_cases le : gvW c (h.1 2) (h.1 64) hd t i ≤ m
          · have nxt : VM X m_X6_heir (d + 4) nx sz Q 9 [some (.ref 63), some (.int (nI r)), some (.int (nI hd)), some (.int (nI t)), some (.int (heB (if gvW c (h.1 2) (h.1 64) hd t i ≤ m then some (b, m) else some (i, gvW c (h.1 2) (h.1 64) hd t i)))), some (.int (heM (if gvW c (h.1 2) (h.1 64) hd t i ≤ m then some (b, m) else some (i, gvW c (h.1 2) (h.1 64) hd t i)))), some (.int (nI i + 1)), none] [] g' := nxt
            rw [if_pos le] at nxt
            exact c_X6_heir_54 (fun y => absurd y nm) (fun _ _ => nxt) (fun _ y => absurd le y)
          · have nxt : VM X m_X6_heir (d + 4) nx sz Q 9 [some (.ref 63), some (.int (nI r)), some (.int (nI hd)), some (.int (nI t)), some (.int (heB (if gvW c (h.1 2) (h.1 64) hd t i ≤ m then some (b, m) else some (i, gvW c (h.1 2) (h.1 64) hd t i)))), some (.int (heM (if gvW c (h.1 2) (h.1 64) hd t i ≤ m then some (b, m) else some (i, gvW c (h.1 2) (h.1 64) hd t i)))), some (.int (nI i + 1)), none] [] g' := nxt
            rw [if_neg le] at nxt
            exact c_X6_heir_54 (fun y => absurd y nm) (fun _ y => absurd y le) (fun _ _ => nxt)
      · have q' : tb (h.1 2 hd) i = false := by
          cases e : tb (h.1 2 hd) i
          · rfl
          · exact absurd e q
        have eF : heF (h.1 2) hd (gvW c (h.1 2) (h.1 64) hd t) (i + 1) = heF (h.1 2) hd (gvW c (h.1 2) (h.1 64) hd t) i := if_neg q
        have nxt := ih (i + 1) g (by omega) f z
        rw [eF, ← nI_1] at nxt
        exact c_X6_heir_9 (d := d + 3) (P43 := fun _ => False) hA0 hFg RO_rm hcs0 (fun z => absurd z no) (fun _ => vin h1 (by decide)) (fun _ _ => nxt) (fun _ y => absurd (eb.mpr q') y) (fun _ y => absurd (eb.mpr q') y)
  exact key n 0 h (by omega) ⟨rfl, fun _ _ _ _ => rfl⟩ z
end OPS

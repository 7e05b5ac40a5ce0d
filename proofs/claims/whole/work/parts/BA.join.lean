/-! what holds between two calls, whole; both sides' calls joined -/
section J
variable {X : CX} {nx sz n : Nat} {h g : AH}
/-- the rules: their codes, their texts, and that these mean those -/
def InvR (h : AH) : Prop := ∃ (m : Nat) (C : Nat → List Nat) (T : Nat → Nat → Nat) (ln : Nat → Nat), m ≤ 6 ∧ h.1 29 4 = nI m ∧ h.1 68 8 = nI m ∧ (∀ r, r < m → CodA h r (C r)) ∧ ∀ r, r < m → RulA h r (T r) (ln r) (C r)
theorem InvR.sc (i : InvR h) (s : Sc h g) : InvR g := by
  obtain ⟨m, C, T, ln, h1, h2, h3, h4, h5⟩ := i
  exact ⟨m, C, T, ln, h1, (s.1 29 4 rfl).trans h2, (s.1 68 8 rfl).trans h3, fun r hr => (h4 r hr).sc (by omega) s, fun r hr => (h5 r hr).sc s⟩
def Inv (h : AH) (n : Nat) : Prop := Fx h ∧ InvP h n ∧ InvG h n ∧ InvT h ∧ InvN h n ∧ InvI h n ∧ InvR h
theorem Inv.sc (i : Inv h n) (s : Sc h g) : Inv g n := by
  obtain ⟨a, b, c, d, e, f, r⟩ := i
  exact ⟨a.sc s, b.sc s, c.sc s, d.sc s, e.sc s, f.sc s, r.sc s⟩
theorem Inv.F (i : Inv h n) : Fx h := i.1
theorem Inv.P (i : Inv h n) : InvP h n := i.2.1
theorem Inv.G (i : Inv h n) : InvG h n := i.2.2.1
theorem Inv.N (i : Inv h n) : InvN h n := i.2.2.2.2.1
theorem Inv.R (i : Inv h n) : InvR h := i.2.2.2.2.2.2
theorem Inv.gs (i : Inv h n) : Gr n (h.1 2) := i.G.2.2.2.1
theorem Inv.gt (i : Inv h n) : Gr n (h.1 73) := by rw [i.G.1]; exact i.gs
theorem Inv.ls (i : Inv h n) : Lm n (h.1 2) (h.1 3) := i.G.2.2.2.2
theorem Inv.lt (i : Inv h n) : Lm n (h.1 73) (h.1 75) := by rw [i.G.1, i.G.2.1]; exact i.ls
theorem Inv.kb (i : Inv h n) : KB (h.1 73) n := i.gt.kb
theorem Inv.k73 (i : Inv h n) (s : Sc h g) : g.1 73 = h.1 2 := (s.row (a := 73) (fun j => rfl)).trans i.G.1
theorem Inv.k75 (i : Inv h n) (s : Sc h g) : g.1 75 = h.1 3 := (s.row (a := 75) (fun j => rfl)).trans i.G.2.1
theorem Inv.k76 (i : Inv h n) (s : Sc h g) : g.1 76 = h.1 4 := (s.row (a := 76) (fun j => rfl)).trans i.G.2.2.1
theorem Inv.n20 (i : Inv h n) : n ≤ 20 := i.P.2.1
theorem Inv.d9 (i : Inv h n) : ∀ b, b < n → cnt (h.1 73 b) n ≤ 9 := fun b hb => by
  obtain ⟨l, h1, -, h3⟩ := i.lt b hb
  omega
/-- the text, on both sides -/
theorem Inv.T (i : Inv h n) : ∃ s : TT, TxH h s ∧ MxH h s := by
  obtain ⟨ln, h1, h2, h3, h4⟩ := i.2.2.2.1
  have key : ∀ k, k < ln → 1 ≤ (h.1 24 k).toNatClampNeg ∧ (h.1 24 k).toNatClampNeg ≤ 255 ∧ h.1 24 k = nI (h.1 24 k).toNatClampNeg ∧ h.1 69 k = byt (h.1 24 k).toNatClampNeg := fun k hk => by
    obtain ⟨b, b1, b2, b3, b4⟩ := h4 k hk
    rw [b3, tN (by omega)]
    exact ⟨b1, b2, rfl, b4⟩
  exact ⟨(ln, fun k => (h.1 24 k).toNatClampNeg), ⟨h1, h2, fun k hk => ⟨(key k hk).1, (key k hk).2.1⟩, fun k hk => (key k hk).2.2.1⟩, ⟨h1, h3, fun k hk => ⟨(key k hk).1, (key k hk).2.1⟩, fun k hk => (key k hk).2.2.2⟩⟩
theorem InvT.of {s : TT} (a : TxH h s) (b : MxH h s) : InvT h := ⟨s.1, a.1, a.2.1, b.2.1, fun k hk => ⟨s.2 k, (a.2.2.1 k hk).1, (a.2.2.1 k hk).2, a.2.2.2 k hk, b.2.2.2 k hk⟩⟩
theorem mx_sc {s : TT} (m : MxH h s) (c : Sc h g) : MxH g s := by
  obtain ⟨m1, m2, m3, m4⟩ := m
  exact ⟨m1, (c.1 68 7 rfl).trans m2, m3, fun k hk => (c.1 69 k rfl).trans (m4 k hk)⟩
/-- both sides' calls: whatever the class answers, the other side answers too, and all holds behind it -/
def Jn (X : CX) (mS : MT) (aS : List Value) (mT : MT) (aT : List Value) (h : AH) (n nx sz : Nat) : Prop :=
  ∃ G : Int32 → AH → Prop, Mk X 60 mS aS h nx sz (RI G) ∧ ∀ y g, G y g → Mk X 60 mT aT g nx sz (RI fun y' g' => y' = y ∧ Inv g' n)
def JL (X : CX) (mS : MT) (aS : List Value) (mT : MT) (aT : List Value) (h : AH) (n nx sz : Nat) : Prop :=
  ∃ G : Int64 → AH → Prop, Mk X 60 mS aS h nx sz (RJ G) ∧ ∀ y g, G y g → Mk X 60 mT aT g nx sz (RJ fun y' g' => y' = y ∧ Inv g' n)
section
variable {mS mT : MT} {aS aT : List Value} {d : Nat}
theorem Jn.rd {v : Int32} (i : Inv h n) (s : Mk X 60 mS aS h nx sz (RI fun y g => y = v ∧ Sc h g)) (t : ∀ g, Sc h g → Inv g n → Mk X 60 mT aT g nx sz (RI fun y g' => y = v ∧ Sc g g')) : Jn X mS aS mT aT h n nx sz :=
  ⟨_, s, fun y g q => (t g q.2 (i.sc q.2)).ri (fun y' g' z => ⟨z.1.trans q.1.symm, (i.sc q.2).sc z.2⟩)⟩
theorem JL.rd {v : Int64} (i : Inv h n) (s : Mk X 60 mS aS h nx sz (RJ fun y g => y = v ∧ Sc h g)) (t : ∀ g, Sc h g → Inv g n → Mk X 60 mT aT g nx sz (RJ fun y g' => y = v ∧ Sc g g')) : JL X mS aS mT aT h n nx sz :=
  ⟨_, s, fun y g q => (t g q.2 (i.sc q.2)).rj' (fun y' g' z => ⟨z.1.trans q.1.symm, (i.sc q.2).sc z.2⟩)⟩
theorem sc0 {v : Int32} (m : Mk X d mS aS h nx sz (RE v h)) : Mk X d mS aS h nx sz (RI fun y g => y = v ∧ Sc h g) := m.ri (fun y g q => ⟨q.1, by rw [← q.2]; exact Sc.rfl⟩)
theorem sc1 {v : Int32} (m : Mk X d mS aS h nx sz (RE v (setI h 68 0 0))) : Mk X d mS aS h nx sz (RI fun y g => y = v ∧ Sc h g) := m.ri (fun y g q => ⟨q.1, by rw [← q.2]; exact Sc.rfl.setI rfl⟩)
theorem scj0 {v : Int64} (m : Mk X d mS aS h nx sz (RJE v h)) : Mk X d mS aS h nx sz (RJ fun y g => y = v ∧ Sc h g) := m.rj' (fun y g q => ⟨q.1, by rw [← q.2]; exact Sc.rfl⟩)
theorem scj1 {v : Int64} (m : Mk X d mS aS h nx sz (RJE v (setI h 68 0 0))) : Mk X d mS aS h nx sz (RJ fun y g => y = v ∧ Sc h g) := m.rj' (fun y g q => ⟨q.1, by rw [← q.2]; exact Sc.rfl.setI rfl⟩)
end
theorem n01 {x : Int32} (z0 : ¬ x = 0) (z1 : ¬ x = 1) : x < 0 ∨ 1 < x := by
  by_cases a : x < 0
  · exact Or.inl a
  · by_cases b : 1 < x
    · exact Or.inr b
    · exact absurd (x01 (Int32.not_lt.mp b) z1 a) z0
/-- an int of so many, or none of them -/
theorem c_rng (m : Nat) (hm : m < 2 ^ 30) (x : Int32) : (∃ k, k ≤ m ∧ x = nI k) ∨ (x < 0 ∨ ¬ x ≤ nI m) := by
  by_cases a : x < 0
  · exact Or.inr (Or.inl a)
  · by_cases b : nI m < x
    · exact Or.inr (Or.inr (Int32.not_le.mpr b))
    · exact Or.inl (in_rng hm a b)
theorem c_rng1 (m : Nat) (hm : m < 2 ^ 30) (x : Int32) : (∃ k, 1 ≤ k ∧ k ≤ m ∧ x = nI k) ∨ (x < 1 ∨ ¬ x ≤ nI m) := by
  rcases c_rng m hm x with ⟨k, hk, rfl⟩ | a | b
  · by_cases q : 1 ≤ k
    · exact Or.inl ⟨k, q, hk, rfl⟩
    · have : k = 0 := by omega
      subst this
      exact Or.inr (Or.inl (by decide))
  · exact Or.inr (Or.inl (Int32.lt_trans a (by decide)))
  · exact Or.inr (Or.inr b)
theorem has01 {n : Nat} {x : Int32} : hasI n x = 0 ∨ hasI n x = 1 := hasI_0
variable (hA0 : 91 ≤ nx) (i : Inv h n)
theorem j_fault {x : Int32} (hA0 : 91 ≤ nx) (i : Inv h n) : Jn X m_X11_fault [.ref 0, .int x] m_X12_fault [.ref 68, .int x] h n nx sz := by
  obtain ⟨s, t1, t2⟩ := i.T
  by_cases z0 : x = 0
  · subst z0
    refine Jn.rd i (s_fault0 (d := 56) hA0 i.F (i.P.np net1) t1) (fun g c ig => ?_)
    have t := t_fault0 (X := X) (d := 57) (nx := nx) (sz := sz) hA0 ig.F ig.P.mp (fun k hk => by obtain ⟨l, l1, l2, -⟩ := ig.lt k hk; exact ⟨l, l1, l2⟩) (mx_sc t2 c)
    rw [i.k75 c] at t
    exact t.ri (fun y g' q => ⟨q.1, q.2.1⟩)
  by_cases z1 : x = 1
  · subst z1
    exact Jn.rd i (s_fault1 (D := 39) hA0 i.F t1) (fun g c ig => t_fault1 (D := 28) (p := fun k => g.1 72 (ltrL.getD k 0)) hA0 ig.F (fun k hk => rfl) (mx_sc t2 c))
  · exact Jn.rd i (sc0 (s_fault_bad (d := 59) hA0 i.F z0 z1)) (fun g c ig => sc1 (t_fault_bad (d := 59) hA0 ig.F (n01 z0 z1)))
theorem j_far {x y : Int32} (hA0 : 91 ≤ nx) (i : Inv h n) : Jn X m_X11_far [.ref 0, .int x, .int y] m_X12_far [.ref 68, .int x, .int y] h n nx sz :=
  Jn.rd i (sc0 (s_far (d := 58) hA0 i.F i.P)) (fun g s ig => by
    have t := sc1 (t_far (X := X) (d := 57) (nx := nx) (sz := sz) (x := x) (y := y) hA0 ig.F ig.P ig.kb)
    rw [i.k73 s] at t
    exact t)
theorem j_ways {x y : Int32} (hA0 : 91 ≤ nx) (i : Inv h n) : JL X m_X11_ways [.ref 0, .int x, .int y] m_X12_ways [.ref 68, .int x, .int y] h n nx sz := by
  have h20 := i.n20
  by_cases c : hasI n x = 1 ∧ hasI n y = 1
  · obtain ⟨a, ha, rfl⟩ := (hasI_1 (by omega)).mp c.1
    obtain ⟨b, hb, rfl⟩ := (hasI_1 (by omega)).mp c.2
    refine JL.rd i (s_ways (d := 57) hA0 i.F i.P i.gs ha hb) (fun g s ig => ?_)
    have t := t_ways (X := X) (d := 56) (nx := nx) (sz := sz) hA0 ig.F ig.P ig.gt ha hb
    rw [i.k73 s] at t
    exact t
  · exact JL.rd i (scj0 (s_ways_bad (d := 57) hA0 i.F i.P c)) (fun g s ig => scj1 (t_ways_bad (d := 59) hA0 ig.P c))
theorem j_over {x y w : Int32} (hA0 : 91 ≤ nx) (i : Inv h n) : Jn X m_X11_over [.ref 0, .int x, .int y, .int w] m_X12_over [.ref 68, .int x, .int y, .int w] h n nx sz := by
  have h20 := i.n20
  by_cases c : hasI n x = 1 ∧ hasI n y = 1
  · obtain ⟨a, ha, rfl⟩ := (hasI_1 (by omega)).mp c.1
    obtain ⟨b, hb, rfl⟩ := (hasI_1 (by omega)).mp c.2
    refine Jn.rd i (s_over (d := 57) hA0 i.F i.P i.gs ha hb (fun _ _ => Classical.propDecidable _) (fun _ _ => Classical.propDecidable _)) (fun g s ig => ?_)
    have t := fun E1 E2 => t_over (X := X) (d := 56) (nx := nx) (sz := sz) (w := w) hA0 ig.F ig.P ig.gt ig.d9 ha hb E1 E2
    rw [i.k73 s] at t
    exact t _ _
  · exact Jn.rd i (sc0 (s_over_bad (d := 57) hA0 i.F i.P c)) (fun g s ig => sc1 (t_over_bad (d := 59) hA0 ig.P c))
theorem j_of {x w : Int32} (hA0 : 91 ≤ nx) (i : Inv h n) : Jn X m_X11_of [.ref 0, .int x, .int w] m_X12_of [.ref 68, .int x, .int w] h n nx sz := by
  have h20 := i.n20
  rcases has01 (n := n) (x := x) with c | c
  · exact Jn.rd i (sc0 (s_of_bad (d := 59) hA0 i.F i.P c)) (fun g s ig => sc1 (t_of_bad (d := 59) hA0 ig.P c))
  · obtain ⟨a, ha, rfl⟩ := (hasI_1 (by omega)).mp c
    refine Jn.rd i (sc0 (s_of (d := 57) hA0 i.F i.P i.gs ha)) (fun g s ig => ?_)
    have t := sc1 (t_of (X := X) (d := 56) (nx := nx) (sz := sz) (w := w) hA0 ig.F ig.P ig.gt ha)
    rw [i.k73 s, i.k75 s, i.k76 s] at t
    exact t
theorem j_all {w : Int32} (hA0 : 91 ≤ nx) (i : Inv h n) : Jn X m_X11_all [.ref 0, .int w] m_X12_all [.ref 68, .int w] h n nx sz :=
  Jn.rd i (sc0 (s_all (d := 56) hA0 i.F i.P i.gs)) (fun g s ig => by
    have t := sc1 (t_all (X := X) (d := 56) (nx := nx) (sz := sz) (w := w) hA0 ig.F ig.P ig.gt)
    rw [i.k73 s] at t
    exact t)
theorem tie01 {K : Nat → Int32} {x y : Int32} (hn : n ≤ 20) : tieI n K x y = 0 ∨ ∃ a b, a < n ∧ b < n ∧ tb (K a) b = true ∧ x = nI a ∧ y = nI b := by
  by_cases c : tieI n K x y = 0
  · exact Or.inl c
  · obtain ⟨a, b, h1, h2, h3, h4, h5⟩ := tieI_ne (by omega) c
    exact Or.inr ⟨a, b, h1, h2, h3, h4, h5⟩
theorem j_load {x y : Int32} (hA0 : 91 ≤ nx) (i : Inv h n) : Jn X m_X11_load [.ref 0, .int x, .int y] m_X12_load [.ref 68, .int x, .int y] h n nx sz := by
  rcases tie01 (K := h.1 2) (x := x) (y := y) i.n20 with c | ⟨a, b, ha, hb, ht, rfl, rfl⟩
  · exact Jn.rd i (sc0 (s_load_bad (d := 58) hA0 i.F i.P c)) (fun g s ig => sc1 (t_load_bad (d := 58) hA0 ig.F ig.P (by rw [i.k73 s]; exact c)))
  · refine Jn.rd i (s_load (d := 57) hA0 i.F i.P i.gs ht) (fun g s ig => ?_)
    have t := t_load (X := X) (d := 55) (nx := nx) (sz := sz) hA0 ig.F ig.P ig.gt ig.d9 (by rw [i.k73 s]; exact ht)
    rw [i.k73 s] at t
    exact t
theorem j_apart {x y : Int32} (hA0 : 91 ≤ nx) (i : Inv h n) : Jn X m_X11_apart [.ref 0, .int x, .int y] m_X12_apart [.ref 68, .int x, .int y] h n nx sz := by
  have h20 := i.n20
  by_cases c : twoI n x y = 0 ∨ tieI n (h.1 2) x y = 1
  · exact Jn.rd i (sc0 (s_apart_bad (d := 58) hA0 i.F i.P c)) (fun g s ig => sc1 (t_apart_bad (d := 58) hA0 ig.F ig.P (by rw [i.k73 s]; exact c)))
  · obtain ⟨a, b, ha, hb, hab, rfl, rfl⟩ := twoI_ne (by omega) (fun z => c (Or.inl z))
    have ht : tb (h.1 2 a) b = false := by
      have := fun z => c (Or.inr z)
      rw [tieI_nI h20 ha hb] at this
      cases e : tb (h.1 2 a) b
      · rfl
      · rw [e] at this
        exact absurd rfl this
    refine ⟨_, s_apart (d := 58) hA0 i.F i.P i.gs ha hb hab ht, fun y g q => ?_⟩
    obtain ⟨k, rfl, m, s⟩ := q
    have ig := i.sc s
    have t := t_apart (X := X) (d := 58) (nx := nx) (sz := sz) hA0 ig.F ig.P ig.gt ha hb hab (by rw [i.k73 s]; exact ht)
    rw [i.k73 s] at t
    refine t.ri (fun y' g' q => ?_)
    obtain ⟨l, rfl, m', s'⟩ := q
    exact ⟨by rw [MF_one m m'], ig.sc s'⟩
theorem j_bears {x : Int32} (hA0 : 91 ≤ nx) (i : Inv h n) : Jn X m_X11_bears [.ref 0, .int x] m_X12_bears [.ref 68, .int x] h n nx sz := by
  rcases c_rng 3 (by decide) x with ⟨k, hk, rfl⟩ | c
  · refine Jn.rd i (sc0 (s_bears (d := 56) hA0 i.F i.P hk)) (fun g s ig => ?_)
    have t := sc1 (t_bears (X := X) (d := 52) (nx := nx) (sz := sz) hA0 ig.F ig.P ig.gt hk)
    rw [i.k73 s] at t
    exact t
  · exact Jn.rd i (sc0 (s_bears_bad (d := 59) hA0 i.F c)) (fun g s ig => sc1 (t_bears_bad (d := 59) hA0 c))
theorem j_broken {x : Int32} (hA0 : 91 ≤ nx) (i : Inv h n) : Jn X m_X11_broken [.ref 0, .int x] m_X12_broken [.ref 68, .int x] h n nx sz := by
  rcases c_rng 3 (by decide) x with ⟨k, hk, rfl⟩ | c
  · refine Jn.rd i (sc0 (s_broken (d := 56) hA0 i.F i.P hk)) (fun g s ig => ?_)
    have t := sc1 (t_broken (X := X) (d := 52) (nx := nx) (sz := sz) hA0 ig.F ig.P ig.gt hk)
    rw [i.k73 s] at t
    exact t
  · exact Jn.rd i (sc0 (s_broken_bad (d := 59) hA0 i.F c)) (fun g s ig => sc1 (t_broken_bad (d := 59) hA0 c))
theorem j_mend (hA0 : 91 ≤ nx) (i : Inv h n) : Jn X m_X11_mend [.ref 0] m_X12_mend [.ref 68] h n nx sz :=
  Jn.rd i (sc0 (s_mend (d := 56) hA0 i.F i.P i.gs i.ls (Classical.propDecidable _))) (fun g s ig => by
    have t := sc1 (t_mend (X := X) (d := 56) (nx := nx) (sz := sz) hA0 ig.F ig.P ig.gt ig.lt (Classical.propDecidable _))
    rw [i.k73 s, i.k75 s] at t
    exact t)
theorem j_fine {x y : Int32} (hA0 : 91 ≤ nx) (i : Inv h n) : Jn X m_X11_fine [.ref 0, .int x, .int y] m_X12_fine [.ref 68, .int x, .int y] h n nx sz := by
  by_cases c : badF x y
  · exact Jn.rd i (sc0 (s_fine_bad (d := 60) hA0 c)) (fun g s ig => sc1 (t_fine_bad (d := 59) hA0 c))
  · rcases c_rng1 3 (by decide) x with ⟨k, k1, k3, rfl⟩ | z | z
    · rcases c_rng 1 (by decide) y with ⟨w, hw, rfl⟩ | z | z
      · exact Jn.rd i (s_fine (d := 57) hA0 i.F i.P k1 k3 hw) (fun g s ig => t_fine (d := 56) hA0 ig.F ig.P ig.gt k1 k3 hw)
      · exact absurd (Or.inr (Or.inr (Or.inl z))) c
      · exact absurd (Or.inr (Or.inr (Or.inr z))) c
    · exact absurd (Or.inl z) c
    · exact absurd (Or.inr (Or.inl (Int32.not_le.mp z))) c
theorem j_bound {x : Int32} (hA0 : 91 ≤ nx) (i : Inv h n) : Jn X m_X11_bound [.ref 0, .int x] m_X12_bound [.ref 68, .int x] h n nx sz := by
  rcases c_rng1 9 (by decide) x with ⟨k, k1, k3, rfl⟩ | c
  · exact Jn.rd i (sc0 (s_bound (d := 59) hA0 i.P k1 k3)) (fun g s ig => sc1 (t_bound (d := 59) hA0 ig.P k1 k3))
  · exact Jn.rd i (sc0 (s_bound_bad (d := 59) hA0 c)) (fun g s ig => sc1 (t_bound_bad (d := 59) hA0 c))
theorem j_word {x y : Int32} (hA0 : 91 ≤ nx) (i : Inv h n) : Jn X m_X11_word [.ref 0, .int x, .int y] m_X12_word [.ref 68, .int x, .int y] h n nx sz := by
  by_cases c : ¬ okB n x ∨ y < 0 ∨ ¬ y ≤ 20
  · exact Jn.rd i (sc0 (s_word_bad (d := 59) hA0 i.F i.P c)) (fun g s ig => sc1 (t_word_bad (d := 58) hA0 ig.P c))
  · rcases c_rng 20 (by decide) y with ⟨r, hr, rfl⟩ | z
    · have ok : okB n x := Classical.byContradiction (fun z => c (Or.inl z))
      refine Jn.rd i (sc0 (s_word (d := 59) hA0 i.F i.P ok hr)) (fun g s ig => ?_)
      have t := sc1 (t_word (X := X) (d := 58) (nx := nx) (sz := sz) hA0 ig.F ig.P ig.gt ok hr)
      rw [i.k73 s] at t
      exact t
    · exact absurd (Or.inr z) c
theorem j_out {x : Int32} (hA0 : 91 ≤ nx) (i : Inv h n) : Jn X m_X11_out [.ref 0, .int x] m_X12_out [.ref 68, .int x] h n nx sz := by
  by_cases c : okB n x
  · refine Jn.rd i (sc0 (s_out (d := 58) hA0 i.F i.P c)) (fun g s ig => ?_)
    have t := sc1 (t_out (X := X) (d := 57) (nx := nx) (sz := sz) hA0 ig.F ig.P ig.gt c)
    rw [i.k73 s] at t
    exact t
  · exact Jn.rd i (sc0 (s_out_bad (d := 59) hA0 i.F i.P c)) (fun g s ig => sc1 (t_out_bad (d := 58) hA0 ig.P c))
theorem j_common {x y : Int32} (hA0 : 91 ≤ nx) (i : Inv h n) : Jn X m_X11_common [.ref 0, .int x, .int y] m_X12_common [.ref 68, .int x, .int y] h n nx sz :=
  Jn.rd i (sc0 (s_common (d := 58) hA0 i.F i.P)) (fun g s ig => by
    have t := sc1 (t_common (X := X) (d := 58) (nx := nx) (sz := sz) (x := x) (y := y) hA0 ig.F ig.P)
    rw [i.k73 s] at t
    exact t)
theorem j_likely (hA0 : 91 ≤ nx) (i : Inv h n) : Jn X m_X11_likely [.ref 0] m_X12_likely [.ref 68] h n nx sz :=
  Jn.rd i (sc0 (s_likely (d := 57) hA0 i.F i.P i.gs)) (fun g s ig => by
    have t := sc1 (t_likely (X := X) (d := 58) (nx := nx) (sz := sz) hA0 ig.F ig.P ig.gt)
    rw [i.k73 s] at t
    exact t)
theorem j_threes {x : Int32} (hA0 : 91 ≤ nx) (i : Inv h n) : Jn X m_X11_threes [.ref 0, .int x] m_X12_threes [.ref 68, .int x] h n nx sz := by
  rcases c_rng 2 (by decide) x with ⟨k, hk, rfl⟩ | c
  · refine Jn.rd i (sc0 (s_threes (d := 58) hA0 i.F i.P i.gs hk)) (fun g s ig => ?_)
    have t := sc1 (t_threes (X := X) (d := 58) (nx := nx) (sz := sz) hA0 ig.F ig.P ig.gt hk)
    rw [i.k73 s] at t
    exact t
  · exact Jn.rd i (sc0 (s_threes_bad (d := 59) hA0 i.F c)) (fun g s ig => sc1 (t_threes_bad (d := 59) hA0 c))
theorem j_courier {x : Int32} (hA0 : 91 ≤ nx) (i : Inv h n) : Jn X m_X11_courier [.ref 0, .int x] m_X12_courier [.ref 68, .int x] h n nx sz := by
  rcases c_rng 1 (by decide) x with ⟨k, hk, rfl⟩ | c
  · refine Jn.rd i (sc0 (s_courier (d := 56) hA0 i.F i.P i.gs hk)) (fun g s ig => ?_)
    have t := sc1 (t_courier (X := X) (d := 56) (nx := nx) (sz := sz) hA0 ig.F ig.P ig.gt hk)
    rw [i.k73 s] at t
    exact t
  · exact Jn.rd i (sc0 (s_courier_bad (d := 59) hA0 i.F c)) (fun g s ig => sc1 (t_courier_bad (d := 59) hA0 c))
theorem j_loss {x y : Int32} (hA0 : 91 ≤ nx) (i : Inv h n) : Jn X m_X11_loss [.ref 0, .int x, .int y] m_X12_loss [.ref 68, .int x, .int y] h n nx sz := by
  rcases tie01 (K := h.1 2) (x := x) (y := y) i.n20 with c | ⟨a, b, ha, hb, ht, rfl, rfl⟩
  · exact Jn.rd i (sc0 (s_loss_bad (d := 58) hA0 i.F i.P c)) (fun g s ig => sc1 (t_loss_bad (d := 58) hA0 ig.F ig.P ig.gt (by rw [i.k73 s]; exact c)))
  · refine Jn.rd i (sc0 (s_loss (d := 55) hA0 i.F i.P i.gs ha hb ht)) (fun g s ig => ?_)
    have t := sc1 (t_loss (X := X) (d := 54) (nx := nx) (sz := sz) hA0 ig.F ig.P ig.gt ha hb (by rw [i.k73 s]; exact ht))
    rw [i.k73 s] at t
    exact t
theorem j_dear {x : Int32} (hA0 : 91 ≤ nx) (i : Inv h n) : Jn X m_X11_dear [.ref 0, .int x] m_X12_dear [.ref 68, .int x] h n nx sz := by
  by_cases z0 : x = 0
  · subst z0
    refine Jn.rd i (sc0 (s_dear0 (d := 54) hA0 i.F i.P i.gs)) (fun g s ig => ?_)
    have t := sc1 (t_dear0 (X := X) (d := 54) (nx := nx) (sz := sz) hA0 ig.F ig.P ig.gt)
    rw [i.k73 s] at t
    exact t
  by_cases z1 : x = 1
  · subst z1
    refine Jn.rd i (sc0 (s_dear1 (d := 54) hA0 i.F i.P i.gs (fun _ _ => Classical.propDecidable _))) (fun g s ig => ?_)
    have t := fun D => sc1 (t_dear1 (X := X) (d := 54) (nx := nx) (sz := sz) hA0 ig.F ig.P ig.gt D)
    rw [i.k73 s, i.k75 s] at t
    exact t _
  · exact Jn.rd i (sc0 (s_dear_bad (d := 59) hA0 i.F z0 z1)) (fun g s ig => sc1 (t_dear_bad (d := 59) hA0 z0 z1))
theorem j_set {x : Int32} (hX : nX X = n) (hA0 : 91 ≤ nx) (i : Inv h n) : Jn X m_X11_set [.ref 0, .int x] m_X12_set [.ref 68, .int x] h n nx sz := by
  rcases c_rng 2 (by decide) x with ⟨w, hw, rfl⟩ | c
  · refine ⟨_, s_setOp (d := 37) hX hA0 i.F i.P i.gs hw, fun y g q => ?_⟩
    obtain ⟨b, s⟩ := q
    have ig := i.sc s
    have t := sc1 (t_setOp (X := X) (d := 58) (nx := nx) (sz := sz) hA0 ig.F ig.P hw)
    rw [i.k73 s] at t
    refine t.ri (fun y' g' q => ⟨?_, ig.sc q.2⟩)
    rw [q.1]
    refine Bst_one (bsF_best i.n20 (fun p hp => ?_) (fun j hj => ?_)) b
    · by_cases q2 : w = 2
      · rw [if_pos q2]
        refine ⟨fun z => by omega, fun z => by omega, fun _ z => ?_⟩
        rw [tb_full (by have := i.n20; omega), decide_eq_true hp] at z
        cases z
      · rw [if_neg q2]
        refine ⟨fun _ z => ?_, fun _ z => ?_, fun z => absurd z q2⟩
        · rw [tb_0] at z
          cases z
        · rw [tb_0] at z
          cases z
    · by_cases q2 : w = 2
      · rw [if_pos q2, tb_full (by have := i.n20; omega)] at hj
        exact of_decide_eq_true hj
      · rw [if_neg q2, tb_0] at hj
        cases hj
  · exact Jn.rd i (sc0 (s_setOp_bad (d := 59) hA0 i.F c)) (fun g s ig => sc1 (t_setOp_bad (d := 59) hA0 c))
theorem j_begin {x : Int32} (hA0 : 91 ≤ nx) (i : Inv h n) : Jn X m_X11_begin [.ref 0, .int x] m_X12_begin [.ref 68, .int x] h n nx sz := by
  rcases c_rng1 3 (by decide) x with ⟨k, k1, k3, rfl⟩ | c
  · refine ⟨_, s_begin (d := 57) hA0 i.F i.P i.gs k1 k3, fun y g q => ?_⟩
    obtain ⟨b, rfl⟩ := q
    have t := t_begin (X := X) (d := 56) (nx := nx) (sz := sz) hA0 i.F i.P i.gt k1 k3
    rw [i.G.1] at t
    exact t.ri (fun y' g' q => ⟨BGV_one q.1 b, i.sc (by rw [← q.2]; exact Sc.rfl.setI rfl)⟩)
  · exact Jn.rd i (sc0 (s_begin_bad (d := 59) hA0 i.F c)) (fun g s ig => sc1 (t_begin_bad (d := 59) hA0 c))
theorem j_count {x : Int32} (hA0 : 91 ≤ nx) (i : Inv h n) : Jn X m_X11_count [.ref 0, .int x] m_X12_count [.ref 68, .int x] h n nx sz :=
  Jn.rd i (sc0 (s_count (d := 60) hA0 i.F)) (fun g s ig => by
    have t := sc1 (t_count (X := X) (d := 60) (nx := nx) (sz := sz) (h := g) (x := x) hA0)
    obtain ⟨a, a1, a2⟩ := i.T
    obtain ⟨m, C, T, ln, -, r1, r2, -⟩ := i.R
    have e1 : g.1 68 1 = h.1 0 0 := (s.1 68 1 rfl).trans (i.P.2.2.2.2.trans i.P.2.2.1.symm)
    have e2 : g.1 68 8 = h.1 29 4 := (s.1 68 8 rfl).trans (r2.trans r1.symm)
    have e3 : g.1 68 7 = h.1 23 1 := (s.1 68 7 rfl).trans (a2.2.1.trans a1.2.1.symm)
    have e4 : g.1 68 30 = h.1 40 3 := (s.1 68 30 rfl).trans i.N.2.2.1
    have e5 : g.1 68 31 = h.1 40 4 := (s.1 68 31 rfl).trans i.N.2.2.2.2.1
    rw [e1, e2, e3, e4, e5] at t
    exact t)
end J

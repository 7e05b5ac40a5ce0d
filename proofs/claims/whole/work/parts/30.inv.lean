/-! what holds between two calls -/
def scrA : List Nat := [10, 11, 12, 14, 15, 16, 17, 18, 19, 22, 26, 28, 38, 39, 64, 65, 67, 72, 74, 77, 78, 79, 80, 81, 82, 84, 85, 86]
def scrF : List (Nat × Nat) := [(21, 2), (21, 3), (27, 2), (27, 3), (27, 4), (40, 5), (40, 6), (40, 7), (40, 8), (63, 4), (68, 0), (68, 9), (68, 10), (68, 11), (68, 12), (68, 13), (68, 14), (68, 15), (68, 18), (68, 32), (68, 33), (68, 34), (68, 35), (68, 36), (68, 37), (68, 41)]
/-- places whose contents nobody reads behind the call that wrote them -/
def Scr (a j : Nat) : Bool := scrA.contains a || scrF.contains (a, j)
/-- the text that the other side reads is one of its two rows -/
def TXT (h : AH) : Prop := h.2.2 68 6 = some 69 ∨ h.2.2 68 6 = some 70
/-- g is h, but for scratch -/
def Sc (h g : AH) : Prop := (∀ a j, Scr a j = false → g.1 a j = h.1 a j) ∧ (∀ k j, ¬ (k = 68 ∧ j = 6) → g.2.2 k j = h.2.2 k j) ∧ (TXT h → TXT g)
theorem Sc.rfl {h : AH} : Sc h h := ⟨fun _ _ _ => Eq.refl _, fun _ _ _ => Eq.refl _, id⟩
theorem Sc.trans {h g k : AH} (a : Sc h g) (b : Sc g k) : Sc h k := ⟨fun x j hj => (b.1 x j hj).trans (a.1 x j hj), fun x j hj => (b.2.1 x j hj).trans (a.2.1 x j hj), fun q => b.2.2 (a.2.2 q)⟩
theorem Sc.setI {h g : AH} {a j : Nat} {x : Int32} (s : Sc h g) (hs : Scr a j = true) : Sc h (setI g a j x) := by
  refine ⟨fun b i hb => ?_, s.2.1, s.2.2⟩
  show (if b = a ∧ i = j then x else g.1 b i) = _
  rw [if_neg (fun z => by rw [z.1, z.2, hs] at hb; cases hb)]
  exact s.1 b i hb
theorem Sc.setL {h g : AH} {a j : Nat} {x : Int64} (s : Sc h g) : Sc h (setL g a j x) := ⟨s.1, s.2.1, s.2.2⟩
theorem scrA_all {a : Nat} (h : scrA.contains a = true) (j : Nat) : Scr a j = true := by unfold Scr; rw [h, Bool.true_or]
theorem Sc.setA {h g : AH} {a : Nat} {f : Nat → Int32} (s : Sc h g) (hs : scrA.contains a = true) : Sc h (setA g a f) := by
  refine ⟨fun b i hb => ?_, s.2.1, s.2.2⟩
  show (if b = a then f else g.1 b) i = _
  rw [if_neg (fun z => by rw [z, scrA_all hs] at hb; cases hb)]
  exact s.1 b i hb
/-- a whole row kept -/
theorem Sc.row {h g : AH} (s : Sc h g) {a : Nat} (ha : ∀ j, Scr a j = false) : g.1 a = h.1 a := funext fun j => s.1 a j (ha j)
theorem Fx.sc {h g : AH} (hF : Fx h) (s : Sc h g) : Fx g := fun k j r hr => by
  rw [s.2.1 k j (fun z => by rw [z.1, z.2] at hr; cases hr)]
  exact hF k j r hr
/-- a net well made: rows of the first n alone, both ways, nobody with itself, none beyond -/
def Gr (n : Nat) (K : Nat → Int32) : Prop := (∀ i j, tb (K i) j = true → i < n ∧ j < n ∧ i ≠ j ∧ tb (K j) i = true)
/-- nobody has more than may be -/
def Lm (n : Nat) (K L : Nat → Int32) : Prop := ∀ i, i < n → ∃ l, l ≤ 9 ∧ L i = nI l ∧ cnt (K i) n ≤ l
def InvG (h : AH) (n : Nat) : Prop := h.1 73 = h.1 2 ∧ h.1 75 = h.1 3 ∧ h.1 76 = h.1 4 ∧ Gr n (h.1 2) ∧ Lm n (h.1 2) (h.1 3)
/-- a byte of a text, and as the other side keeps it -/
def byt (b : Nat) : Int32 := (nI b).toInt8.toInt32
def InvT (h : AH) : Prop := ∃ ln, ln ≤ 200 ∧ h.1 23 1 = nI ln ∧ h.1 68 7 = nI ln ∧ ∀ i, i < ln → ∃ b, 1 ≤ b ∧ b ≤ 255 ∧ h.1 24 i = nI b ∧ h.1 69 i = byt b
def InvN (h : AH) (n : Nat) : Prop := (∀ a b, a < 20 → b < 20 → ∃ m, m ≤ 99 ∧ h.1 (42 + a) b = nI m ∧ h.1 83 (20 * a + b) = nI m ∧ tb (h.1 62 a) b = decide (0 < m) ∧ (0 < m → a < n ∧ b < n ∧ a ≠ b)) ∧ (∀ a, a < 20 → ∀ b, tb (h.1 62 a) b = true → b < n) ∧ h.1 68 30 = h.1 40 3 ∧ (∃ c, c = sm (fun k => if h.1 83 k = 0 then 0 else 1) 400 ∧ c ≤ 60 ∧ h.1 40 3 = nI c) ∧ h.1 68 31 = h.1 40 4 ∧ ∃ c, c ≤ 99 ∧ h.1 40 4 = nI c
def InvI (h : AH) (n : Nat) : Prop := h.1 68 46 = h.1 0 14 ∧ (h.1 0 14 = 0 ∨ h.1 0 14 = 1) ∧ (∀ p, n ≤ p → h.1 6 p = h.1 2 p ∧ h.1 7 p = h.1 3 p ∧ h.1 8 p = h.1 4 p) ∧ (h.1 0 14 = 1 → (∀ p, p < n → h.1 87 p = h.1 6 p ∧ h.1 88 p = h.1 7 p ∧ h.1 89 p = h.1 8 p) ∧ Gr n (h.1 6) ∧ Lm n (h.1 6) (h.1 7))
def InvP (h : AH) (n : Nat) : Prop := 2 ≤ n ∧ n ≤ 20 ∧ h.1 0 0 = nI n ∧ (∀ a, IsNet a → h.1 a 0 = nI n ∧ h.1 a 1 = full n) ∧ h.1 68 1 = nI n
theorem InvP.np {h : AH} {n a : Nat} (i : InvP h n) (ha : IsNet a) : NP h a n := ⟨ha, (i.2.2.2.1 a ha).1, (i.2.2.2.1 a ha).2, i.1, i.2.1⟩
theorem InvP.mp {h : AH} {n : Nat} (i : InvP h n) : MP h n := ⟨i.2.2.2.2, i.1, i.2.1⟩
theorem Gr.kb {n : Nat} {K : Nat → Int32} (g : Gr n K) : KB K n := fun i _ j hj => (g i j hj).2.1
theorem Gr.cnt {n : Nat} {K : Nat → Int32} (g : Gr n K) (hn : n ≤ 20) (i : Nat) : bc (K i) = nI (cnt (K i) n) := by
  rw [bc_cnt, cnt_32 (n := n) (by omega) (fun j hj => (g i j hj).2.1)]
theorem InvG.sc {h g : AH} {n : Nat} (i : InvG h n) (s : Sc h g) : InvG g n := by
  obtain ⟨h1, h2, h3, h4, h5⟩ := i
  have r2 := s.row (a := 2) (fun j => rfl)
  have r3 := s.row (a := 3) (fun j => rfl)
  have r4 := s.row (a := 4) (fun j => rfl)
  have r5 := s.row (a := 73) (fun j => rfl)
  have r6 := s.row (a := 75) (fun j => rfl)
  have r7 := s.row (a := 76) (fun j => rfl)
  unfold InvG
  rw [r2, r3, r4, r5, r6, r7]
  exact ⟨h1, h2, h3, h4, h5⟩
theorem InvT.sc {h g : AH} (i : InvT h) (s : Sc h g) : InvT g := by
  obtain ⟨ln, h1, h2, h3, h4⟩ := i
  have r2 := s.row (a := 24) (fun j => rfl)
  have r3 := s.row (a := 69) (fun j => rfl)
  refine ⟨ln, h1, (s.1 23 1 rfl).trans h2, (s.1 68 7 rfl).trans h3, ?_⟩
  rw [r2, r3]
  exact h4
theorem InvN.sc {h g : AH} {n : Nat} (i : InvN h n) (s : Sc h g) : InvN g n := by
  have r1 := s.row (a := 62) (fun j => rfl)
  have r2 := s.row (a := 83) (fun j => rfl)
  have r3 : ∀ a, a < 20 → g.1 (42 + a) = h.1 (42 + a) := fun a ha => s.row (fun j => by
    have : ∀ a, a < 20 → (scrA.contains (42 + a) || scrF.any (fun q => q.1 == 42 + a)) = false := by decide
    have h1 := this a ha
    rw [Bool.or_eq_false_iff] at h1
    unfold Scr
    rw [h1.1, Bool.false_or]
    cases hq : scrF.contains (42 + a, j) with
    | false => rfl
    | true =>
      rw [List.contains_iff_mem] at hq
      have h2 := List.any_eq_false.mp h1.2 _ hq
      simp at h2)
  unfold InvN
  rw [r1, r2, s.1 68 30 rfl, s.1 40 3 rfl, s.1 68 31 rfl, s.1 40 4 rfl]
  refine ⟨fun a b ha hb => ?_, i.2⟩
  rw [r3 a ha]
  exact i.1 a b ha hb
theorem InvI.sc {h g : AH} {n : Nat} (i : InvI h n) (s : Sc h g) : InvI g n := by
  unfold InvI
  rw [s.row (a := 2) (fun j => rfl), s.row (a := 3) (fun j => rfl), s.row (a := 4) (fun j => rfl), s.row (a := 6) (fun j => rfl), s.row (a := 7) (fun j => rfl), s.row (a := 8) (fun j => rfl), s.row (a := 87) (fun j => rfl), s.row (a := 88) (fun j => rfl), s.row (a := 89) (fun j => rfl), s.1 68 46 rfl, s.1 0 14 rfl]
  exact i
theorem InvP.sc {h g : AH} {n : Nat} (i : InvP h n) (s : Sc h g) : InvP g n := by
  obtain ⟨h1, h2, h3, h4, h5⟩ := i
  refine ⟨h1, h2, (s.1 0 0 rfl).trans h3, fun a ha => ?_, (s.1 68 1 rfl).trans h5⟩
  obtain ⟨e1, e2⟩ := h4 a ha
  have : Scr a 0 = false ∧ Scr a 1 = false := by rcases ha with rfl | rfl | rfl <;> exact ⟨rfl, rfl⟩
  exact ⟨(s.1 a 0 this.1).trans e1, (s.1 a 1 this.2).trans e2⟩

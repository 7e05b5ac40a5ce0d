/-! post: the class carries -/
section PO
theorem heF_congr {K : Nat → Int32} {hd : Nat} {w w' : Nat → Int32} : ∀ (k : Nat), (∀ i, i < k → w i = w' i) → heF K hd w k = heF K hd w' k
  | 0, _ => rfl
  | k + 1, h => by
    unfold heF
    rw [heF_congr k (fun i hi => h i (by omega)), h k (by omega)]
theorem gvW_congr {c : List Nat} {K V V' : Nat → Int32} {hd t i : Nat} (h : V i = V' i) : gvW c K V hd t i = gvW c K V' hd t i := by
  unfold gvW ltP ltf
  rw [h]
/-- one more visit -/
def vis (V : Nat → Int32) (b : Nat) : Nat → Int32 := fun k => if k = b then V b + 1 else V k
/-- whether it comes, and who has it behind each gift -/
def goL (c : List Nat) (K : Nat → Int32) (n t : Nat) : Nat → Nat → (Nat → Int32) → Bool × List Nat
  | 0, _, _ => (false, [])
  | f + 1, hd, V => match heF K hd (gvW c K V hd t) n with
    | none => (false, [])
    | some b => if b.1 = t then (true, [b.1]) else ((goL c K n t f b.1 (vis V b.1)).1, b.1 :: (goL c K n t f b.1 (vis V b.1)).2)
theorem goL_len {c : List Nat} {K : Nat → Int32} {n t : Nat} : ∀ (f hd : Nat) (V : Nat → Int32), (goL c K n t f hd V).2.length ≤ f
  | 0, _, _ => Nat.le_refl _
  | f + 1, hd, V => by
    unfold goL
    cases e : heF K hd (gvW c K V hd t) n with
    | none => exact Nat.zero_le _
    | some b =>
      show (if b.1 = t then (true, [b.1]) else ((goL c K n t f b.1 (vis V b.1)).1, b.1 :: (goL c K n t f b.1 (vis V b.1)).2) : Bool × List Nat).2.length ≤ f + 1
      split
      · show 1 ≤ f + 1
        omega
      · exact Nat.succ_le_succ (goL_len f b.1 _)
end PO
section OPS
variable {X : CX} {d D nx sz : Nat} {h h0 : AH} {p : Nat → Int32} {n : Nat} {c : List Nat}
theorem F89.sc {g : AH} (f : F89 h g) : Sc h g := ⟨fun a j hj => f.2 a j (fun z => by subst z; cases hj) (fun z => by subst z; cases hj), fun k j _ => by rw [f.1], fun z => by unfold TXT; rw [f.1]; exact z⟩
theorem CodA.sc {g : AH} {r : Nat} (C : CodA h r c) (hr : r < 6) (s : Sc h g) : CodA g r c := by
  obtain ⟨c1, c2, c3, c4⟩ := C
  have e : ∀ r, r < 6 → scrA.contains (31 + r) = false := by decide
  have e2 : ∀ r, r < 6 → scrF.all (fun q => q.1 != 31 + r) = true := by decide
  refine ⟨c1, (s.1 37 r rfl).trans c2, fun i hi => (s.1 (31 + r) i ?_).trans (c3 i hi), c4⟩
  unfold Scr
  rw [e r hr, Bool.false_or]
  have := e2 r hr
  cases hq : scrF.contains (31 + r, i) with
  | false => rfl
  | true =>
    rw [List.contains_iff_mem] at hq
    have h2 := List.all_eq_true.mp this _ hq
    simp at h2
theorem NP.sc {g : AH} (P : NP h 1 n) (s : Sc h g) : NP g 1 n := by
  obtain ⟨p1, p2, p3, p4, p5⟩ := P
  exact ⟨p1, (s.1 1 0 rfl).trans p2, (s.1 1 1 rfl).trans p3, p4, p5⟩
theorem cy65 {a m j : Nat} {x y z : Int32} : (setI (setI (setI h 64 a x) 65 m y) 63 4 z).1 65 j = if j = m then y else h.1 65 j := by
  rw [setI_b (by decide)]
  show (if 65 = 65 ∧ j = m then y else (setI h 64 a x).1 65 j) = _
  by_cases q : j = m
  · rw [if_pos ⟨rfl, q⟩, if_pos q]
  · rw [if_neg (fun w => q w.2), if_neg q, setI_b (by decide)]
theorem cy64 {a m j : Nat} {x y z : Int32} : (setI (setI (setI h 64 a x) 65 m y) 63 4 z).1 64 j = if j = a then x else h.1 64 j := by
  rw [setI_b (by decide), setI_b (by decide)]
  show (if 64 = 64 ∧ j = a then x else h.1 64 j) = _
  by_cases q : j = a
  · rw [if_pos ⟨rfl, q⟩, if_pos q]
  · rw [if_neg (fun w => q w.2), if_neg q]
theorem cy39 {a m j : Nat} {x y z : Int32} : (setI (setI (setI h 64 a x) 65 m y) 63 4 z).1 39 j = h.1 39 j := by
  rw [setI_b (by decide), setI_b (by decide), setI_b (by decide)]
theorem cySc {g : AH} {a m : Nat} {x y z : Int32} (s : Sc h g) : Sc h (setI (setI (setI g 64 a x) 65 m y) 63 4 z) := ((s.setI (scrA_all (by decide) _)).setI (scrA_all (by decide) _)).setI (by decide)
theorem s_carry {r fr t : Nat} (hA0 : 91 ≤ nx) (hF : Fx h) (hP : NP h 1 n) (hK : KB (h.1 2) n) (h1 : fr < n) (ht : t < n) (hr : r < 6) (C : CodA h r c) : Mk X (d + 5) m_X6_carry [.ref 63, .int (nI r), .int (nI fr), .int (nI t)] h nx sz (RI fun y g => Sc h g ∧ y = (if (goL c (h.1 2) n t 60 fr (fun k => if k = fr then 1 else 0)).1 = true then 1 else 0) ∧ g.1 63 4 = nI (goL c (h.1 2) n t 60 fr (fun k => if k = fr then 1 else 0)).2.length ∧ g.1 65 0 = nI fr ∧ ∀ j, j < (goL c (h.1 2) n t 60 fr (fun k => if k = fr then 1 else 0)).2.length → g.1 65 (j + 1) = nI ((goL c (h.1 2) n t 60 fr (fun k => if k = fr then 1 else 0)).2.getD j 0)) := by
  obtain ⟨hn, n0, n1, n2, n20⟩ := id hP
  have hKn : ∀ i, i < n → ∀ j, tb (h.1 2 i) j = true → j < n := hK
  refine e_X6_carry (c_X6_carry_0 hA0 hF RO_rm hcs0 (e_X8_forgetLetters (c_X8_forgetLetters_0 hA0 hF RO_rm hcs0 (s_fill (d := d + 3) (r := 39) (N := 9) (v := 0) rfl (by omega) (by decide)) (fun g pg => c_X8_forgetLetters_8 (Q := RV fun g => g.2 = h.2 ∧ (∀ b, b ≠ 39 → g.1 b = h.1 b) ∧ ∀ i, i < 9 → g.1 39 i = 0) ⟨rfl, pg.1, pg.2.1, pg.2.2.1⟩))) ?_)
  rintro g1 ⟨a2, a1, a0⟩
  refine c_X6_carry_7 hA0 (hF.of a2) RO_rm hcs0 (s_fill (d := d + 4) (r := 64) (N := 20) (v := 0) rfl (by omega) (by decide)) ?_
  rintro g2 ⟨b2, b1, b0, -⟩
  have s1 : Sc h g1 := ⟨fun a j hj => congrFun (a1 a (fun z => by subst z; cases hj)) j, fun k j _ => by rw [a2], fun z => by unfold TXT; rw [a2]; exact z⟩
  have s2 : Sc h g2 := s1.trans ⟨fun a j hj => congrFun (b1 a (fun z => by subst z; cases hj)) j, fun k j _ => by rw [b2], fun z => by unfold TXT; rw [b2]; exact z⟩
  refine c_X6_carry_15 hA0 (hF.sc s2) (vin (by omega) (by decide)) ?_
  rw [tN (by omega)]
  obtain ⟨Q, hQ⟩ : ∃ Q, Q = (RI fun y g => Sc h g ∧ y = (if (goL c (h.1 2) n t 60 fr (fun k => if k = fr then 1 else 0)).1 = true then 1 else 0) ∧ g.1 63 4 = nI (goL c (h.1 2) n t 60 fr (fun k => if k = fr then 1 else 0)).2.length ∧ g.1 65 0 = nI fr ∧ ∀ j, j < (goL c (h.1 2) n t 60 fr (fun k => if k = fr then 1 else 0)).2.length → g.1 65 (j + 1) = nI ((goL c (h.1 2) n t 60 fr (fun k => if k = fr then 1 else 0)).2.getD j 0)) := ⟨_, rfl⟩
  rw [← hQ]
  have key : ∀ (f i hd : Nat) (V : Nat → Int32) (g : AH), i + f = 60 → hd < n → Sc h g → Z69 g → (∀ k, k < 20 → g.1 64 k = V k) → g.1 65 i = nI hd → g.1 63 4 = nI i → (∀ y g', Sc h g' → y = (if (goL c (h.1 2) n t f hd V).1 = true then 1 else 0) → g'.1 63 4 = nI (i + (goL c (h.1 2) n t f hd V).2.length) → (∀ j, j ≤ i → g'.1 65 j = g.1 65 j) → (∀ j, j < (goL c (h.1 2) n t f hd V).2.length → g'.1 65 (i + 1 + j) = nI ((goL c (h.1 2) n t f hd V).2.getD j 0)) → Q (some (.int y)) g') → VM X m_X6_carry (d + 5) nx sz Q 37 [some (.ref 63), some (.int (nI r)), none, some (.int (nI t)), some (.int (nI i)), none] [] g := by
    intro f
    induction f with
    | zero =>
      intro i hd V g hi hh s z hV e65 e63 fin
      have hi : i = 60 := by omega
      subst hi
      have yes : (60 : Int32) ≤ nI 60 := Int32.le_refl _
      refine c_X6_carry_37 (d := d + 4) (P54 := fun _ _ => False) hA0 (hF.sc s) RO_rm hcs0 (fun _ => fin 0 g s rfl e63 (fun _ _ => rfl) (fun j hj => by cases hj)) (fun z => absurd yes z) (fun z => absurd yes z) (fun z => absurd yes z)
    | succ f ih =>
      intro i hd V g hi hh s z hV e65 e63 fin
      have no : ¬ (60 : Int32) ≤ nI i := fun z => by
        have z : nI 60 ≤ nI i := z
        rw [le_nI (by decide) (by omega)] at z
        omega
      have hFg := hF.sc s
      have r2 : g.1 2 = h.1 2 := s.row (fun j => rfl)
      refine c_X6_carry_37 hA0 hFg RO_rm hcs0 (fun z => absurd z no) (fun _ => vin (by omega) (by decide)) (fun _ => by rw [tN (by omega), e65]; exact s_heir (d := d) hA0 hFg (hP.sc s) (by omega) (by omega) hr (C.sc hr s) z) ?_
      rintro _ _ g' ⟨rfl, f89, z'⟩
      rw [r2, heF_congr n (fun i hi => gvW_congr (V' := V) (hV i (by omega)))]
      have s' := s.trans f89.sc
      have hFg' := hF.sc s'
      unfold goL at fin
      cases e : heF (h.1 2) hd (gvW c (h.1 2) V hd t) n with
      | none =>
        rw [e] at fin
        refine c_X6_carry_57 hA0 hFg' (fun z => absurd rfl z) (fun z => absurd rfl z) (fun z => absurd rfl z) (fun z => absurd rfl z) (fun z => absurd rfl z) (fun _ => fin 0 g' s' rfl ?_ (fun j _ => f89.2 65 j (by decide) (by decide)) (fun j hj => by cases hj))
        rw [f89.2 63 4 (by decide) (by decide)]
        exact e63
      | some b =>
        rw [e] at fin
        obtain ⟨b1, b2⟩ := heF_lt n b e
        have nm : ¬ heB (some b) = -1 := nI_m1 (by omega)
        have tb' : (heB (some b)).toNatClampNeg = b.1 := tN (by omega)
        have et : heB (some b) = nI t ↔ b.1 = t := nI_eq (by omega) (by omega)
        have ti : (nI i + 1).toNatClampNeg = i + 1 := by rw [nI_1]; exact tN (by omega)
        have g64 : ∀ k, k < 20 → g'.1 64 k = V k := fun k hk => (f89.2 64 k (by decide) (by decide)).trans (hV k hk)
        have g63 : g'.1 63 4 = nI i := (f89.2 63 4 (by decide) (by decide)).trans e63
        have q63 : g'.1 63 4 + 1 = nI (i + 1) := by rw [g63, nI_1]
        have en : nI i + 1 = nI (i + 1) := nI_1 i
        have hv : ∀ k, k < 20 → (setI (setI (setI g' 64 b.1 (g'.1 64 b.1 + 1)) 65 (i + 1) (heB (some b))) 63 4 (nI (i + 1))).1 64 k = vis V b.1 k := fun k hk => by
          rw [cy64]
          unfold vis
          by_cases w : k = b.1
          · rw [if_pos w, if_pos w, g64 b.1 (by omega)]
          · rw [if_neg w, if_neg w, g64 k hk]
        have old : ∀ j, j ≤ i → (setI (setI (setI g' 64 b.1 (g'.1 64 b.1 + 1)) 65 (i + 1) (heB (some b))) 63 4 (nI (i + 1))).1 65 j = g.1 65 j := fun j hj => by
          rw [cy65, if_neg (by omega)]
          exact f89.2 65 j (by decide) (by decide)
        have new : (setI (setI (setI g' 64 b.1 (g'.1 64 b.1 + 1)) 65 (i + 1) (heB (some b))) 63 4 (nI (i + 1))).1 65 (i + 1) = nI b.1 := by
          rw [cy65, if_pos rfl]
          rfl
        have fin : ∀ y g', Sc h g' → y = (if (if b.1 = t then (true, [b.1]) else ((goL c (h.1 2) n t f b.1 (vis V b.1)).1, b.1 :: (goL c (h.1 2) n t f b.1 (vis V b.1)).2) : Bool × List Nat).1 = true then 1 else 0) → g'.1 63 4 = nI (i + (if b.1 = t then (true, [b.1]) else ((goL c (h.1 2) n t f b.1 (vis V b.1)).1, b.1 :: (goL c (h.1 2) n t f b.1 (vis V b.1)).2) : Bool × List Nat).2.length) → (∀ j, j ≤ i → g'.1 65 j = g.1 65 j) → (∀ j, j < (if b.1 = t then (true, [b.1]) else ((goL c (h.1 2) n t f b.1 (vis V b.1)).1, b.1 :: (goL c (h.1 2) n t f b.1 (vis V b.1)).2) : Bool × List Nat).2.length → g'.1 65 (i + 1 + j) = nI ((if b.1 = t then (true, [b.1]) else ((goL c (h.1 2) n t f b.1 (vis V b.1)).1, b.1 :: (goL c (h.1 2) n t f b.1 (vis V b.1)).2) : Bool × List Nat).2.getD j 0)) → Q (some (.int y)) g' := fin
        have c57 := c_X6_carry_57 (X := X) (R := rm (d + 5) 0 0) (Q := Q) (nx := nx) (sz := sz) (mc := 0) (ms := 0) (h := g') (x1 := nI r) (x3 := nI t) (x4 := nI i) (s0 := heB (some b)) hA0 hFg' (fun _ => vin (by omega) (by decide)) (fun _ => vin (by omega) (by decide)) (fun _ => by rw [en]; exact vin (by omega) (by decide))
        rw [tb', ti, q63, en] at c57
        by_cases q : b.1 = t
        · rw [if_pos q] at fin
          refine c57 (fun _ z => absurd (et.mpr q) z) (fun _ _ => fin 1 _ (cySc s') rfl rfl old (fun j hj => ?_)) (fun z => absurd z nm)
          have hj : j = 0 := by
            have : j < 1 := hj
            omega
          subst hj
          exact new
        · rw [if_neg q] at fin
          refine c57 (fun _ _ => ?_) (fun _ z => absurd (et.mp z) q) (fun z => absurd z nm)
          refine ih (i + 1) b.1 (vis V b.1) _ (by omega) b1 (cySc s') (fun k h1 h2 => by rw [cy39]; exact z' k h1 h2) hv new rfl (fun y g2 a1 a2 a3 a4 a5 => fin y g2 a1 a2 ?_ (fun j hj => (a4 j (by omega)).trans (old j hj)) (fun j hj => ?_))
          · rw [a3]
            show nI (i + 1 + (goL c (h.1 2) n t f b.1 (vis V b.1)).2.length) = nI (i + ((goL c (h.1 2) n t f b.1 (vis V b.1)).2.length + 1))
            congr 1
            omega
          · cases j with
            | zero => exact (a4 (i + 1) (Nat.le_refl _)).trans new
            | succ j =>
              rw [show i + 1 + (j + 1) = i + 1 + 1 + j by omega]
              exact a5 j (Nat.lt_of_succ_lt_succ hj)
  refine key 60 0 fr (fun k => if k = fr then 1 else 0) _ (by omega) h1 (cySc s2) (fun k h1 h2 => ?_) (fun k hk => ?_) ?_ rfl (fun y g' a1 a2 a3 a4 a5 => ?_)
  · rw [cy39, b1 39 (by decide)]
    exact a0 k h2
  · rw [cy64]
    by_cases w : k = fr
    · rw [if_pos w, if_pos w]
    · rw [if_neg w, if_neg w]
      exact b0 k hk
  · rw [cy65, if_pos rfl]
  · rw [hQ]
    refine ⟨_, rfl, a1, a2, ?_, ?_, fun j hj => ?_⟩
    · rw [a3, Nat.zero_add]
    · rw [a4 0 (Nat.le_refl _), cy65, if_pos rfl]
    · have := a5 j hj
      rw [show 0 + 1 + j = j + 1 by omega] at this
      exact this
end OPS

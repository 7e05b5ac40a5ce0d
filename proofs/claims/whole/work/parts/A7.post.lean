/-! post: the other side carries -/
section OPS
variable {X : CX} {d D nx sz : Nat} {h h0 : AH} {p : Nat → Int32} {n ln : Nat} {T : Nat → Nat} {c : List Nat}
theorem gy86 {a m j : Nat} {x y z : Int32} : (setI (setI (setI h 68 41 x) 86 m y) 85 a z).1 86 j = if j = m then y else h.1 86 j := by
  rw [setI_b (by decide)]
  show (if 86 = 86 ∧ j = m then y else (setI h 68 41 x).1 86 j) = _
  by_cases q : j = m
  · rw [if_pos ⟨rfl, q⟩, if_pos q]
  · rw [if_neg (fun w => q w.2), if_neg q, setI_b (by decide)]
theorem gy85 {a m j : Nat} {x y z : Int32} : (setI (setI (setI h 68 41 x) 86 m y) 85 a z).1 85 j = if j = a then z else h.1 85 j := by
  show (if 85 = 85 ∧ j = a then z else (setI (setI h 68 41 x) 86 m y).1 85 j) = _
  by_cases q : j = a
  · rw [if_pos ⟨rfl, q⟩, if_pos q]
  · rw [if_neg (fun w => q w.2), if_neg q, setI_b (by decide), setI_b (by decide)]
theorem gy68 {a m : Nat} {x y z : Int32} : (setI (setI (setI h 68 41 x) 86 m y) 85 a z).1 68 41 = x := by
  rw [setI_b (by decide), setI_b (by decide)]
  show (if 68 = 68 ∧ 41 = 41 then x else h.1 68 41) = x
  exact if_pos ⟨rfl, rfl⟩
theorem gySc {g : AH} {a m : Nat} {x y z : Int32} (s : Sc h g) : Sc h (setI (setI (setI g 68 41 x) 86 m y) 85 a z) := ((s.setI (by decide)).setI (scrA_all (by decide) _)).setI (scrA_all (by decide) _)
theorem MP.sc {g : AH} (P : MP h n) (s : Sc h g) : MP g n := ⟨(s.1 68 1 rfl).trans P.1, P.2⟩
theorem t_goes {r fr t : Nat} (hA0 : 91 ≤ nx) (hF : Fx h) (hp : MP h n) (h1 : fr < n) (ht : t < n) (hne : fr ≠ t) (hr : r < 6) (R : RulA h r T ln c) : Mk X (D + 34) m_X12_goes [.ref 68, .int (nI r), .int (nI fr), .int (nI t)] h nx sz (RI fun y g => Sc h g ∧ y = (if (goL c (h.1 73) n t 60 fr (fun k => if k = fr then 1 else 0)).1 = true then 1 else 0) ∧ g.1 68 41 = nI (goL c (h.1 73) n t 60 fr (fun k => if k = fr then 1 else 0)).2.length ∧ g.1 86 0 = nI fr ∧ ∀ j, j < (goL c (h.1 73) n t 60 fr (fun k => if k = fr then 1 else 0)).2.length → g.1 86 (j + 1) = nI ((goL c (h.1 73) n t 60 fr (fun k => if k = fr then 1 else 0)).2.getD j 0)) := by
  obtain ⟨n0, n2, n20⟩ := id hp
  refine e_X12_goes (c_X12_goes_0 ?_)
  obtain ⟨Q, hQ⟩ : ∃ Q, Q = (RI fun y g => Sc h g ∧ y = (if (goL c (h.1 73) n t 60 fr (fun k => if k = fr then 1 else 0)).1 = true then 1 else 0) ∧ g.1 68 41 = nI (goL c (h.1 73) n t 60 fr (fun k => if k = fr then 1 else 0)).2.length ∧ g.1 86 0 = nI fr ∧ ∀ j, j < (goL c (h.1 73) n t 60 fr (fun k => if k = fr then 1 else 0)).2.length → g.1 86 (j + 1) = nI ((goL c (h.1 73) n t 60 fr (fun k => if k = fr then 1 else 0)).2.getD j 0)) := ⟨_, rfl⟩
  rw [← hQ]
  have key : ∀ (f i hd : Nat) (V : Nat → Int32) (g : AH), i + f = 60 → hd < n → hd ≠ t → Sc h g → (∀ k, k < n → g.1 85 k = V k) → g.1 86 i = nI hd → g.1 68 41 = nI i → (∀ y g', Sc h g' → y = (if (goL c (h.1 73) n t f hd V).1 = true then 1 else 0) → g'.1 68 41 = nI (i + (goL c (h.1 73) n t f hd V).2.length) → (∀ j, j ≤ i → g'.1 86 j = g.1 86 j) → (∀ j, j < (goL c (h.1 73) n t f hd V).2.length → g'.1 86 (i + 1 + j) = nI ((goL c (h.1 73) n t f hd V).2.getD j 0)) → Q (some (.int y)) g') → VM X m_X12_goes (D + 34) nx sz Q 45 [some (.ref 68), some (.int (nI r)), none, some (.int (nI t)), none] [] g := by
    intro f
    induction f with
    | zero =>
      intro i hd V g hi hh hne s hV e86 e68 fin
      have hi : i = 60 := by omega
      subst hi
      have te : (g.1 68 41).toNatClampNeg = 60 := by rw [e68]; exact tN (by decide)
      have ne : ¬ g.1 86 (g.1 68 41).toNatClampNeg = nI t := by
        rw [te, e86]
        exact fun z => hne ((nI_eq (by omega) (by omega)).mp z)
      have v : vp_in (g.1 68 41) 61 := by rw [e68]; exact vin (by decide) (by decide)
      have yes : (60 : Int32) ≤ g.1 68 41 := by rw [e68]; exact Int32.le_refl _
      exact c_X12_goes_45 (d := D + 33) (P79 := fun _ _ => False) hA0 (hF.sc s) RO_rm hcs0 v (fun _ => v) (fun z => absurd z ne) (fun z => absurd z ne) (fun _ _ => v) (fun _ _ _ => fin 0 g s rfl e68 (fun _ _ => rfl) (fun j hj => by cases hj)) (fun _ _ z => absurd z ne) (fun _ z => absurd yes z) (fun _ z => absurd yes z) (fun _ z => absurd yes z)
    | succ f ih =>
      intro i hd V g hi hh hne s hV e86 e68 fin
      have te : (g.1 68 41).toNatClampNeg = i := by rw [e68]; exact tN (by omega)
      have e1 : g.1 86 (g.1 68 41).toNatClampNeg = nI hd := by rw [te, e86]
      have ne : ¬ g.1 86 (g.1 68 41).toNatClampNeg = nI t := by
        rw [e1]
        exact fun z => hne ((nI_eq (by omega) (by omega)).mp z)
      have v : vp_in (g.1 68 41) 61 := by rw [e68]; exact vin (by omega) (by decide)
      have no : ¬ (60 : Int32) ≤ g.1 68 41 := fun z => by
        rw [e68] at z
        have z : nI 60 ≤ nI i := z
        rw [le_nI (by decide) (by omega)] at z
        omega
      have hFg := hF.sc s
      have r73 : g.1 73 = h.1 73 := s.row (fun j => rfl)
      refine c_X12_goes_45 hA0 hFg RO_rm hcs0 v (fun _ => v) (fun z => absurd z ne) (fun z => absurd z ne) (fun _ _ => v) (fun _ z => absurd z no) (fun _ z => absurd z no) (fun _ _ => v) (fun _ _ => by rw [e1]; exact t_givesTo (D := D) hA0 hFg (hp.sc s) hh ht hr (R.sc s)) ?_
      rintro _ _ _ g' ⟨rfl, fg⟩
      rw [r73, heF_congr n (fun i hi => gvW_congr (V' := V) (hV i hi))]
      have s' := s.trans fg.1
      have hFg' := hF.sc s'
      unfold goL at fin
      cases e : heF (h.1 73) hd (gvW c (h.1 73) V hd t) n with
      | none =>
        rw [e] at fin
        refine c_X12_goes_82 hA0 hFg' (fun z => absurd rfl z) (fun z => absurd rfl z) (fun z => absurd rfl z) (fun z => absurd rfl z) (fun _ => fin 0 g' s' rfl ?_ (fun j _ => fg.2.2.1 j) (fun j hj => by cases hj))
        rw [fg.2.2.2]
        exact e68
      | some b =>
        rw [e] at fin
        obtain ⟨b1, b2⟩ := heF_lt n b e
        have nm : ¬ heB (some b) = -1 := nI_m1 (by omega)
        have tb' : (heB (some b)).toNatClampNeg = b.1 := tN (by omega)
        have g68 : g'.1 68 41 = nI i := fg.2.2.2.trans e68
        have q68 : g'.1 68 41 + 1 = nI (i + 1) := by rw [g68, nI_1]
        have ti : (nI (i + 1)).toNatClampNeg = i + 1 := tN (by omega)
        have g85 : ∀ k, k < n → g'.1 85 k = V k := fun k hk => (fg.2.1 k).trans (hV k hk)
        have hv : ∀ k, k < n → (setI (setI (setI g' 68 41 (nI (i + 1))) 86 (i + 1) (heB (some b))) 85 b.1 (g'.1 85 b.1 + 1)).1 85 k = vis V b.1 k := fun k hk => by
          rw [gy85]
          unfold vis
          by_cases w : k = b.1
          · rw [if_pos w, if_pos w, g85 b.1 (by omega)]
          · rw [if_neg w, if_neg w, g85 k hk]
        have old : ∀ j, j ≤ i → (setI (setI (setI g' 68 41 (nI (i + 1))) 86 (i + 1) (heB (some b))) 85 b.1 (g'.1 85 b.1 + 1)).1 86 j = g.1 86 j := fun j hj => by
          rw [gy86, if_neg (by omega)]
          exact fg.2.2.1 j
        have new : (setI (setI (setI g' 68 41 (nI (i + 1))) 86 (i + 1) (heB (some b))) 85 b.1 (g'.1 85 b.1 + 1)).1 86 (i + 1) = nI b.1 := by
          rw [gy86, if_pos rfl]
          rfl
        have new68 : (setI (setI (setI g' 68 41 (nI (i + 1))) 86 (i + 1) (heB (some b))) 85 b.1 (g'.1 85 b.1 + 1)).1 68 41 = nI (i + 1) := gy68
        have fin : ∀ y g', Sc h g' → y = (if (if b.1 = t then (true, [b.1]) else ((goL c (h.1 73) n t f b.1 (vis V b.1)).1, b.1 :: (goL c (h.1 73) n t f b.1 (vis V b.1)).2) : Bool × List Nat).1 = true then 1 else 0) → g'.1 68 41 = nI (i + (if b.1 = t then (true, [b.1]) else ((goL c (h.1 73) n t f b.1 (vis V b.1)).1, b.1 :: (goL c (h.1 73) n t f b.1 (vis V b.1)).2) : Bool × List Nat).2.length) → (∀ j, j ≤ i → g'.1 86 j = g.1 86 j) → (∀ j, j < (if b.1 = t then (true, [b.1]) else ((goL c (h.1 73) n t f b.1 (vis V b.1)).1, b.1 :: (goL c (h.1 73) n t f b.1 (vis V b.1)).2) : Bool × List Nat).2.length → g'.1 86 (i + 1 + j) = nI ((if b.1 = t then (true, [b.1]) else ((goL c (h.1 73) n t f b.1 (vis V b.1)).1, b.1 :: (goL c (h.1 73) n t f b.1 (vis V b.1)).2) : Bool × List Nat).2.getD j 0)) → Q (some (.int y)) g' := fin
        have c82 := c_X12_goes_82 (X := X) (R := rm (D + 34) 0 0) (Q := Q) (nx := nx) (sz := sz) (mc := 0) (ms := 0) (h := g') (x1 := nI r) (x3 := nI t) (s0 := heB (some b)) hA0 hFg' (fun _ => by rw [q68]; exact vin (by omega) (by decide)) (fun _ => vin (by omega) (by decide)) (fun _ => vin (by omega) (by decide))
        rw [tb', q68, ti] at c82
        refine c82 (fun _ => ?_) (fun z => absurd z nm)
        have sG := gySc (a := b.1) (m := i + 1) (x := nI (i + 1)) (y := heB (some b)) (z := g'.1 85 b.1 + 1) s'
        obtain ⟨G, eG⟩ : ∃ G, G = setI (setI (setI g' 68 41 (nI (i + 1))) 86 (i + 1) (heB (some b))) 85 b.1 (g'.1 85 b.1 + 1) := ⟨_, rfl⟩
        rw [← eG] at hv old new new68 sG ⊢
        by_cases q : b.1 = t
        · rw [if_pos q] at fin
          have yes : G.1 86 (G.1 68 41).toNatClampNeg = nI t := by rw [new68, ti, new, q]
          have vG : vp_in (G.1 68 41) 61 := by rw [new68]; exact vin (by omega) (by decide)
          refine c_X12_goes_45 (d := D + 33) (P79 := fun _ _ => False) hA0 (hF.sc sG) RO_rm hcs0 vG (fun _ => vG) (fun _ z => absurd yes z) (fun _ _ => fin 1 G sG rfl new68 old (fun j hj => ?_)) (fun z => absurd yes z) (fun z => absurd yes z) (fun z => absurd yes z) (fun z => absurd yes z) (fun z => absurd yes z) (fun z => absurd yes z)
          have hj : j = 0 := by
            have : j < 1 := hj
            omega
          subst hj
          exact new
        · rw [if_neg q] at fin
          refine ih (i + 1) b.1 (vis V b.1) G (by omega) b1 q sG hv new new68 (fun y g2 a1 a2 a3 a4 a5 => fin y g2 a1 a2 ?_ (fun j hj => (a4 j (by omega)).trans (old j hj)) (fun j hj => ?_))
          · rw [a3]
            show nI (i + 1 + (goL c (h.1 73) n t f b.1 (vis V b.1)).2.length) = nI (i + ((goL c (h.1 73) n t f b.1 (vis V b.1)).2.length + 1))
            congr 1
            omega
          · cases j with
            | zero => exact (a4 (i + 1) (Nat.le_refl _)).trans new
            | succ j =>
              rw [show i + 1 + (j + 1) = i + 1 + 1 + j by omega]
              exact a5 j (Nat.lt_of_succ_lt_succ hj)
  have clr : ∀ g, g.2 = h.2 → (∀ b j, b ≠ 85 → g.1 b j = h.1 b j) → (∀ j, j < 0 → g.1 85 j = 0) → VM X m_X12_goes (D + 34) nx sz Q 3 [some (.ref 68), some (.int (nI r)), some (.int (nI fr)), some (.int (nI t)), some (.int (nI 0))] [] g := by
    refine down_ind (N := n) (P := fun i => ∀ g, g.2 = h.2 → (∀ b j, b ≠ 85 → g.1 b j = h.1 b j) → (∀ j, j < i → g.1 85 j = 0) → VM X m_X12_goes (D + 34) nx sz Q 3 [some (.ref 68), some (.int (nI r)), some (.int (nI fr)), some (.int (nI t)), some (.int (nI i))] [] g) ?_ (fun i hi q => ?_)
    · intro g g2 gb g0
      have s : Sc h g := ⟨fun a j hj => gb a j (fun z => by subst z; cases hj), fun k j _ => by rw [g2], fun z => by unfold TXT; rw [g2]; exact z⟩
      have yes : g.1 68 1 ≤ nI n := by
        rw [gb 68 1 (by decide), n0]
        exact Int32.le_refl _
      refine c_X12_goes_3 hA0 (hF.of g2) (fun _ => vin (by omega) (by decide)) (fun _ => ?_) (fun z => absurd yes z) (fun z => absurd yes z)
      rw [tN (by omega)]
      refine key 60 0 fr (fun k => if k = fr then 1 else 0) _ (by omega) h1 hne (gySc s) (fun k hk => ?_) ?_ gy68 (fun y g' a1 a2 a3 a4 a5 => ?_)
      · rw [gy85]
        by_cases w : k = fr
        · rw [if_pos w, if_pos w]
        · rw [if_neg w, if_neg w]
          exact g0 k hk
      · rw [gy86, if_pos rfl]
      · rw [hQ]
        refine ⟨_, rfl, a1, a2, ?_, ?_, fun j hj => ?_⟩
        · rw [a3, Nat.zero_add]
        · rw [a4 0 (Nat.le_refl _), gy86, if_pos rfl]
        · have := a5 j hj
          rw [show 0 + 1 + j = j + 1 by omega] at this
          exact this
    · intro g g2 gb g0
      have no : ¬ g.1 68 1 ≤ nI i := fun z => by
        rw [gb 68 1 (by decide), n0, le_nI (by omega) (by omega)] at z
        omega
      refine c_X12_goes_3 hA0 (hF.of g2) (fun z => absurd z no) (fun z => absurd z no) (fun _ => vin (by omega) (by decide)) (fun _ => ?_)
      rw [tN (by omega), nI_1]
      refine q _ g2 (fun b j hb => (setI_b hb).trans (gb b j hb)) (fun j hj => ?_)
      show (if 85 = 85 ∧ j = i then 0 else g.1 85 j) = 0
      by_cases w : j = i
      · exact if_pos ⟨rfl, w⟩
      · rw [if_neg (fun z => w z.2)]
        exact g0 j (by omega)
  exact clr h rfl (fun _ _ _ => rfl) (fun j hj => by omega)
end OPS
